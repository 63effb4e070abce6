-- needs: 66
noncomputable section
/-- the class's orders: input, length, cursor, number of orders -/
def OrI (h : AH) (I : Nat → Int32) (L a n : Nat) : Prop := h.1 207 = I ∧ h.1 206 5 = nI L ∧ L ≤ 60 ∧ h.1 206 6 = nI a ∧ a ≤ 60 ∧ h.1 206 7 = nI n ∧ n ≤ 60
def FrC (h h' : AH) : Prop := (∀ j, j ≠ 6 → h'.1 206 j = h.1 206 j) ∧ (∀ a, a ≠ 206 → h'.1 a = h.1 a) ∧ h'.2 = h.2
theorem FrC.rf {h : AH} : FrC h h := ⟨fun _ _ => rfl, fun _ _ => rfl, rfl⟩
theorem FrC.tr {a b c : AH} (h1 : FrC a b) (h2 : FrC b c) : FrC a c := ⟨fun j x => (h2.1 j x).trans (h1.1 j x), fun k x => (h2.2.1 k x).trans (h1.2.1 k x), h2.2.2.trans h1.2.2⟩
theorem FrC.cu {h : AH} {x : Int32} : FrC h (hI h 206 6 x) := ⟨fun j a => by rw [hI_at, upd_ne a], fun a x => hI_ne x, rfl⟩
theorem OrI.cu {h : AH} {I : Nat → Int32} {L a n : Nat} (H : OrI h I L a n) {b : Nat} (hb : b ≤ 60) : OrI (hI h 206 6 (nI b)) I L b n := ⟨by rw [hI_ne (by decide)]; exact H.1, by rw [hI_at, upd_ne (by decide)]; exact H.2.1, H.2.2.1, by rw [hI_at, upd_eq], hb, by rw [hI_at, upd_ne (by decide)]; exact H.2.2.2.2.2.1, H.2.2.2.2.2.2⟩
theorem p_goPast (d : Nat) {h : AH} {I : Nat → Int32} {L a n : Nat} (H : OrI h I L a n) (c : Int32) : WM d mX6_goPast [.ref 206, .int c] h (fun v h' => v = some (.int (bI ((mustS I L (a, false) c).2 = false))) ∧ OrI h' I L (mustS I L (a, false) c).1 n ∧ FrC h h') := by
  obtain ⟨e1, e2, e3, e4, e5, e6, e7⟩ := id H
  have p0 : (0 : Int32) ≤ nI a := nI_pos' (by omega)
  by_cases c1 : a < L
  · by_cases c2 : I a = c
    · have es : seeB I L (a, false) c c = true := by
        unfold seeB
        rw [decide_eq_true c1, decide_eq_true ⟨by rw [show I (a, false).1 = c from c2]; exact Int32.le_refl _, by rw [show I (a, false).1 = c from c2]; exact Int32.le_refl _⟩]
        rfl
      rw [mustS_t es]
      have J := H.cu (b := a + 1) (by omega)
      show WX _ _ 0 [(0, _), (1, _)] [] _ _
      iterate 2 refine ex_s rfl ?_
      refine ex_b rfl rfl (fun q => absurd q (by rw [e4]; exact Int32.not_lt.mpr p0)) (fun _ => ?_)
      iterate 4 refine ex_s rfl ?_
      refine ex_b rfl rfl (fun q => absurd q (by rw [e4, e2]; exact nI_ge c1 (by omega))) (fun _ => ?_)
      iterate 3 refine ex_s rfl ?_
      refine ex_b rfl rfl (fun q => absurd q (by rw [e4]; exact nI_ge (b := 60) (by omega) (by omega))) (fun _ => ?_)
      iterate 4 refine ex_s rfl ?_
      rw [show fv 0 (h.1 206 6) = Value.int (nI a) from congrArg Value.int e4]
      refine ex_cl rfl rfl (vi) ?_
      rw [cl a, e1]
      refine ex_s rfl ?_
      refine ex_b rfl rfl (fun _ => ?_) (fun q => absurd c2 q)
      iterate 3 refine ex_s rfl ?_
      rw [show fv 0 (h.1 206 6) = Value.int (nI a) from congrArg Value.int e4]
      iterate 2 refine ex_s rfl ?_
      rw [nI_1]
      iterate 2 refine ex_s rfl ?_
      refine ex_q (ret_bK rfl rfl) ?_
      exact ⟨rfl, J, FrC.cu⟩
    · have es : ¬ seeB I L (a, false) c c = true := fun q => c2 (see_I q)
      rw [mustS_f es]
      show WX _ _ 0 [(0, _), (1, _)] [] _ _
      iterate 2 refine ex_s rfl ?_
      refine ex_b rfl rfl (fun q => absurd q (by rw [e4]; exact Int32.not_lt.mpr p0)) (fun _ => ?_)
      iterate 4 refine ex_s rfl ?_
      refine ex_b rfl rfl (fun q => absurd q (by rw [e4, e2]; exact nI_ge c1 (by omega))) (fun _ => ?_)
      iterate 3 refine ex_s rfl ?_
      refine ex_b rfl rfl (fun q => absurd q (by rw [e4]; exact nI_ge (b := 60) (by omega) (by omega))) (fun _ => ?_)
      iterate 4 refine ex_s rfl ?_
      rw [show fv 0 (h.1 206 6) = Value.int (nI a) from congrArg Value.int e4]
      refine ex_cl rfl rfl (vi) ?_
      rw [cl a, e1]
      refine ex_s rfl ?_
      refine ex_b rfl rfl (fun q => absurd q c2) (fun _ => ?_)
      refine ex_s rfl ?_
      refine ex_q (ret_bK rfl rfl) ?_
      exact ⟨rfl, H, FrC.rf⟩
  · have es : ¬ seeB I L (a, false) c c = true := fun q => c1 (seeB_w q).2.1
    rw [mustS_f es]
    show WX _ _ 0 [(0, _), (1, _)] [] _ _
    iterate 2 refine ex_s rfl ?_
    refine ex_b rfl rfl (fun q => absurd q (by rw [e4]; exact Int32.not_lt.mpr p0)) (fun _ => ?_)
    iterate 4 refine ex_s rfl ?_
    refine ex_b rfl rfl (fun _ => ?_) (fun q => absurd (by rw [e4, e2]; exact nI_le (by omega) (by omega)) q)
    refine ex_s rfl ?_
    refine ex_q (ret_bK rfl rfl) ?_
    exact ⟨rfl, H, FrC.rf⟩
/-- digits: -1 where none stands -/
def dgI (q : Nat × TS) : Int32 := if q.2.2 = true then -1 else nI q.1
theorem p_dg_loop (d n9 : Nat) (hn9 : n9 < 3) {I : Nat → Int32} {L n : Nat} : ∀ (m i v a : Nat) (v9 : Int32) (h : AH), i + m = n9 → OrI h I L a n → (if v9 < 0 then 0 else v9) = nI v → (i = 0 → v9 = -1 ∧ v = 0) → (i ≠ 0 → v9 = nI v) → v < 10 ^ i → WX d mX6_digits 4 [(0, .ref 206), (1, .int (nI n9)), (2, .int v9), (3, .int (nI i))] [] h (fun rv h' => rv = some (.int (if i = 0 ∧ (numL I L m v a).2 = a then -1 else nI (numL I L m v a).1)) ∧ OrI h' I L (numL I L m v a).2 n ∧ FrC h h')
  | 0, i, v, a, v9, h, hi, H, hv, h0, h1, hvb => by
    have hi : i = n9 := by omega
    subst hi
    show WX d mX6_digits 4 _ [] h (fun rv h' => rv = some (.int (if i = 0 ∧ a = a then -1 else nI v)) ∧ OrI h' I L a n ∧ FrC h h')
    by_cases e : i = 0
    · rw [if_pos ⟨e, rfl⟩]
      iterate 2 refine ex_s rfl ?_
      refine ex_b rfl rfl (fun _ => ?_) (fun q => absurd (Int32.le_refl _) q)
      refine ex_s rfl ?_
      refine ex_q rfl ?_
      exact ⟨congrArg (fun x => some (Value.int x)) (h0 e).1, H, FrC.rf⟩
    · rw [if_neg (fun q => e q.1)]
      iterate 2 refine ex_s rfl ?_
      refine ex_b rfl rfl (fun _ => ?_) (fun q => absurd (Int32.le_refl _) q)
      refine ex_s rfl ?_
      refine ex_q rfl ?_
      exact ⟨congrArg (fun x => some (Value.int x)) (h1 e), H, FrC.rf⟩
  | m + 1, i, v, a, v9, h, hi, H, hv, h0, h1, hvb => by
    obtain ⟨e1, e2, e3, e4, e5, e6, e7⟩ := id H
    have p0 : (0 : Int32) ≤ nI a := nI_pos' (by omega)
    by_cases c1 : seeB I L (a, false) 48 57 = true
    · obtain ⟨-, w2, w3, w4⟩ := seeB_w c1
      have w2 : a < L := w2
      obtain ⟨d1, d2⟩ := dg_nI w3 w4
      have d2 : dgN I a ≤ 9 := d2
      have w3 : 48 ≤ I a := w3
      have w4 : I a ≤ 57 := w4
      have hX : 10 ^ i ≤ 100 := Nat.pow_le_pow_right (show 0 < 10 by decide) (show i ≤ 2 by omega)
      have hX2 : 10 ^ (i + 1) = 10 ^ i * 10 := rfl
      have en : numL I L (m + 1) v a = numL I L m (10 * v + dgN I a) (a + 1) := if_pos c1
      rw [en]
      have J := H.cu (b := a + 1) (by omega)
      have ev : nI v * 10 + (I a - 48) = nI (10 * v + dgN I a) := by
        rw [show I a = nI (48 + dgN I a) from d1, show (10 : Int32) = nI 10 from rfl, pk_mul, show (48 : Int32) = nI 48 from rfl, nI_sub (by omega), nI_add]
        exact congrArg nI (by omega)
      have nlt : ¬ nI (10 * v + dgN I a) < 0 := Int32.not_lt.mpr (nI_pos' (by omega))
      have le := numL_le (I := I) (L := L) m (10 * v + dgN I a) (a + 1)
      have IH := (p_dg_loop d n9 hn9 m (i + 1) (10 * v + dgN I a) (a + 1) (nI (10 * v + dgN I a)) (hI h 206 6 (nI (a + 1))) (by omega) J (by rw [if_neg nlt]) (fun z => absurd z (by omega)) (fun _ => rfl) (by omega)).mono (P := fun rv h' => rv = some (.int (if i = 0 ∧ (numL I L m (10 * v + dgN I a) (a + 1)).2 = a then -1 else nI (numL I L m (10 * v + dgN I a) (a + 1)).1)) ∧ OrI h' I L (numL I L m (10 * v + dgN I a) (a + 1)).2 n ∧ FrC h h') (fun rv h' z => ⟨by rw [if_neg (by omega)]; rw [if_neg (by omega)] at z; exact z.1, z.2.1, FrC.cu.tr z.2.2⟩)
      iterate 2 refine ex_s rfl ?_
      refine ex_b rfl rfl (fun q => absurd q (nI_ge (by omega) (by omega))) (fun _ => ?_)
      iterate 2 refine ex_s rfl ?_
      refine ex_b rfl rfl (fun q => absurd q (by rw [e4]; exact Int32.not_lt.mpr p0)) (fun _ => ?_)
      iterate 4 refine ex_s rfl ?_
      refine ex_b rfl rfl (fun q => absurd q (by rw [e4, e2]; exact nI_ge w2 (by omega))) (fun _ => ?_)
      iterate 3 refine ex_s rfl ?_
      refine ex_b rfl rfl (fun _ => ?_) (fun q => absurd (by rw [e4]; exact Int32.not_le.mp (nI_ge (b := 60) (by omega) (by omega))) q)
      iterate 4 refine ex_s rfl ?_
      rw [show fv 0 (h.1 206 6) = Value.int (nI a) from congrArg Value.int e4]
      refine ex_cl rfl rfl (vi) ?_
      rw [cl a, e1]
      iterate 3 refine ex_s rfl ?_
      refine ex_b rfl rfl (fun q => absurd q (Int32.not_lt.mpr w3)) (fun _ => ?_)
      iterate 2 refine ex_s rfl ?_
      refine ex_b rfl rfl (fun _ => ?_) (fun q => absurd w4 q)
      iterate 3 refine ex_s rfl ?_
      rw [hv]
      iterate 6 refine ex_s rfl ?_
      rw [ev]
      iterate 4 refine ex_s rfl ?_
      rw [show fv 0 (h.1 206 6) = Value.int (nI a) from congrArg Value.int e4]
      iterate 2 refine ex_s rfl ?_
      rw [nI_1]
      iterate 2 refine ex_s rfl ?_
      refine ex_g rfl rfl ?_
      rw [nI_1]
      exact ex_sub (sub4 rfl rfl rfl rfl) IH
    · have en : numL I L (m + 1) v a = (v, a) := if_neg c1
      rw [en]
      have er : some (Value.int v9) = some (Value.int (if i = 0 ∧ a = a then -1 else nI v)) := by
        by_cases e : i = 0
        · rw [if_pos ⟨e, rfl⟩, (h0 e).1]
        · rw [if_neg (fun q => e q.1), h1 e]
      by_cases c2 : a < L
      · by_cases c3 : I a < 48
        · iterate 2 refine ex_s rfl ?_
          refine ex_b rfl rfl (fun q => absurd q (nI_ge (by omega) (by omega))) (fun _ => ?_)
          iterate 2 refine ex_s rfl ?_
          refine ex_b rfl rfl (fun q => absurd q (by rw [e4]; exact Int32.not_lt.mpr p0)) (fun _ => ?_)
          iterate 4 refine ex_s rfl ?_
          refine ex_b rfl rfl (fun q => absurd q (by rw [e4, e2]; exact nI_ge c2 (by omega))) (fun _ => ?_)
          iterate 3 refine ex_s rfl ?_
          refine ex_b rfl rfl (fun _ => ?_) (fun q => absurd (by rw [e4]; exact Int32.not_le.mp (nI_ge (b := 60) (by omega) (by omega))) q)
          iterate 4 refine ex_s rfl ?_
          rw [show fv 0 (h.1 206 6) = Value.int (nI a) from congrArg Value.int e4]
          refine ex_cl rfl rfl (vi) ?_
          rw [cl a, e1]
          iterate 3 refine ex_s rfl ?_
          refine ex_b rfl rfl (fun _ => ?_) (fun q => absurd c3 q)
          refine ex_s rfl ?_
          refine ex_q rfl ?_
          exact ⟨er, H, FrC.rf⟩
        · have c4 : ¬ I a ≤ 57 := fun q => c1 (by
            unfold seeB
            rw [decide_eq_true (show (a, false).1 < L from c2), decide_eq_true (show 48 ≤ I (a, false).1 ∧ I (a, false).1 ≤ 57 from ⟨Int32.not_lt.mp c3, q⟩)]
            rfl)
          iterate 2 refine ex_s rfl ?_
          refine ex_b rfl rfl (fun q => absurd q (nI_ge (by omega) (by omega))) (fun _ => ?_)
          iterate 2 refine ex_s rfl ?_
          refine ex_b rfl rfl (fun q => absurd q (by rw [e4]; exact Int32.not_lt.mpr p0)) (fun _ => ?_)
          iterate 4 refine ex_s rfl ?_
          refine ex_b rfl rfl (fun q => absurd q (by rw [e4, e2]; exact nI_ge c2 (by omega))) (fun _ => ?_)
          iterate 3 refine ex_s rfl ?_
          refine ex_b rfl rfl (fun _ => ?_) (fun q => absurd (by rw [e4]; exact Int32.not_le.mp (nI_ge (b := 60) (by omega) (by omega))) q)
          iterate 4 refine ex_s rfl ?_
          rw [show fv 0 (h.1 206 6) = Value.int (nI a) from congrArg Value.int e4]
          refine ex_cl rfl rfl (vi) ?_
          rw [cl a, e1]
          iterate 3 refine ex_s rfl ?_
          refine ex_b rfl rfl (fun q => absurd q c3) (fun _ => ?_)
          iterate 2 refine ex_s rfl ?_
          refine ex_b rfl rfl (fun q => absurd q c4) (fun _ => ?_)
          refine ex_s rfl ?_
          refine ex_q rfl ?_
          exact ⟨er, H, FrC.rf⟩
      · iterate 2 refine ex_s rfl ?_
        refine ex_b rfl rfl (fun q => absurd q (nI_ge (by omega) (by omega))) (fun _ => ?_)
        iterate 2 refine ex_s rfl ?_
        refine ex_b rfl rfl (fun q => absurd q (by rw [e4]; exact Int32.not_lt.mpr p0)) (fun _ => ?_)
        iterate 4 refine ex_s rfl ?_
        refine ex_b rfl rfl (fun _ => ?_) (fun q => absurd (by rw [e4, e2]; exact nI_le (by omega) (by omega)) q)
        refine ex_s rfl ?_
        refine ex_q rfl ?_
        exact ⟨er, H, FrC.rf⟩
theorem p_digits (d n9 : Nat) (hn0 : 0 < n9) (hn9 : n9 < 3) {h : AH} {I : Nat → Int32} {L a n : Nat} (H : OrI h I L a n) : WM d mX6_digits [.ref 206, .int (nI n9)] h (fun rv h' => rv = some (.int (dgI (numS I L n9 (a, false)))) ∧ OrI h' I L (numS I L n9 (a, false)).2.1 n ∧ FrC h h') := by
  have Z := (p_dg_loop d n9 hn9 n9 0 0 a (-1) h (by omega) H (by decide) (fun _ => ⟨rfl, rfl⟩) (fun z => absurd rfl z) (by decide)).mono (P := fun rv h' => rv = some (.int (dgI (numS I L n9 (a, false)))) ∧ OrI h' I L (numS I L n9 (a, false)).2.1 n ∧ FrC h h') (fun rv h' z => by
    obtain ⟨m, rfl⟩ : ∃ m, n9 = m + 1 := ⟨n9 - 1, by omega⟩
    by_cases c : seeB I L (a, false) 48 57 = true
    · have e : numS I L (m + 1) (a, false) = ((numL I L (m + 1) 0 a).1, ((numL I L (m + 1) 0 a).2, false)) := if_pos c
      have en : numL I L (m + 1) 0 a = numL I L m (10 * 0 + dgN I a) (a + 1) := if_pos c
      have le := numL_le (I := I) (L := L) m (10 * 0 + dgN I a) (a + 1)
      rw [e]
      have ne : ¬ (0 = 0 ∧ (numL I L (m + 1) 0 a).2 = a) := fun q => by rw [en] at q; omega
      rw [if_neg ne] at z
      exact ⟨z.1, z.2.1, z.2.2⟩
    · have e : numS I L (m + 1) (a, false) = (0, (a, true)) := if_neg c
      have en : numL I L (m + 1) 0 a = (0, a) := if_neg c
      rw [e]
      rw [en, if_pos ⟨rfl, rfl⟩] at z
      exact ⟨z.1, z.2.1, z.2.2⟩)
  show WX _ _ 0 [(0, _), (1, _)] [] _ _
  iterate 4 refine ex_s rfl ?_
  exact ex_sub (sub4 rfl rfl rfl rfl) Z
end
