-- needs: 73
noncomputable section
def FrU (h h' : AH) : Prop := (∀ j, j ≠ 6 → j ≠ 7 → j ≠ 8 → h'.1 206 j = h.1 206 j) ∧ (∀ a, a ≠ 206 → (a < 208 ∨ 211 < a) → h'.1 a = h.1 a) ∧ h'.2 = h.2
theorem FrU.tr {a b c : AH} (h1 : FrU a b) (h2 : FrU b c) : FrU a c := ⟨fun j x y z => (h2.1 j x y z).trans (h1.1 j x y z), fun k x y => (h2.2.1 k x y).trans (h1.2.1 k x y), h2.2.2.trans h1.2.2⟩
theorem FrU.rf {h : AH} : FrU h h := ⟨fun _ _ _ _ => rfl, fun _ _ _ => rfl, rfl⟩
theorem FrU.f {h : AH} {i : Nat} {x : Int32} (hi : i = 6 ∨ i = 7 ∨ i = 8) : FrU h (hI h 206 i x) := ⟨fun j a b c => by rw [hI_at, upd_ne (by omega)], fun a x _ => hI_ne x, rfl⟩
theorem FrD.u {n : Nat} {h h' : AH} (F : FrD n h h') : FrU h h' := ⟨fun j a b _ => F.1 j a b, F.2.1, F.2.2.1⟩
theorem FrC.u {h h' : AH} (F : FrC h h') : FrU h h' := (F.d (n := 0)).u
theorem NtA.d {n k : Nat} {h h' : AH} {q : Int32 × Int32 × Int32 × Int32} (H : NtA h k q) (F : FrD n h h') (hk : k < n) : NtA h' k q := ⟨(F.2.2.2 k hk).1.trans H.1, (F.2.2.2 k hk).2.1.trans H.2.1, (F.2.2.2 k hk).2.2.1.trans H.2.2.1, (F.2.2.2 k hk).2.2.2.trans H.2.2.2⟩
theorem NtA.c {k : Nat} {h h' : AH} {q : Int32 × Int32 × Int32 × Int32} (H : NtA h k q) (F : FrC h h') : NtA h' k q := H.d (F.d (n := k + 1)) (by omega)
/-- i orders and one more have been looked at -/
def UnI (h : AH) (I : Nat → Int32) (L i : Nat) : Prop := OrI h I L (rdI I L i).1.1 (if (rdI I L i).1.2 = true then i else i + 1) ∧ ∀ k, k < (if (rdI I L i).1.2 = true then i else i + 1) → NtA h k (rdI I L k).2
theorem UnI.of {h h' : AH} {I : Nat → Int32} {L i : Nat} (hN : ∀ k, k < i → NtA h k (rdI I L k).2) (O : OrdC h h' I L i (rdI I L i).1.2 (rdI I L i).1.1 (rdI I L i).2) : UnI h' I L i := by
  refine ⟨O.1, fun k hk => ?_⟩
  by_cases e : k < i
  · exact (hN k e).d O.2.1 e
  · by_cases w : (rdI I L i).1.2 = true
    · rw [if_pos w] at hk; omega
    · rw [if_neg w] at hk
      have ek : k = i := by omega
      subst ek
      exact O.2.2 (Bool.eq_false_iff.mpr w)
def UnP (h h' : AH) (I : Nat → Int32) (L : Nat) : Prop := UnI h' I L (oN0 I L) ∧ h'.1 206 8 = (if rdWr I L = true then nI (rdAt I L) else -1) ∧ FrU h h'
theorem p_un_end (d : Nat) {h : AH} {I : Nat → Int32} {L : Nat} {i9 : Int32} (U : UnI h I L (oN0 I L)) : WX (d + 3) mX6_understand 66 [(0, .ref 206), (1, .int (bI ((rdI I L (oN0 I L)).1.2 = false))), (2, .int i9)] [] h (fun v h' => v = some (.int (bI (rdWr I L = false))) ∧ UnP h h' I L) := by
  have e4 := U.1.2.2.2.1
  have F : ∀ x, UnI (hI h 206 8 x) I L (oN0 I L) := fun x => ⟨⟨by rw [hI_ne (by decide)]; exact U.1.1, by rw [hI_at, upd_ne (by decide)]; exact U.1.2.1, U.1.2.2.1, by rw [hI_at, upd_ne (by decide)]; exact U.1.2.2.2.1, U.1.2.2.2.2.1, by rw [hI_at, upd_ne (by decide)]; exact U.1.2.2.2.2.2.1, U.1.2.2.2.2.2.2⟩, fun k hk => by
    obtain ⟨a, b, c, e⟩ := U.2 k hk
    exact ⟨by rw [hI_ne (by decide)]; exact a, by rw [hI_ne (by decide)]; exact b, by rw [hI_ne (by decide)]; exact c, by rw [hI_ne (by decide)]; exact e⟩⟩
  by_cases w : (rdI I L (oN0 I L)).1.2 = true
  · iterate 2 refine ex_s rfl ?_
    refine ex_b rfl rfl (fun _ => ?_) (fun q => absurd (bI_eq.mpr (by rw [w]; decide)) q)
    iterate 2 refine ex_s rfl ?_
    rw [show fv 0 (h.1 206 6) = Value.int (nI (rdAt I L)) from congrArg Value.int e4]
    iterate 2 refine ex_s rfl ?_
    refine ex_q (ret_bK rfl kOk_bI) ?_
    exact ⟨rfl, F _, by rw [hI_at, upd_eq, if_pos w], FrU.f (by decide)⟩
  · iterate 2 refine ex_s rfl ?_
    refine ex_b rfl rfl (fun q => absurd q (bI_ne.mpr (Bool.eq_false_iff.mpr w))) (fun _ => ?_)
    refine ex_s rfl ?_
    refine ex_g rfl rfl ?_
    iterate 2 refine ex_s rfl ?_
    refine ex_q (ret_bK rfl kOk_bI) ?_
    exact ⟨rfl, F _, by rw [hI_at, upd_eq, if_neg w], FrU.f (by decide)⟩
theorem p_un_loop (d : Nat) {I : Nat → Int32} {L : Nat} (hL : L ≤ 60) : ∀ (m i : Nat) (h : AH), i + m = 61 → (i ≤ (oS I L i).1 ∧ (oS I L i).1 ≤ 60) → oN0 I L = fstP (stP9 I L) 61 m i → UnI h I L i → WX (d + 3) mX6_understand 17 [(0, .ref 206), (1, .int (bI ((rdI I L i).1.2 = false))), (2, .int (nI i))] [] h (fun v h' => v = some (.int (bI (rdWr I L = false))) ∧ UnP h h' I L)
  | 0, i, h, hi, hp, e, U => by
    exfalso
    omega
  | m + 1, i, h, hi, hp, e, U => by
    have e2 := U.1.2.1
    have e4 := U.1.2.2.2.1
    have e5 := U.1.2.2.2.2.1
    by_cases c1 : stP9 I L i = true
    · rw [fstP_t c1] at e
      have Z := p_un_end d (h := h) (I := I) (L := L) (i9 := nI i) (by rw [e]; exact U)
      rw [e] at Z
      by_cases hi60 : i < 60
      · by_cases c2 : (rdI I L i).1.2 = true
        · iterate 2 refine ex_s rfl ?_
          refine ex_b rfl rfl (fun q => absurd q (nI_ge (b := 60) (by omega) (by omega))) (fun _ => ?_)
          refine ex_s rfl ?_
          refine ex_b rfl rfl (fun _ => ?_) (fun q => absurd (bI_eq.mpr (by rw [c2]; decide)) q)
          exact ex_sub (sub3 rfl rfl rfl) Z
        · have c3 : L ≤ (rdI I L i).1.1 := by
            unfold stP9 at c1
            rw [Bool.or_eq_true] at c1
            exact c1.elim (fun q => absurd q c2) (fun q => of_decide_eq_true q)
          iterate 2 refine ex_s rfl ?_
          refine ex_b rfl rfl (fun q => absurd q (nI_ge (b := 60) (by omega) (by omega))) (fun _ => ?_)
          refine ex_s rfl ?_
          refine ex_b rfl rfl (fun q => absurd q (bI_ne.mpr (Bool.eq_false_iff.mpr c2))) (fun _ => ?_)
          iterate 4 refine ex_s rfl ?_
          refine ex_b rfl rfl (fun _ => ?_) (fun q => absurd (by rw [e2, e4]; exact nI_le c3 (by omega)) q)
          exact ex_sub (sub3 rfl rfl rfl) Z
      · iterate 2 refine ex_s rfl ?_
        refine ex_b rfl rfl (fun _ => ?_) (fun q => absurd (nI_le (a := 60) (by omega) (by omega)) q)
        exact ex_sub (sub3 rfl rfl rfl) Z
    · rw [fstP_f c1] at e
      obtain ⟨c2, c3⟩ := stP9_f c1
      have hp2 : i + 1 ≤ (oS I L (i + 1)).1 ∧ (oS I L (i + 1)).1 ≤ 60 := ⟨Nat.le_trans (Nat.succ_le_succ hp.1) (Nat.le_trans (rdOrd_le.2 c2) mustS_le), Nat.le_trans mustS_ub (Nat.le_trans (Nat.succ_le_of_lt c3) hL)⟩
      have gt := rdOrd_le (I := I) (L := L) (s := oS I L i)
      have gt2 : i + 1 ≤ (rdI I L i).1.1 := Nat.le_trans (Nat.succ_le_succ hp.1) (gt.2 c2)
      have s1 : (rdI I L i).1 = ((rdI I L i).1.1, false) := Prod.ext rfl c2
      have U1 := U.1
      have U2 := U.2
      rw [if_neg (by rw [c2]; decide)] at U1 U2
      rcases em : mustS I L ((rdI I L i).1.1, false) 59 with ⟨a1, w1⟩
      have eo : oS I L (i + 1) = (a1, w1) := by
        show mustS I L (rdI I L i).1 59 = _
        rw [s1]
        exact em
      have IH := fun h2 U => p_un_loop d hL m (i + 1) h2 (by omega) hp2 e U
      cases w1
      · have er : rdI I L (i + 1) = rdOrd I L (a1, false) := congrArg (rdOrd I L) eo
        cases wr : (rdI I L (i + 1)).1.2
        · iterate 2 refine ex_s rfl ?_
          refine ex_b rfl rfl (fun q => absurd q (nI_ge (b := 60) (by omega) (by omega))) (fun _ => ?_)
          refine ex_s rfl ?_
          refine ex_b rfl rfl (fun q => absurd q (bI_ne.mpr c2)) (fun _ => ?_)
          iterate 4 refine ex_s rfl ?_
          refine ex_b rfl rfl (fun q => absurd q (by rw [e2, e4]; exact nI_ge c3 (by omega))) (fun _ => ?_)
          iterate 2 refine ex_s rfl ?_
          refine ex_xc rfl rfl ⟨Nat.le_of_ble_eq_true rfl, Nat.le_of_ble_eq_true rfl⟩ (p_goP (d + 2) U1 59 em) (fun rv9 h9 p9 => ?_)
          obtain ⟨rfl, H1, F1⟩ := p9
          refine ex_b rfl rfl (fun q => absurd q (by decide)) (fun _ => ?_)
          refine ex_s rfl ?_
          refine ex_xc rfl rfl ⟨Nat.le_of_ble_eq_true rfl, Nat.le_of_ble_eq_true rfl⟩ (p_readOrder d H1 (by omega)) (fun rv9 h9 p9 => ?_)
          obtain ⟨rfl, P1⟩ := p9
          rw [← er] at P1
          have V := UnI.of (fun k hk => (U2 k hk).c F1) P1
          have IH := IH _ V
          rw [wr] at IH
          refine ex_b rfl rfl (fun q => absurd q (bI_ne.mpr (by rw [← er]; exact wr))) (fun _ => ?_)
          refine ex_s rfl ?_
          refine ex_g rfl rfl ?_
          iterate 2 refine ex_s rfl ?_
          refine ex_g rfl rfl ?_
          rw [nI_1]
          exact ex_sub (sub3 rfl rfl rfl) (IH.mono (fun v h' z => ⟨z.1, z.2.1, z.2.2.1, (F1.u.tr P1.2.1.u).tr z.2.2.2⟩))
        · iterate 2 refine ex_s rfl ?_
          refine ex_b rfl rfl (fun q => absurd q (nI_ge (b := 60) (by omega) (by omega))) (fun _ => ?_)
          refine ex_s rfl ?_
          refine ex_b rfl rfl (fun q => absurd q (bI_ne.mpr c2)) (fun _ => ?_)
          iterate 4 refine ex_s rfl ?_
          refine ex_b rfl rfl (fun q => absurd q (by rw [e2, e4]; exact nI_ge c3 (by omega))) (fun _ => ?_)
          iterate 2 refine ex_s rfl ?_
          refine ex_xc rfl rfl ⟨Nat.le_of_ble_eq_true rfl, Nat.le_of_ble_eq_true rfl⟩ (p_goP (d + 2) U1 59 em) (fun rv9 h9 p9 => ?_)
          obtain ⟨rfl, H1, F1⟩ := p9
          refine ex_b rfl rfl (fun q => absurd q (by decide)) (fun _ => ?_)
          refine ex_s rfl ?_
          refine ex_xc rfl rfl ⟨Nat.le_of_ble_eq_true rfl, Nat.le_of_ble_eq_true rfl⟩ (p_readOrder d H1 (by omega)) (fun rv9 h9 p9 => ?_)
          obtain ⟨rfl, P1⟩ := p9
          rw [← er] at P1
          have V := UnI.of (fun k hk => (U2 k hk).c F1) P1
          have IH := IH _ V
          rw [wr] at IH
          refine ex_b rfl rfl (fun _ => ?_) (fun q => absurd (bI_eq.mpr (by rw [← er, wr]; decide)) q)
          iterate 3 refine ex_s rfl ?_
          refine ex_g rfl rfl ?_
          rw [nI_1]
          exact ex_sub (sub3 rfl rfl rfl) (IH.mono (fun v h' z => ⟨z.1, z.2.1, z.2.2.1, (F1.u.tr P1.2.1.u).tr z.2.2.2⟩))
      · have er : rdI I L (i + 1) = ((a1, true), 32, 0, 0, 0) := by
          show rdOrd I L (oS I L (i + 1)) = _
          rw [eo]
          exact if_neg (fun q => by
            unfold knB seeB at q
            simp at q)
        have wr : (rdI I L (i + 1)).1.2 = true := by rw [er]
        iterate 2 refine ex_s rfl ?_
        refine ex_b rfl rfl (fun q => absurd q (nI_ge (b := 60) (by omega) (by omega))) (fun _ => ?_)
        refine ex_s rfl ?_
        refine ex_b rfl rfl (fun q => absurd q (bI_ne.mpr c2)) (fun _ => ?_)
        iterate 4 refine ex_s rfl ?_
        refine ex_b rfl rfl (fun q => absurd q (by rw [e2, e4]; exact nI_ge c3 (by omega))) (fun _ => ?_)
        iterate 2 refine ex_s rfl ?_
        refine ex_xc rfl rfl ⟨Nat.le_of_ble_eq_true rfl, Nat.le_of_ble_eq_true rfl⟩ (p_goP (d + 2) U1 59 em) (fun rv9 h9 p9 => ?_)
        obtain ⟨rfl, H1, F1⟩ := p9
        have V : UnI h9 I L (i + 1) := ⟨by rw [if_pos wr, er]; exact H1, fun k hk => by rw [if_pos wr] at hk; exact (U2 k hk).c F1⟩
        have IH := IH _ V
        rw [wr] at IH
        refine ex_b rfl rfl (fun _ => ?_) (fun q => absurd (by decide) q)
        iterate 3 refine ex_s rfl ?_
        refine ex_g rfl rfl ?_
        rw [nI_1]
        exact ex_sub (sub3 rfl rfl rfl) (IH.mono (fun v h' z => ⟨z.1, z.2.1, z.2.2.1, F1.u.tr z.2.2.2⟩))
theorem p_understand (d : Nat) {h : AH} {I : Nat → Int32} {L : Nat} (hL : L ≤ 60) (h1 : h.1 207 = I) (h2 : h.1 206 5 = nI L) : WM (d + 3) mX6_understand [.ref 206] h (fun v h' => v = some (.int (bI (rdWr I L = false))) ∧ UnP h h' I L) := by
  have H : OrI (hI (hI h 206 6 0) 206 7 0) I L 0 0 := ⟨by rw [hI_ne (by decide), hI_ne (by decide)]; exact h1, by rw [hI_at, upd_ne (by decide), hI_at, upd_ne (by decide)]; exact h2, hL, by rw [hI_at, upd_ne (by decide), hI_at, upd_eq]; rfl, by decide, by rw [hI_at, upd_eq]; rfl, by decide⟩
  show WX _ _ 0 [(0, _)] [] _ _
  iterate 7 refine ex_s rfl ?_
  refine ex_xc rfl rfl ⟨Nat.le_of_ble_eq_true rfl, Nat.le_of_ble_eq_true rfl⟩ (p_readOrder (d + 0) H (by decide)) (fun rv9 h9 p9 => ?_)
  obtain ⟨rfl, P1⟩ := p9
  have V : UnI h9 I L 0 := UnI.of (i := 0) (fun k hk => absurd hk (by omega)) P1
  iterate 3 refine ex_s rfl ?_
  exact ex_sub (sub3 rfl rfl rfl) ((p_un_loop d hL 61 0 _ (by omega) ⟨Nat.le_refl _, Nat.zero_le 60⟩ rfl V).mono (fun v h' z => ⟨z.1, z.2.1, z.2.2.1, (((FrU.f (by decide)).tr (FrU.f (by decide))).tr P1.2.1.u).tr z.2.2.2⟩))
end
