-- needs: 70
noncomputable section
theorem numS_w {I : Nat → Int32} {L n a : Nat} : numS I L n (a, true) = (0, (a, true)) := if_neg (fun q => Bool.noConfusion (show true = false from (seeB_w q).1))
theorem mustS_w {I : Nat → Int32} {L a : Nat} {c : Int32} : mustS I L (a, true) c = (a, true) := if_neg (fun q => Bool.noConfusion (show true = false from (seeB_w q).1))
theorem negS_w {I : Nat → Int32} {L a : Nat} : negS I L (a, true) = (a, true) := by
  unfold negS
  rw [if_neg (fun q => Bool.noConfusion (show true = false from (seeB_w q).1))]
  rfl
theorem p_dig (d n9 : Nat) (hn0 : 0 < n9) (hn9 : n9 < 3) {h : AH} {I : Nat → Int32} {L a n : Nat} (H : OrI h I L a n) {v a1 : Nat} {w : Bool} (e : numS I L n9 (a, false) = (v, (a1, w))) : WM d mX6_digits [.ref 206, .int (nI n9)] h (fun rv h' => rv = some (.int (if w = true then -1 else nI v)) ∧ OrI h' I L a1 n ∧ FrC h h') := by
  have P := p_digits d n9 hn0 hn9 H
  rw [e] at P
  exact P
theorem p_goP (d : Nat) {h : AH} {I : Nat → Int32} {L a n : Nat} (H : OrI h I L a n) (c : Int32) {a1 : Nat} {w : Bool} (e : mustS I L (a, false) c = (a1, w)) : WM d mX6_goPast [.ref 206, .int c] h (fun v h' => v = some (.int (bI (w = false))) ∧ OrI h' I L a1 n ∧ FrC h h') := by
  have P := p_goPast d H c
  rw [e] at P
  exact P
theorem num_v {I : Nat → Int32} {L : Nat} : ∀ (m v a : Nat), v < 2 ^ 20 → m < 3 → (numL I L m v a).1 < 2 ^ 31
  | 0, v, a, h, _ => by show v < _; omega
  | m + 1, v, a, h, hm => by
    unfold numL
    split
    · next c =>
      have := (dg_nI (seeB_w c).2.2.1 (seeB_w c).2.2.2).2
      have d2 : dgN I a ≤ 9 := this
      match m, hm with
      | 0, _ => show 10 * v + dgN I a < _; omega
      | 1, _ =>
        unfold numL
        split
        · next c2 =>
          have d3 : dgN I (a + 1) ≤ 9 := (dg_nI (seeB_w c2).2.2.1 (seeB_w c2).2.2.2).2
          show 10 * (10 * v + dgN I a) + dgN I (a + 1) < _
          omega
        · show 10 * v + dgN I a < _; omega
    · show v < _; omega
theorem numS_v {I : Nat → Int32} {L n9 a v a1 : Nat} {w : Bool} (h : n9 < 3) (e : numS I L n9 (a, false) = (v, (a1, w))) : v < 2 ^ 31 := by
  have : (numS I L n9 (a, false)).1 < 2 ^ 31 := by
    unfold numS
    split
    · exact num_v _ _ _ (by decide) h
    · show 0 < 2 ^ 31; decide
  rw [e] at this
  exact this
/-- the orders that were noted -/
def NtA (h : AH) (k : Nat) (q : Int32 × Int32 × Int32 × Int32) : Prop := h.1 208 k = q.1 ∧ h.1 209 k = q.2.1 ∧ h.1 210 k = q.2.2.1 ∧ h.1 211 k = q.2.2.2
def FrD (n : Nat) (h h' : AH) : Prop := (∀ j, j ≠ 6 → j ≠ 7 → h'.1 206 j = h.1 206 j) ∧ (∀ a, a ≠ 206 → (a < 208 ∨ 211 < a) → h'.1 a = h.1 a) ∧ h'.2 = h.2 ∧ ∀ k, k < n → h'.1 208 k = h.1 208 k ∧ h'.1 209 k = h.1 209 k ∧ h'.1 210 k = h.1 210 k ∧ h'.1 211 k = h.1 211 k
theorem FrC.d {h h' : AH} {n : Nat} (F : FrC h h') : FrD n h h' := ⟨fun j a _ => F.1 j a, fun a x _ => F.2.1 a x, F.2.2, fun k _ => ⟨by rw [F.2.1 208 (by decide)], by rw [F.2.1 209 (by decide)], by rw [F.2.1 210 (by decide)], by rw [F.2.1 211 (by decide)]⟩⟩
theorem FrD.tr {n : Nat} {a b c : AH} (h1 : FrD n a b) (h2 : FrD n b c) : FrD n a c := ⟨fun j x y => (h2.1 j x y).trans (h1.1 j x y), fun k x y => (h2.2.1 k x y).trans (h1.2.1 k x y), h2.2.2.1.trans h1.2.2.1, fun k hk => ⟨(h2.2.2.2 k hk).1.trans (h1.2.2.2 k hk).1, (h2.2.2.2 k hk).2.1.trans (h1.2.2.2 k hk).2.1, (h2.2.2.2 k hk).2.2.1.trans (h1.2.2.2 k hk).2.2.1, (h2.2.2.2 k hk).2.2.2.trans (h1.2.2.2 k hk).2.2.2⟩⟩
theorem p_note (d : Nat) {h : AH} {I : Nat → Int32} {L a n : Nat} (H : OrI h I L a n) (hn : n < 60) {o x y z : Int32} (ho : kOk 2 o = true) : WM d mX6_note [.ref 206, .int o, .int x, .int y, .int z] h (fun v h' => v = some (.int 1) ∧ OrI h' I L a (n + 1) ∧ FrD n h h' ∧ NtA h' n (o, x, y, z)) := by
  obtain ⟨e1, e2, e3, e4, e5, e6, e7⟩ := id H
  have p0 : (0 : Int32) ≤ nI n := nI_pos' (by omega)
  have g1 : (hI h 208 n o).1 206 7 = nI n := by rw [hI_ne (by decide)]; exact e6
  have g2 : (hI (hI h 208 n o) 209 n x).1 206 7 = nI n := by rw [hI_ne (by decide)]; exact g1
  have g3 : (hI (hI (hI h 208 n o) 209 n x) 210 n y).1 206 7 = nI n := by rw [hI_ne (by decide)]; exact g2
  have g4 : (hI (hI (hI (hI h 208 n o) 209 n x) 210 n y) 211 n z).1 206 7 = nI n := by rw [hI_ne (by decide)]; exact g3
  show WX _ _ 0 [(0, _), (1, _), (2, _), (3, _), (4, _)] [] _ _
  iterate 2 refine ex_s rfl ?_
  refine ex_b rfl rfl (fun q => absurd q (by rw [e6]; exact Int32.not_lt.mpr p0)) (fun _ => ?_)
  iterate 3 refine ex_s rfl ?_
  refine ex_b rfl rfl (fun _ => ?_) (fun q => absurd (by rw [e6]; exact Int32.not_le.mp (nI_ge (b := 60) (by omega) (by omega))) q)
  iterate 4 refine ex_s rfl ?_
  rw [show fv 0 (h.1 206 7) = Value.int (nI n) from congrArg Value.int e6]
  refine ex_s rfl ?_
  refine ex_cs rfl rfl (vi) ho ?_
  iterate 4 refine ex_s rfl ?_
  rw [cl n, show fv 0 ((hI h 208 n o).1 206 7) = Value.int (nI n) from congrArg Value.int g1]
  refine ex_s rfl ?_
  refine ex_is rfl rfl (vi) ?_
  iterate 4 refine ex_s rfl ?_
  rw [cl n, show fv 0 ((hI (hI h 208 n o) 209 n x).1 206 7) = Value.int (nI n) from congrArg Value.int g2]
  refine ex_s rfl ?_
  refine ex_is rfl rfl (vi) ?_
  iterate 4 refine ex_s rfl ?_
  rw [cl n, show fv 0 ((hI (hI (hI h 208 n o) 209 n x) 210 n y).1 206 7) = Value.int (nI n) from congrArg Value.int g3]
  refine ex_s rfl ?_
  refine ex_is rfl rfl (vi) ?_
  iterate 3 refine ex_s rfl ?_
  rw [cl n, show fv 0 ((hI (hI (hI (hI h 208 n o) 209 n x) 210 n y) 211 n z).1 206 7) = Value.int (nI n) from congrArg Value.int g4]
  iterate 2 refine ex_s rfl ?_
  rw [nI_1]
  iterate 2 refine ex_s rfl ?_
  refine ex_q (ret_bK rfl rfl) ?_
  refine ⟨rfl, ⟨?_, ?_, e3, ?_, e5, ?_, by omega⟩, ⟨fun j a1 a2 => ?_, fun b b1 b2 => ?_, rfl, fun k hk => ⟨?_, ?_, ?_, ?_⟩⟩, ⟨?_, ?_, ?_, ?_⟩⟩
  · rw [hI_ne (by decide), hI_ne (by decide), hI_ne (by decide), hI_ne (by decide), hI_ne (by decide)]; exact e1
  · rw [hI_at, upd_ne (by decide), hI_ne (by decide), hI_ne (by decide), hI_ne (by decide), hI_ne (by decide)]; exact e2
  · rw [hI_at, upd_ne (by decide), hI_ne (by decide), hI_ne (by decide), hI_ne (by decide), hI_ne (by decide)]; exact e4
  · rw [hI_at, upd_eq]
  · rw [hI_at, upd_ne a2, hI_ne (by decide), hI_ne (by decide), hI_ne (by decide), hI_ne (by decide)]
  · rw [hI_ne b1, hI_ne (show b ≠ 211 by omega), hI_ne (show b ≠ 210 by omega), hI_ne (show b ≠ 209 by omega), hI_ne (show b ≠ 208 by omega)]
  · rw [hI_ne (by decide), hI_ne (by decide), hI_ne (by decide), hI_ne (by decide), hI_at, upd_ne (by omega)]
  · rw [hI_ne (by decide), hI_ne (by decide), hI_ne (by decide), hI_at, upd_ne (by omega), hI_ne (by decide)]
  · rw [hI_ne (by decide), hI_ne (by decide), hI_at, upd_ne (by omega), hI_ne (by decide), hI_ne (by decide)]
  · rw [hI_ne (by decide), hI_at, upd_ne (by omega), hI_ne (by decide), hI_ne (by decide), hI_ne (by decide)]
  · rw [hI_ne (by decide), hI_ne (by decide), hI_ne (by decide), hI_ne (by decide), hI_at, upd_eq]
  · rw [hI_ne (by decide), hI_ne (by decide), hI_ne (by decide), hI_at, upd_eq]
  · rw [hI_ne (by decide), hI_ne (by decide), hI_at, upd_eq]
  · rw [hI_ne (by decide), hI_at, upd_eq]
end
