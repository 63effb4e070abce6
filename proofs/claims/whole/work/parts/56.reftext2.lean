-- needs: 55
noncomputable section
/-- a reader's step leaves also what was told -/
def FrN (h h' : AH) : Prop := FrT h h' ∧ h'.1 30 = h.1 30 ∧ h'.1 0 23 = h.1 0 23
theorem FrN.rf {h : AH} : FrN h h := ⟨FrT.rf, rfl, rfl⟩
theorem FrN.tr {a b c : AH} (h1 : FrN a b) (h2 : FrN b c) : FrN a c := ⟨h1.1.tr h2.1, h2.2.1.trans h1.2.1, h2.2.2.trans h1.2.2⟩
theorem FrN.hI0 {h : AH} {i : Nat} {x : Int32} (hi : i = 20 ∨ i = 22) : FrN h (hI h 0 i x) := ⟨FrT.hI0 (by omega), hI_ne (by decide), by rw [hI_at, upd_ne (by omega)]⟩
theorem mustS_t {I : Nat → Int32} {L : Nat} {s : TS} {c : Int32} (h : seeB I L s c c = true) : mustS I L s c = (s.1 + 1, false) := if_pos h
theorem mustS_f {I : Nat → Int32} {L : Nat} {s : TS} {c : Int32} (h : ¬ seeB I L s c c = true) : mustS I L s c = (s.1, true) := if_neg h
theorem seeB_w {I : Nat → Int32} {L : Nat} {s : TS} {a b : Int32} (h : seeB I L s a b = true) : s.2 = false ∧ s.1 < L ∧ a ≤ I s.1 ∧ I s.1 ≤ b := by
  unfold seeB at h
  rw [Bool.and_eq_true, Bool.and_eq_true] at h
  exact ⟨by cases q : s.2 with | true => rw [q] at h; exact absurd h.1.1 (by decide) | false => rfl, of_decide_eq_true h.1.2, of_decide_eq_true h.2⟩
theorem f_must (d : Nat) {h : AH} {I : Nat → Int32} {L : Nat} {s : TS} (H : TxI h I L s) (c : Int32) : WM (d + 2) mX11_must [.ref 0, .int c] h (fun v h' => v = none ∧ TxI h' I L (mustS I L s c) ∧ FrN h h') := by
  have S := f_sees (d + 0) H c c
  have e4 := H.2.2.2.1
  have e5 := H.2.2.2.2.1
  have e6 := H.2.2.2.2.2
  have g4 : ∀ x, (hI h 0 22 x).1 0 20 = nI s.1 := fun x => by rw [hI_at, upd_ne (by decide)]; exact e4
  by_cases c1 : seeB I L s c c = true
  · obtain ⟨w1, w2, -, -⟩ := seeB_w c1
    rw [mustS_t c1]
    rw [w1] at e6
    have h60 := H.2.2.1
    have J := (H.wr (b := false)).at (a := s.1 + 1) (by omega)
    show WX _ _ 0 [(0, _), (1, _)] [] _ _
    iterate 3 refine ex_s rfl ?_
    rw [show fv 1 (h.1 0 22) = Value.int 0 from congrArg Value.int e6]
    iterate 3 refine ex_s rfl ?_
    refine ex_c rfl rfl ⟨Nat.le_of_ble_eq_true rfl, Nat.le_of_ble_eq_true rfl⟩ (S) ?_
    refine ex_b rfl rfl (fun _ => ?_) (fun q => absurd (bI_ne.mpr c1) q)
    iterate 2 refine ex_s rfl ?_
    rw [show ((0 : Int32) ||| 0) = 0 from rfl]
    iterate 4 refine ex_s rfl ?_
    rw [show fv 0 ((hI h 0 22 0).1 0 20) = Value.int (nI s.1) from congrArg Value.int (g4 0)]
    iterate 2 refine ex_s rfl ?_
    refine ex_b rfl rfl (fun _ => ?_) (fun q => absurd (by rw [hI_at, upd_eq]) q)
    iterate 2 refine ex_s rfl ?_
    rw [nI_1]
    refine ex_s rfl ?_
    refine ex_q rfl ?_
    exact ⟨rfl, J, (FrN.hI0 (by decide)).tr (FrN.hI0 (by decide))⟩
  · rw [mustS_f c1]
    have eo : (bI (s.2 = true) ||| 1 : Int32) = 1 := by cases s.2 <;> decide
    have J := (H.wr (b := true)).at (a := s.1) e5
    show WX _ _ 0 [(0, _), (1, _)] [] _ _
    iterate 3 refine ex_s rfl ?_
    rw [show fv 1 (h.1 0 22) = Value.int (bI (s.2 = true)) from congrArg Value.int e6]
    iterate 3 refine ex_s rfl ?_
    refine ex_c rfl rfl ⟨Nat.le_of_ble_eq_true rfl, Nat.le_of_ble_eq_true rfl⟩ (S) ?_
    refine ex_b rfl rfl (fun q => absurd q (fun q => q (bI_eq.mpr c1))) (fun _ => ?_)
    refine ex_s rfl ?_
    refine ex_g rfl rfl ?_
    refine ex_s rfl ?_
    rw [eo]
    iterate 4 refine ex_s rfl ?_
    rw [show fv 0 ((hI h 0 22 1).1 0 20) = Value.int (nI s.1) from congrArg Value.int (g4 1)]
    iterate 2 refine ex_s rfl ?_
    refine ex_b rfl rfl (fun q => absurd q (by rw [hI_at, upd_eq]; decide)) (fun _ => ?_)
    refine ex_s rfl ?_
    refine ex_g rfl rfl ?_
    refine ex_s rfl ?_
    rw [Int32.add_zero]
    refine ex_s rfl ?_
    refine ex_q rfl ?_
    exact ⟨rfl, J, (FrN.hI0 (by decide)).tr (FrN.hI0 (by decide))⟩
theorem f_num_loop (d n : Nat) (hn : n < 3) {I : Nat → Int32} {L : Nat} : ∀ (m i v a : Nat) (h : AH), i + m = n → TxI h I L (a, false) → a ≤ L → WX (d + 2) mX11_number 29 [(0, .ref 0), (1, .int (nI n)), (2, .int (nI v)), (3, .int (nI i))] [] h (fun rv h' => rv = some (.int (nI (numL I L m v a).1)) ∧ TxI h' I L ((numL I L m v a).2, false) ∧ FrN h h')
  | 0, i, v, a, h, hi, H, ha => by
    have hi : i = n := by omega
    subst hi
    iterate 2 refine ex_s rfl ?_
    refine ex_b rfl rfl (fun _ => ?_) (fun q => absurd (Int32.le_refl _) q)
    refine ex_s rfl ?_
    refine ex_q rfl ?_
    exact ⟨rfl, H, FrN.rf⟩
  | m + 1, i, v, a, h, hi, H, ha => by
    have S := f_sees (d + 0) H 48 57
    have e1 := H.1
    have h60 := H.2.2.1
    have e4 := H.2.2.2.1
    by_cases c1 : seeB I L (a, false) 48 57 = true
    · obtain ⟨-, w2, w3, w4⟩ := seeB_w c1
      obtain ⟨d1, d2⟩ := dg_nI w3 w4
      rw [show numL I L (m + 1) v a = numL I L m (10 * v + dgN I a) (a + 1) from if_pos c1]
      have ev : (10 : Int32) * nI v + I a - 48 = nI (10 * v + dgN I a) := by
        rw [show I a = nI (48 + dgN I a) from d1, show (10 : Int32) = nI 10 from rfl, pk_mul, nI_add, show (48 : Int32) = nI 48 from rfl, nI_sub (by omega)]
        exact congrArg nI (by omega)
      have J := H.at (a := a + 1) (by omega)
      have IH := (f_num_loop d n hn m (i + 1) (10 * v + dgN I a) (a + 1) (hI h 0 20 (nI (a + 1))) (by omega) J (by omega)).mono (P := fun rv h' => rv = some (.int (nI (numL I L m (10 * v + dgN I a) (a + 1)).1)) ∧ TxI h' I L ((numL I L m (10 * v + dgN I a) (a + 1)).2, false) ∧ FrN h h') (fun rv h' z => ⟨z.1, z.2.1, (FrN.hI0 (by decide)).tr z.2.2⟩)
      iterate 2 refine ex_s rfl ?_
      refine ex_b rfl rfl (fun q => absurd q (nI_ge (by omega) (by omega))) (fun _ => ?_)
      iterate 3 refine ex_s rfl ?_
      refine ex_c rfl rfl ⟨Nat.le_of_ble_eq_true rfl, Nat.le_of_ble_eq_true rfl⟩ (S) ?_
      refine ex_b rfl rfl (fun q => absurd q (bI_ne.mpr c1)) (fun _ => ?_)
      iterate 7 refine ex_s rfl ?_
      rw [show fv 0 (h.1 0 20) = Value.int (nI a) from congrArg Value.int e4]
      refine ex_cl rfl rfl (vi) ?_
      rw [cl a, e1]
      iterate 3 refine ex_s rfl ?_
      rw [ev]
      iterate 4 refine ex_s rfl ?_
      rw [show fv 0 (h.1 0 20) = Value.int (nI a) from congrArg Value.int e4]
      iterate 2 refine ex_s rfl ?_
      rw [nI_1]
      iterate 2 refine ex_s rfl ?_
      refine ex_g rfl rfl ?_
      rw [nI_1]
      exact ex_sub (sub4 rfl rfl rfl rfl) IH
    · rw [show numL I L (m + 1) v a = (v, a) from if_neg c1]
      iterate 2 refine ex_s rfl ?_
      refine ex_b rfl rfl (fun q => absurd q (nI_ge (by omega) (by omega))) (fun _ => ?_)
      iterate 3 refine ex_s rfl ?_
      refine ex_c rfl rfl ⟨Nat.le_of_ble_eq_true rfl, Nat.le_of_ble_eq_true rfl⟩ (S) ?_
      refine ex_b rfl rfl (fun _ => ?_) (fun q => absurd (bI_eq.mpr c1) q)
      refine ex_s rfl ?_
      refine ex_q rfl ?_
      exact ⟨rfl, H, FrN.rf⟩
theorem f_number (d n : Nat) (hn0 : 0 < n) (hn : n < 3) {h : AH} {I : Nat → Int32} {L : Nat} {s : TS} (H : TxI h I L s) : WM (d + 2) mX11_number [.ref 0, .int (nI n)] h (fun rv h' => rv = some (.int (nI (numS I L n s).1)) ∧ TxI h' I L (numS I L n s).2 ∧ FrN h h') := by
  have S := f_sees (d + 0) H 48 57
  have e6 := H.2.2.2.2.2
  by_cases c1 : seeB I L s 48 57 = true
  · obtain ⟨w1, w2, -, -⟩ := seeB_w c1
    rw [show numS I L n s = ((numL I L n 0 s.1).1, ((numL I L n 0 s.1).2, false)) from if_pos c1]
    rw [w1] at e6
    have L9 := (f_num_loop d n hn n 0 0 s.1 (hI h 0 22 0) (by omega) (H.wr (b := false)) (by omega)).mono (P := fun rv h' => rv = some (.int (nI (numL I L n 0 s.1).1)) ∧ TxI h' I L ((numL I L n 0 s.1).2, false) ∧ FrN h h') (fun rv h' z => ⟨z.1, z.2.1, (FrN.hI0 (by decide)).tr z.2.2⟩)
    show WX _ _ 0 [(0, _), (1, _)] [] _ _
    iterate 3 refine ex_s rfl ?_
    rw [show fv 1 (h.1 0 22) = Value.int 0 from congrArg Value.int e6]
    iterate 3 refine ex_s rfl ?_
    refine ex_c rfl rfl ⟨Nat.le_of_ble_eq_true rfl, Nat.le_of_ble_eq_true rfl⟩ (S) ?_
    refine ex_b rfl rfl (fun _ => ?_) (fun q => absurd (bI_ne.mpr c1) q)
    iterate 7 refine ex_s rfl ?_
    exact ex_sub (sub4 rfl rfl rfl rfl) L9
  · rw [show numS I L n s = (0, (s.1, true)) from if_neg c1]
    have eo : (bI (s.2 = true) ||| 1 : Int32) = 1 := by cases s.2 <;> decide
    have J := H.wr (b := true)
    have S2 := f_sees (d + 0) J 48 57
    rw [show seeB I L (s.1, true) 48 57 = false from rfl] at S2
    show WX _ _ 0 [(0, _), (1, _)] [] _ _
    iterate 3 refine ex_s rfl ?_
    rw [show fv 1 (h.1 0 22) = Value.int (bI (s.2 = true)) from congrArg Value.int e6]
    iterate 3 refine ex_s rfl ?_
    refine ex_c rfl rfl ⟨Nat.le_of_ble_eq_true rfl, Nat.le_of_ble_eq_true rfl⟩ (S) ?_
    refine ex_b rfl rfl (fun q => absurd q (fun q => q (bI_eq.mpr c1))) (fun _ => ?_)
    refine ex_s rfl ?_
    refine ex_g rfl rfl ?_
    refine ex_s rfl ?_
    rw [eo]
    iterate 7 refine ex_s rfl ?_
    refine ex_b rfl rfl (fun q => absurd q (nI_ge (a := 0) (by omega) (by omega))) (fun _ => ?_)
    iterate 3 refine ex_s rfl ?_
    refine ex_c rfl rfl ⟨Nat.le_of_ble_eq_true rfl, Nat.le_of_ble_eq_true rfl⟩ (S2) ?_
    refine ex_b rfl rfl (fun _ => ?_) (fun q => absurd rfl q)
    refine ex_s rfl ?_
    refine ex_q rfl ?_
    exact ⟨rfl, J, FrN.hI0 (by decide)⟩
end
