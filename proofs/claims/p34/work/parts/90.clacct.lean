-- needs: 89
noncomputable section
theorem p_countFilled (d : Nat) {h : AH} {r : Nat → Int32} {w : Nat → UInt32} (P : Pal h 32 r w) (hS : Str r) : EvM d mX8_countFilledColumns [.ref 32] h (some (.int (nI (lenN r false)))) h := by
  have e : cntP (fun i => decide (0 ≤ h.1 43 i)) 96 = lenN r false := by
    rw [← filled_n hS]
    exact cntP_congr (fun i hi => by rw [show h.1 43 i = r (29 + i) from P.2.2.2.2.1 i hi])
  rw [← e]
  have Lp : ∀ (n i : Nat), i + n = 96 → EvR d mX8_countFilledColumns 4 [(0, .ref 32), (1, .int (nI (cntP (fun i => decide (0 ≤ h.1 43 i)) i))), (2, .int (nI i))] [] h (some (.int (nI (cntP (fun i => decide (0 ≤ h.1 43 i)) 96)))) h := by
    intro n
    induction n with
    | zero =>
      intro i hi
      have hi : i = 96 := by omega
      subst hi
      iterate 4 refine er_s rfl ?_
      refine er_b rfl rfl (fun _ => ?_) (fun q => absurd (Int32.le_refl _) q)
      refine er_s rfl ?_
      refine er_q rfl ?_ ?_
      · rfl
      · rfl
    | succ n ih =>
      intro i hi
      have IH := ih (i + 1) (by omega)
      iterate 4 refine er_s rfl ?_
      refine er_b rfl rfl (fun q => absurd q (nI_ge (b := 96) (by omega) (by decide))) (fun _ => ?_)
      iterate 3 refine er_s rfl ?_
      refine er_il rfl rfl (vi) ?_
      rw [cl i]
      refine er_b rfl rfl (fun c19 => ?_) (fun c19 => ?_)
      · refine er_s rfl ?_
        refine er_g rfl rfl ?_
        rw [cnt_f2 (p := fun i => decide (0 ≤ h.1 43 i)) (fun t9 => absurd (of_decide_eq_true t9) (Int32.not_le.mpr c19)), nI_1]
        exact er_sub (sub3 rfl rfl rfl) IH
      · iterate 2 refine er_s rfl ?_
        refine er_g rfl rfl ?_
        rw [cnt_t (p := fun i => decide (0 ≤ h.1 43 i)) (decide_eq_true (Int32.not_lt.mp c19)), nI_1]
        exact er_sub (sub3 rfl rfl rfl) IH
  have Z := Lp 96 0 rfl
  show EvR _ _ 0 [(0, _)] [] _ _ _
  iterate 4 refine er_s rfl ?_
  exact er_sub (sub3 rfl rfl rfl) Z
theorem sw_c1 : ∀ i, i < 4 → swt (cSw mX8_accountOf 1) (nI (i + 7)) = 118 := by decide
theorem p_accountOf (d : Nat) {h : AH} {r : Nat → Int32} {w : Nat → UInt32} {B : Nat} (P : Pal h 32 r w) (I : Inv B r w) {n : Nat} (hn : n < 13) (a b : Int32) : EvM (d + 2) mX8_accountOf [.ref 32, .int (nI n)] h (some (.int (acctV r a b n))) h := by
  have hw := I.1.1
  rcases (show n < 5 ∨ n = 5 ∨ n = 6 ∨ (∃ i, i < 4 ∧ n = i + 7) ∨ n = 11 ∨ n = 12 by
    by_cases q : 7 ≤ n ∧ n < 11
    · exact Or.inr (Or.inr (Or.inr (Or.inl ⟨n - 7, by omega, by omega⟩)))
    · omega) with t9 | rfl | rfl | ⟨i, t9, rfl⟩ | rfl | rfl
  · rw [show acctV r a b n = r n by unfold acctV; rw [if_pos t9]]
    have e := P.hd (i := n) (by omega)
    rcases (show n = 0 ∨ n = 1 ∨ n = 2 ∨ n = 3 ∨ n = 4 by omega) with rfl | rfl | rfl | rfl | rfl
    · show EvR _ _ 0 [(0, _), (1, _)] [] _ _ _
      refine er_s rfl ?_
      refine er_sw rfl rfl ?_
      iterate 2 refine er_s rfl ?_
      refine er_q rfl ?_ ?_
      · exact congrArg (fun x => some (Value.int x)) e
      · rfl
    · show EvR _ _ 0 [(0, _), (1, _)] [] _ _ _
      refine er_s rfl ?_
      refine er_sw rfl rfl ?_
      iterate 2 refine er_s rfl ?_
      refine er_q rfl ?_ ?_
      · exact congrArg (fun x => some (Value.int x)) e
      · rfl
    · show EvR _ _ 0 [(0, _), (1, _)] [] _ _ _
      refine er_s rfl ?_
      refine er_sw rfl rfl ?_
      iterate 2 refine er_s rfl ?_
      refine er_q rfl ?_ ?_
      · exact congrArg (fun x => some (Value.int x)) e
      · rfl
    · show EvR _ _ 0 [(0, _), (1, _)] [] _ _ _
      refine er_s rfl ?_
      refine er_sw rfl rfl ?_
      iterate 2 refine er_s rfl ?_
      refine er_q rfl ?_ ?_
      · exact congrArg (fun x => some (Value.int x)) e
      · rfl
    · show EvR _ _ 0 [(0, _), (1, _)] [] _ _ _
      refine er_s rfl ?_
      refine er_sw rfl rfl ?_
      iterate 2 refine er_s rfl ?_
      refine er_q rfl ?_ ?_
      · exact congrArg (fun x => some (Value.int x)) e
      · rfl
  · rw [show acctV r a b 5 = nI (cntS r 0 (CN r)) by unfold acctV; rw [if_neg (by decide), if_pos rfl]]
    have C := p_countStates (d + 1) palL32 P hw 0 (by decide)
    show EvR _ _ 0 [(0, _), (1, _)] [] _ _ _
    refine er_s rfl ?_
    refine er_sw rfl rfl ?_
    iterate 2 refine er_s rfl ?_
    refine er_c rfl rfl ⟨Nat.le_of_ble_eq_true rfl, Nat.le_of_ble_eq_true rfl⟩ (C) ?_
    refine er_q rfl ?_ ?_
    · rfl
    · rfl
  · rw [show acctV r a b 6 = nI (onN r) by unfold acctV; rw [if_neg (by decide), if_neg (by decide), if_pos rfl]]
    have C := p_countOnWall d palL32 P hw
    show EvR _ _ 0 [(0, _), (1, _)] [] _ _ _
    refine er_s rfl ?_
    refine er_sw rfl rfl ?_
    refine er_s rfl ?_
    refine er_c rfl rfl ⟨Nat.le_of_ble_eq_true rfl, Nat.le_of_ble_eq_true rfl⟩ (C) ?_
    refine er_q rfl ?_ ?_
    · rfl
    · rfl
  · rw [show acctV r a b (i + 7) = nI (whyN r (nI (i + 7 - 6)) (CN r)) by unfold acctV; rw [if_neg (by omega), if_neg (by omega), if_neg (by omega), if_pos (by omega)]]
    have C := p_countCauses (d + 1) P I.1 (nI (i + 7 - 6)) (fun z => absurd ((nI_z (by omega)).mp z) (by omega))
    show EvR _ _ 0 [(0, _), (1, _)] [] _ _ _
    refine er_s rfl ?_
    refine er_sw rfl (sw_c1 i t9) ?_
    iterate 4 refine er_s rfl ?_
    rw [show (6 : Int32) = nI 6 from rfl, nI_sub (by omega)]
    refine er_c rfl rfl ⟨Nat.le_of_ble_eq_true rfl, Nat.le_of_ble_eq_true rfl⟩ (C) ?_
    refine er_q rfl ?_ ?_
    · rfl
    · rfl
  · rw [show acctV r a b 11 = nI (lenN r false) by unfold acctV; rw [if_neg (by decide), if_neg (by decide), if_neg (by decide), if_neg (by decide), if_pos rfl]]
    have C := p_countFilled (d + 1) P I.1
    show EvR _ _ 0 [(0, _), (1, _)] [] _ _ _
    refine er_s rfl ?_
    refine er_sw rfl rfl ?_
    refine er_s rfl ?_
    refine er_c rfl rfl ⟨Nat.le_of_ble_eq_true rfl, Nat.le_of_ble_eq_true rfl⟩ (C) ?_
    refine er_q rfl ?_ ?_
    · rfl
    · rfl
  · rw [show acctV r a b 12 = tOf r by unfold acctV; rw [if_neg (by decide), if_neg (by decide), if_neg (by decide), if_neg (by decide), if_neg (by decide), if_pos rfl]]
    obtain ⟨⟨c1, c2, c3⟩, -, -⟩ := I.2.1.2.2
    have h24 : CK r % 24 < 24 := Nat.mod_lt _ (by decide)
    have Hd := p_hourOfDay (d + 0) palL32 h (c := CK r) (by omega) (by rw [P.hd (by decide)]; exact c1)
    have T := p_temperatureAt (d + 0) palL32 h24 h
    rw [P.tm h24] at T
    show EvR _ _ 0 [(0, _), (1, _)] [] _ _ _
    refine er_s rfl ?_
    refine er_sw rfl rfl ?_
    iterate 2 refine er_s rfl ?_
    refine er_c rfl rfl ⟨Nat.le_of_ble_eq_true rfl, Nat.le_of_ble_eq_true rfl⟩ (Hd) ?_
    refine er_c rfl rfl ⟨Nat.le_of_ble_eq_true rfl, Nat.le_of_ble_eq_true rfl⟩ (T) ?_
    refine er_q rfl ?_ ?_
    · rfl
    · rfl
end
