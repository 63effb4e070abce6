-- needs: 81
noncomputable section
/-- the sign of a block -/
def sgN (r : Nat → Int32) (b : Nat) : Int32 := if ofB r b 2 = 0 then 114 else if ofB r b 2 = 1 then 119 else if ofB r b 7 = 1 then 116 else if ofB r b 7 = 2 then 109 else if ofB r b 7 = 3 then 98 else 102
theorem p_gone (d : Nat) {k : Nat} (hL : PalL k) {h : AH} {r : Nat → Int32} {w : Nat → UInt32} (P : Pal h k r w) (h40 : CN r ≤ 40) {b : Nat} (hb : b < CN r) : EvM d mX8_isGone [.ref k, .int (nI b)] h (some (.int (bI (ofB r b 2 = 2)))) h := by
  have Z := p_isGone d hL (b := b) (by omega) h
  rw [P.st hb] at Z
  exact Z
theorem p_sign (d : Nat) {h : AH} {r : Nat → Int32} {w : Nat → UInt32} (P : Pal h 32 r w) (hS : Str r) {b : Nat} (hb : b < CN r) : EvM (d + 1) mX8_signOf [.ref 32, .int (nI b)] h (some (.int (sgN r b))) h := by
  have h40 := hS.1.2.1
  have R := p_inR d palL32 P h40 hb
  have G := p_gone d palL32 P h40 hb
  have ew : h.1 42 b = ofB r b 7 := P.wy hb
  unfold sgN
  rcases (hS.b hb).2 with t9 | t9 | t9
  · rw [if_pos t9.1]
    show EvR _ _ 0 [(0, _), (1, _)] [] _ _ _
    iterate 2 refine er_s rfl ?_
    refine er_c rfl rfl ⟨Nat.le_of_ble_eq_true rfl, Nat.le_of_ble_eq_true rfl⟩ (R) ?_
    refine er_b rfl rfl (fun q => absurd q (fun z => absurd z (bI_ne.mpr t9.1))) (fun _ => ?_)
    refine er_s rfl ?_
    refine er_q (ret_bK rfl rfl) ?_ ?_
    · rfl
    · rfl
  · rw [if_neg (by rw [t9.1]; decide), if_pos t9.1]
    show EvR _ _ 0 [(0, _), (1, _)] [] _ _ _
    iterate 2 refine er_s rfl ?_
    refine er_c rfl rfl ⟨Nat.le_of_ble_eq_true rfl, Nat.le_of_ble_eq_true rfl⟩ (R) ?_
    refine er_b rfl rfl (fun _ => ?_) (fun q => absurd (bI_eq.mpr (by rw [t9.1]; decide)) q)
    iterate 2 refine er_s rfl ?_
    refine er_c rfl rfl ⟨Nat.le_of_ble_eq_true rfl, Nat.le_of_ble_eq_true rfl⟩ (G) ?_
    refine er_b rfl rfl (fun q => absurd q (fun z => z (bI_eq.mpr (by rw [t9.1]; decide)))) (fun _ => ?_)
    refine er_s rfl ?_
    refine er_q (ret_bK rfl rfl) ?_ ?_
    · rfl
    · rfl
  · obtain ⟨y, y1, y2, y3⟩ := t9.2.2.2.2.2
    rw [if_neg (by rw [t9.1]; decide), if_neg (by rw [t9.1]; decide), y3]
    have hy := ew.trans y3
    rcases (show y = 1 ∨ y = 2 ∨ y = 3 ∨ y = 4 by omega) with rfl | rfl | rfl | rfl
    · show EvR _ _ 0 [(0, _), (1, _)] [] _ _ _
      iterate 2 refine er_s rfl ?_
      refine er_c rfl rfl ⟨Nat.le_of_ble_eq_true rfl, Nat.le_of_ble_eq_true rfl⟩ (R) ?_
      refine er_b rfl rfl (fun _ => ?_) (fun q => absurd (bI_eq.mpr (by rw [t9.1]; decide)) q)
      iterate 2 refine er_s rfl ?_
      refine er_c rfl rfl ⟨Nat.le_of_ble_eq_true rfl, Nat.le_of_ble_eq_true rfl⟩ (G) ?_
      refine er_b rfl rfl (fun _ => ?_) (fun q => absurd (bI_ne.mpr t9.1) q)
      iterate 3 refine er_s rfl ?_
      refine er_il rfl rfl (vi) ?_
      rw [cl b, hy]
      refine er_sw rfl rfl ?_
      refine er_s rfl ?_
      refine er_q (ret_bK rfl rfl) ?_ ?_
      · rfl
      · rfl
    · show EvR _ _ 0 [(0, _), (1, _)] [] _ _ _
      iterate 2 refine er_s rfl ?_
      refine er_c rfl rfl ⟨Nat.le_of_ble_eq_true rfl, Nat.le_of_ble_eq_true rfl⟩ (R) ?_
      refine er_b rfl rfl (fun _ => ?_) (fun q => absurd (bI_eq.mpr (by rw [t9.1]; decide)) q)
      iterate 2 refine er_s rfl ?_
      refine er_c rfl rfl ⟨Nat.le_of_ble_eq_true rfl, Nat.le_of_ble_eq_true rfl⟩ (G) ?_
      refine er_b rfl rfl (fun _ => ?_) (fun q => absurd (bI_ne.mpr t9.1) q)
      iterate 3 refine er_s rfl ?_
      refine er_il rfl rfl (vi) ?_
      rw [cl b, hy]
      refine er_sw rfl rfl ?_
      refine er_s rfl ?_
      refine er_q (ret_bK rfl rfl) ?_ ?_
      · rfl
      · rfl
    · show EvR _ _ 0 [(0, _), (1, _)] [] _ _ _
      iterate 2 refine er_s rfl ?_
      refine er_c rfl rfl ⟨Nat.le_of_ble_eq_true rfl, Nat.le_of_ble_eq_true rfl⟩ (R) ?_
      refine er_b rfl rfl (fun _ => ?_) (fun q => absurd (bI_eq.mpr (by rw [t9.1]; decide)) q)
      iterate 2 refine er_s rfl ?_
      refine er_c rfl rfl ⟨Nat.le_of_ble_eq_true rfl, Nat.le_of_ble_eq_true rfl⟩ (G) ?_
      refine er_b rfl rfl (fun _ => ?_) (fun q => absurd (bI_ne.mpr t9.1) q)
      iterate 3 refine er_s rfl ?_
      refine er_il rfl rfl (vi) ?_
      rw [cl b, hy]
      refine er_sw rfl rfl ?_
      refine er_s rfl ?_
      refine er_q (ret_bK rfl rfl) ?_ ?_
      · rfl
      · rfl
    · show EvR _ _ 0 [(0, _), (1, _)] [] _ _ _
      iterate 2 refine er_s rfl ?_
      refine er_c rfl rfl ⟨Nat.le_of_ble_eq_true rfl, Nat.le_of_ble_eq_true rfl⟩ (R) ?_
      refine er_b rfl rfl (fun _ => ?_) (fun q => absurd (bI_eq.mpr (by rw [t9.1]; decide)) q)
      iterate 2 refine er_s rfl ?_
      refine er_c rfl rfl ⟨Nat.le_of_ble_eq_true rfl, Nat.le_of_ble_eq_true rfl⟩ (G) ?_
      refine er_b rfl rfl (fun _ => ?_) (fun q => absurd (bI_ne.mpr t9.1) q)
      iterate 3 refine er_s rfl ?_
      refine er_il rfl rfl (vi) ?_
      rw [cl b, hy]
      refine er_sw rfl rfl ?_
      refine er_s rfl ?_
      refine er_q (ret_bK rfl rfl) ?_ ?_
      · rfl
      · rfl
theorem p_countCauses (d : Nat) {h : AH} {r : Nat → Int32} {w : Nat → UInt32} (P : Pal h 32 r w) (hS : Str r) (s : Int32) (hs : s ≠ 0) : EvM d mX8_countCauses [.ref 32, .int s] h (some (.int (nI (whyN r s (CN r))))) h := by
  have h40 := hS.1.2.1
  have e : cntP (fun b => decide (h.1 37 b = 2 ∧ h.1 42 b = s)) 40 = whyN r s (CN r) := by
    have := cntP_ext (p := fun b => decide (h.1 37 b = 2 ∧ h.1 42 b = s)) (n := CN r) (40 - CN r) (fun b h1 h2 t9 => by
      have t9 := (of_decide_eq_true t9).1
      rw [show h.1 37 b = -1 from (P.2.2.2.1 b h1 (by omega)).1] at t9
      exact absurd t9 (by decide))
    rw [show CN r + (40 - CN r) = 40 by omega] at this
    rw [this]
    refine cntP_congr (fun b hb => ?_)
    rw [show h.1 37 b = ofB r b 2 from P.st hb, show h.1 42 b = ofB r b 7 from P.wy hb]
    by_cases c : ofB r b 7 = s
    · have c2 : ofB r b 2 = 2 := by
        rcases (hS.b hb).2 with t9 | t9 | t9
        · exact absurd (c.symm.trans t9.2.2.2.2.2) hs
        · exact absurd (c.symm.trans t9.2.2) hs
        · exact t9.1
      rw [decide_eq_true c, decide_eq_true ⟨c2, c⟩]
    · rw [decide_eq_false c, decide_eq_false (fun z => c z.2)]
  rw [← e]
  have Lp : ∀ (n i : Nat), i + n = 40 → EvR d mX8_countCauses 4 [(0, .ref 32), (1, .int s), (2, .int (nI (cntP (fun b => decide (h.1 37 b = 2 ∧ h.1 42 b = s)) i))), (3, .int (nI i))] [] h (some (.int (nI (cntP (fun b => decide (h.1 37 b = 2 ∧ h.1 42 b = s)) 40)))) h := by
    intro n
    induction n with
    | zero =>
      intro i hi
      have hi : i = 40 := by omega
      subst hi
      iterate 2 refine er_s rfl ?_
      refine er_b rfl rfl (fun _ => ?_) (fun q => absurd (Int32.le_refl _) q)
      refine er_s rfl ?_
      refine er_q rfl ?_ ?_
      · rfl
      · rfl
    | succ n ih =>
      intro i hi
      have IH := ih (i + 1) (by omega)
      iterate 2 refine er_s rfl ?_
      refine er_b rfl rfl (fun q => absurd q (nI_ge (b := 40) (by omega) (by decide))) (fun _ => ?_)
      iterate 3 refine er_s rfl ?_
      refine er_il rfl rfl (vi) ?_
      rw [cl i]
      refine er_s rfl ?_
      refine er_b rfl rfl (fun c17 => ?_) (fun c17 => ?_)
      · refine er_s rfl ?_
        refine er_g rfl rfl ?_
        rw [cnt_f2 (p := fun b => decide (h.1 37 b = 2 ∧ h.1 42 b = s)) (fun t9 => c17 (of_decide_eq_true t9).1), nI_1]
        exact er_sub (sub4 rfl rfl rfl rfl) IH
      · iterate 3 refine er_s rfl ?_
        refine er_il rfl rfl (vi) ?_
        rw [cl i]
        refine er_s rfl ?_
        refine er_b rfl rfl (fun c27 => ?_) (fun c27 => ?_)
        · refine er_s rfl ?_
          refine er_g rfl rfl ?_
          rw [cnt_f2 (p := fun b => decide (h.1 37 b = 2 ∧ h.1 42 b = s)) (fun t9 => c27 (of_decide_eq_true t9).2), nI_1]
          exact er_sub (sub4 rfl rfl rfl rfl) IH
        · iterate 2 refine er_s rfl ?_
          refine er_g rfl rfl ?_
          rw [cnt_t (p := fun b => decide (h.1 37 b = 2 ∧ h.1 42 b = s)) (decide_eq_true ⟨Decidable.not_not.mp c17, Decidable.not_not.mp c27⟩), nI_1]
          exact er_sub (sub4 rfl rfl rfl rfl) IH
  have Z := Lp 40 0 rfl
  show EvR _ _ 0 [(0, _), (1, _)] [] _ _ _
  iterate 4 refine er_s rfl ?_
  exact er_sub (sub4 rfl rfl rfl rfl) Z
end
