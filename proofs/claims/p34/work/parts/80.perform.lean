-- needs: 79
noncomputable section
theorem p_numberOf (d : Nat) {h : AH} {r : Nat → Int32} {w : Nat → UInt32} (P : Pal h 32 r w) (hw : Wel r) {b x : Nat} (hb : b < CN r) (hx : x < 8) : EvM (d + 1) mX8_numberOf [.ref 32, .int (nI b), .int (nI x)] h (some (.int (ofB r b x))) h := by
  have h40 := hw.2.1
  have S := p_sawn (d + 0) palL32 P hw (nI b)
  have bi := blk_in hw hb
  rcases (show x = 0 ∨ x = 1 ∨ x = 2 ∨ x = 3 ∨ x = 4 ∨ x = 5 ∨ x = 6 ∨ x = 7 by omega) with rfl | rfl | rfl | rfl | rfl | rfl | rfl | rfl
  · show EvR _ _ 0 [(0, _), (1, _), (2, _)] [] _ _ _
    iterate 2 refine er_s rfl ?_
    refine er_c rfl rfl ⟨Nat.le_of_ble_eq_true rfl, Nat.le_of_ble_eq_true rfl⟩ (S) ?_
    refine er_b rfl rfl (fun _ => ?_) (fun q => absurd (bI_ne.mpr bi) q)
    refine er_s rfl ?_
    refine er_sw rfl rfl ?_
    iterate 3 refine er_s rfl ?_
    refine er_il rfl rfl (vi) ?_
    refine er_q rfl ?_ ?_
    · rw [cl b]; exact congrArg (fun x => some (Value.int x)) (P.kd hb)
    · rfl
  · show EvR _ _ 0 [(0, _), (1, _), (2, _)] [] _ _ _
    iterate 2 refine er_s rfl ?_
    refine er_c rfl rfl ⟨Nat.le_of_ble_eq_true rfl, Nat.le_of_ble_eq_true rfl⟩ (S) ?_
    refine er_b rfl rfl (fun _ => ?_) (fun q => absurd (bI_ne.mpr bi) q)
    refine er_s rfl ?_
    refine er_sw rfl rfl ?_
    iterate 3 refine er_s rfl ?_
    refine er_il rfl rfl (vi) ?_
    refine er_q rfl ?_ ?_
    · rw [cl b]; exact congrArg (fun x => some (Value.int x)) (P.ln hb)
    · rfl
  · show EvR _ _ 0 [(0, _), (1, _), (2, _)] [] _ _ _
    iterate 2 refine er_s rfl ?_
    refine er_c rfl rfl ⟨Nat.le_of_ble_eq_true rfl, Nat.le_of_ble_eq_true rfl⟩ (S) ?_
    refine er_b rfl rfl (fun _ => ?_) (fun q => absurd (bI_ne.mpr bi) q)
    refine er_s rfl ?_
    refine er_sw rfl rfl ?_
    iterate 3 refine er_s rfl ?_
    refine er_il rfl rfl (vi) ?_
    refine er_q rfl ?_ ?_
    · rw [cl b]; exact congrArg (fun x => some (Value.int x)) (P.st hb)
    · rfl
  · show EvR _ _ 0 [(0, _), (1, _), (2, _)] [] _ _ _
    iterate 2 refine er_s rfl ?_
    refine er_c rfl rfl ⟨Nat.le_of_ble_eq_true rfl, Nat.le_of_ble_eq_true rfl⟩ (S) ?_
    refine er_b rfl rfl (fun _ => ?_) (fun q => absurd (bI_ne.mpr bi) q)
    refine er_s rfl ?_
    refine er_sw rfl rfl ?_
    iterate 3 refine er_s rfl ?_
    refine er_il rfl rfl (vi) ?_
    refine er_q rfl ?_ ?_
    · rw [cl b]; exact congrArg (fun x => some (Value.int x)) (P.co hb)
    · rfl
  · show EvR _ _ 0 [(0, _), (1, _), (2, _)] [] _ _ _
    iterate 2 refine er_s rfl ?_
    refine er_c rfl rfl ⟨Nat.le_of_ble_eq_true rfl, Nat.le_of_ble_eq_true rfl⟩ (S) ?_
    refine er_b rfl rfl (fun _ => ?_) (fun q => absurd (bI_ne.mpr bi) q)
    refine er_s rfl ?_
    refine er_sw rfl rfl ?_
    iterate 3 refine er_s rfl ?_
    refine er_il rfl rfl (vi) ?_
    refine er_q rfl ?_ ?_
    · rw [cl b]; exact congrArg (fun x => some (Value.int x)) (P.cu hb)
    · rfl
  · show EvR _ _ 0 [(0, _), (1, _), (2, _)] [] _ _ _
    iterate 2 refine er_s rfl ?_
    refine er_c rfl rfl ⟨Nat.le_of_ble_eq_true rfl, Nat.le_of_ble_eq_true rfl⟩ (S) ?_
    refine er_b rfl rfl (fun _ => ?_) (fun q => absurd (bI_ne.mpr bi) q)
    refine er_s rfl ?_
    refine er_sw rfl rfl ?_
    iterate 3 refine er_s rfl ?_
    refine er_il rfl rfl (vi) ?_
    refine er_q rfl ?_ ?_
    · rw [cl b]; exact congrArg (fun x => some (Value.int x)) (P.jt hb)
    · rfl
  · show EvR _ _ 0 [(0, _), (1, _), (2, _)] [] _ _ _
    iterate 2 refine er_s rfl ?_
    refine er_c rfl rfl ⟨Nat.le_of_ble_eq_true rfl, Nat.le_of_ble_eq_true rfl⟩ (S) ?_
    refine er_b rfl rfl (fun _ => ?_) (fun q => absurd (bI_ne.mpr bi) q)
    refine er_s rfl ?_
    refine er_sw rfl rfl ?_
    iterate 3 refine er_s rfl ?_
    refine er_il rfl rfl (vi) ?_
    refine er_q rfl ?_ ?_
    · rw [cl b]; exact congrArg (fun x => some (Value.int x)) (P.pl hb)
    · rfl
  · show EvR _ _ 0 [(0, _), (1, _), (2, _)] [] _ _ _
    iterate 2 refine er_s rfl ?_
    refine er_c rfl rfl ⟨Nat.le_of_ble_eq_true rfl, Nat.le_of_ble_eq_true rfl⟩ (S) ?_
    refine er_b rfl rfl (fun _ => ?_) (fun q => absurd (bI_ne.mpr bi) q)
    refine er_s rfl ?_
    refine er_sw rfl rfl ?_
    iterate 3 refine er_s rfl ?_
    refine er_il rfl rfl (vi) ?_
    refine er_q rfl ?_ ?_
    · rw [cl b]; exact congrArg (fun x => some (Value.int x)) (P.wy hb)
    · rfl
/-- carrying out in the class: what it answers, row, masses -/
def pfR (o : Int32) (r : Nat → Int32) (w : Nat → UInt32) (q : Int32 × Int32 × Int32) : Nat → Int32 := if o = 120 then takeR r q.1 else stR o r w q
def pfW (o : Int32) (r : Nat → Int32) (w : Nat → UInt32) (q : Int32 × Int32 × Int32) : Nat → UInt32 := if o = 120 then w else stW o r w q
def pfA (o : Int32) (r : Nat → Int32) (w : Nat → UInt32) (q : Int32 × Int32 × Int32) : Int32 := if o = 115 then nI (CN r) else if o = 108 then nI (supN (layR9 r q.1 q.2.1 q.2.2) q.1.toNatClampNeg) else if o = 116 then r (5 + q.1.toNatClampNeg) else if o = 118 then r 3 else if o = 120 then ofB r q.1.toNatClampNeg 1 else nI (onN r) - nI (onN (passR r w q.1))
theorem houL72 : HouL 72 := by
  refine ⟨rfl, ⟨rfl, rfl⟩, ⟨rfl, rfl⟩⟩
theorem p_pfSaw (d : Nat) {h : AH} {r : Nat → Int32} {w : Nat → UInt32} {B : Nat} (P : Pal h 32 r w) (I : Inv B r w) (q9 : Int32 × Int32 × Int32) (hc : sawC r q9.1 q9.2.1 q9.2.2 = 0) : WM (d + 3) mX9_perform [.ref 71, .ref 32, .int 115, .int q9.1, .int q9.2.1, .int q9.2.2] h (fun v h' => v = some (.int (nI (CN r))) ∧ Pal h' 32 (sawR9 r q9.1 q9.2.1 q9.2.2) (sawW9 r w q9.1 q9.2.1 q9.2.2) ∧ FrH 32 72 h h') := by
  have A := p_addBlock (d + 0) P I hc
  unfold sawR9 sawW9
  rw [if_pos hc, if_pos hc]
  show WX _ _ 0 [(0, _), (1, _), (2, _), (3, _), (4, _), (5, _)] [] _ _
  refine ex_s rfl ?_
  refine ex_sw rfl rfl ?_
  iterate 4 refine ex_s rfl ?_
  refine ex_xc rfl rfl ⟨Nat.le_of_ble_eq_true rfl, Nat.le_of_ble_eq_true rfl⟩ (A) (fun rv9 h9 p9 => ?_)
  obtain ⟨rfl, P1, F1⟩ := p9
  refine ex_q rfl ?_
  exact ⟨rfl, P1, F1.hr⟩
theorem p_pfHeat (d : Nat) {h : AH} {r : Nat → Int32} {w : Nat → UInt32} (P : Pal h 32 r w) (q9 : Int32 × Int32 × Int32) (hc : heatC q9.1 q9.2.1 = 0) : WM (d + 3) mX9_perform [.ref 71, .ref 32, .int 116, .int q9.1, .int q9.2.1, .int q9.2.2] h (fun v h' => v = some (.int (r (5 + q9.1.toNatClampNeg))) ∧ Pal h' 32 (heatR r q9.1 q9.2.1) w ∧ FrH 32 72 h h') := by
  unfold heatR
  rw [if_pos hc]
  have c1 : 0 ≤ q9.1 ∧ q9.1 ≤ 23 := Decidable.not_not.mp (fun z => by unfold heatC at hc; rw [if_pos z] at hc; exact absurd hc (by decide))
  obtain ⟨n, hn, e⟩ := nI_of2 (x := q9.1) (M := 23) (n := 23) rfl (Int32.not_lt.mpr c1.1) c1.2
  rw [e, nI_clamp (by omega)]
  have A := p_setT (d + 0) P (n := n) (by omega) q9.2.1
  show WX _ _ 0 [(0, _), (1, _), (2, _), (3, _), (4, _), (5, _)] [] _ _
  refine ex_s rfl ?_
  refine ex_sw rfl rfl ?_
  iterate 4 refine ex_s rfl ?_
  refine ex_xc rfl rfl ⟨Nat.le_of_ble_eq_true rfl, Nat.le_of_ble_eq_true rfl⟩ (A) (fun rv9 h9 p9 => ?_)
  obtain ⟨rfl, P1, F1⟩ := p9
  refine ex_q rfl ?_
  exact ⟨rfl, P1, F1.hr⟩
theorem p_pfVisit (d : Nat) {h : AH} {r : Nat → Int32} {w : Nat → UInt32} (P : Pal h 32 r w) (q9 : Int32 × Int32 × Int32) (hc : visitC q9.1 = 0) : WM (d + 3) mX9_perform [.ref 71, .ref 32, .int 118, .int q9.1, .int q9.2.1, .int q9.2.2] h (fun v h' => v = some (.int (r 3)) ∧ Pal h' 32 (visitR r q9.1) w ∧ FrH 32 72 h h') := by
  unfold visitR
  rw [if_pos hc]
  have A := p_setV (d + 0) P q9.1
  show WX _ _ 0 [(0, _), (1, _), (2, _), (3, _), (4, _), (5, _)] [] _ _
  refine ex_s rfl ?_
  refine ex_sw rfl rfl ?_
  iterate 3 refine ex_s rfl ?_
  refine ex_xc rfl rfl ⟨Nat.le_of_ble_eq_true rfl, Nat.le_of_ble_eq_true rfl⟩ (A) (fun rv9 h9 p9 => ?_)
  obtain ⟨rfl, P1, F1⟩ := p9
  refine ex_q rfl ?_
  exact ⟨rfl, P1, F1.hr⟩
theorem p_pfTake (d : Nat) {h : AH} {r : Nat → Int32} {w : Nat → UInt32} (P : Pal h 32 r w) (hS : Str r) (q9 : Int32 × Int32 × Int32) (hc : takeC r q9.1 = 0) : WM (d + 3) mX9_perform [.ref 71, .ref 32, .int 120, .int q9.1, .int q9.2.1, .int q9.2.2] h (fun v h' => v = some (.int (ofB r q9.1.toNatClampNeg 1)) ∧ Pal h' 32 (takeR r q9.1) w ∧ FrH 32 72 h h') := by
  have hw := hS.1
  have h40 := hw.2.1
  unfold takeR
  rw [if_pos hc]
  unfold takeC at hc
  have c1 : 0 ≤ q9.1 ∧ q9.1 ≤ r 4 - 1 := Decidable.not_not.mp (fun z => by rw [if_pos z] at hc; exact absurd hc (by decide))
  rw [if_neg (fun z => z c1)] at hc
  obtain ⟨b, hb, e⟩ := (blk_or hw q9.1).resolve_right (fun z => z c1)
  rw [e, nI_clamp (show b < 2 ^ 31 by omega)] at hc ⊢
  have c2 : ofB r b 2 = 0 := Decidable.not_not.mp (fun z => by rw [if_neg z] at hc; exact absurd hc (by decide))
  have A := p_remR (d + 0) palL32 P hS hb c2 1
  have eL : ofB (goesR r b 1) b 1 = ofB r b 1 := goesR_LN (hw.2.2 b hb).2
  have hW2 := goesR_Wel (wy := 1) hw hb
  have hb2 : b < CN (goesR r b 1) := by rw [goesR_CN]; exact hb
  show WX _ _ 0 [(0, _), (1, _), (2, _), (3, _), (4, _), (5, _)] [] _ _
  refine ex_s rfl ?_
  refine ex_sw rfl rfl ?_
  iterate 3 refine ex_s rfl ?_
  refine ex_xc rfl rfl ⟨Nat.le_of_ble_eq_true rfl, Nat.le_of_ble_eq_true rfl⟩ (A) (fun rv9 h9 p9 => ?_)
  obtain ⟨rfl, P1, F1⟩ := p9
  have N := p_numberOf (d + 1) P1 hW2 hb2 (x := 1) (by decide)
  rw [eL] at N
  iterate 3 refine ex_s rfl ?_
  refine ex_c rfl rfl ⟨Nat.le_of_ble_eq_true rfl, Nat.le_of_ble_eq_true rfl⟩ (N) ?_
  refine ex_q rfl ?_
  exact ⟨rfl, P1, F1.hr⟩
theorem p_pfLay (d : Nat) {h : AH} {r : Nat → Int32} {w : Nat → UInt32} (P : Pal h 32 r w) (hS : Str r) (q9 : Int32 × Int32 × Int32) (hc : layC r q9.1 q9.2.1 q9.2.2 = 0) : WM (d + 3) mX9_perform [.ref 71, .ref 32, .int 108, .int q9.1, .int q9.2.1, .int q9.2.2] h (fun v h' => v = some (.int (nI (supN (layR9 r q9.1 q9.2.1 q9.2.2) q9.1.toNatClampNeg))) ∧ Pal h' 32 (layR9 r q9.1 q9.2.1 q9.2.2) w ∧ FrH 32 72 h h') := by
  have hw := hS.1
  have h40 := hw.2.1
  unfold layR9
  rw [if_pos hc]
  unfold layC at hc
  have c1 : (0 ≤ q9.1 ∧ q9.1 ≤ r 4 - 1) ∧ (0 ≤ q9.2.1 ∧ q9.2.1 ≤ 11) ∧ (0 ≤ q9.2.2 ∧ q9.2.2 ≤ 7) := Decidable.not_not.mp (fun z => by rw [if_pos z] at hc; exact absurd hc (by decide))
  rw [if_neg (fun z => z c1)] at hc
  obtain ⟨b, hb, e1⟩ := (blk_or hw q9.1).resolve_right (fun z => z c1.1)
  obtain ⟨j, hj, e2⟩ := nI_of2 (x := q9.2.1) (M := 11) (n := 11) rfl (Int32.not_lt.mpr c1.2.1.1) c1.2.1.2
  obtain ⟨c, hc8, e3⟩ := nI_of2 (x := q9.2.2) (M := 7) (n := 7) rfl (Int32.not_lt.mpr c1.2.2.1) c1.2.2.2
  rw [e1, e2, e3, nI_clamp (show b < 2 ^ 31 by omega), nI_clamp (show j < 2 ^ 31 by omega), nI_clamp (show c < 2 ^ 31 by omega)] at hc ⊢
  have hq : (layQ r b j c).1 = 0 := Decidable.not_not.mp (fun z => by rw [if_neg z] at hc; exact absurd hc (by decide))
  have d1 : ofB r b 2 = 0 := Decidable.not_not.mp (fun q => by unfold layQ at hq; rw [if_pos q] at hq; exact absurd hq (show ¬ (6 : Int32) = 0 by decide))
  have d2 : ¬ 12 < j + LN r b := fun q => by unfold layQ at hq; rw [if_neg (fun z => z d1), if_pos q] at hq; exact absurd hq (show ¬ (7 : Int32) = 0 by decide)
  have d3 : ¬ filN r c j (LN r b) < LN r b := fun q => by unfold layQ at hq; rw [if_neg (fun z => z d1), if_neg d2, if_pos q] at hq; exact absurd hq (show ¬ (8 : Int32) = 0 by decide)
  have hf : ∀ i, i < LN r b → ¬ 0 ≤ gAt r c (j + i) := fun i hi q => fstP_no _ 0 (by omega) d3 i (Nat.zero_le i) hi (decide_eq_true q)
  have hS2 := lay_Str hS hb d1 (by omega) (by omega) hf
  have A := p_put (d + 0) palL32 P hS hb d1 (c := c) (j := j) (by omega) (by omega)
  have hb2 : b < CN (layR r b j c) := by rw [layR_CN]; exact hb
  have st2 : ofB (layR r b j c) b 2 = 1 := by rw [layR_b (by omega) (by omega)]; exact setB_eq.2.2.1
  show WX _ _ 0 [(0, _), (1, _), (2, _), (3, _), (4, _), (5, _)] [] _ _
  refine ex_s rfl ?_
  refine ex_sw rfl rfl ?_
  iterate 4 refine ex_s rfl ?_
  refine ex_xc rfl rfl ⟨Nat.le_of_ble_eq_true rfl, Nat.le_of_ble_eq_true rfl⟩ (A) (fun rv9 h9 p9 => ?_)
  obtain ⟨rfl, P1, F1⟩ := p9
  have N := p_supportOf (d + 0) palL32 P1 hS2.1 hb2 st2
  iterate 2 refine ex_s rfl ?_
  refine ex_c rfl rfl ⟨Nat.le_of_ble_eq_true rfl, Nat.le_of_ble_eq_true rfl⟩ (N) ?_
  refine ex_q rfl ?_
  exact ⟨rfl, P1, F1.hr⟩
end
