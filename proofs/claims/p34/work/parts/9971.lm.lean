noncomputable section
abbrev rfS : Int32 := -100000000
theorem lm_px {l : Launch} {h : AH} {mi i mj na pc1 : Nat} {lc1 : LC} {st1 av0 av rest : List Value} {f : Int32} {en n n1 : Nat} {Gd : Option Value → AH → Prop} {Bd : AH → Prop} {P : Option Value → AH → Prop} (hfl : l.stackTraces = false) (hm : mi ∈ lwMs) (hT : TM n 20 mj av h (PX f en Gd Bd)) (hcat : (av0.map fun v => v.category).sum ≤ cM mi)
    (hrun : run n1 21 mi 0 (lv_args 0 av0) [] h = some (pc1, lc1, st1, h)) (hw : wfE mi pc1 (4, .invokevirtual i, pc1 + 3, mj, na, 0, .null) = true) (ha : cArgs 0 na mj st1 = some (av, rest)) (h8 : (rest.map fun v => v.category).sum ≤ 8 ∧ (av.map fun v => v.category).sum ≤ cM mj)
    (good : f = 0 → ∀ v h2, Gd v h2 → ∃ x, EvR 21 mi (pc1 + 3) lc1 (v.toList ++ rest) h2 (some x) h2 ∧ P (some x) h2)
    (bad : f ≠ 0 → ∃ q x, hdG mi (lwH mi) pc1 en = some q ∧ ∀ h2, Bd h2 → EvR 21 mi q [] [] h2 (some x) h2 ∧ P (some x) h2) : LM l mi av0 h P := by
  obtain ⟨o1, hr, p⟩ := hT
  match o1, hr, p with
  | .inl (v, h2), hr, p =>
    obtain ⟨x, e1, e2⟩ := good p.1 v h2 p.2
    exact lm_of hfl hm hcat hrun hw ha h8 hr (Or.inl ⟨v, h2, rfl, e1⟩) e2
  | .inr (e9, h2), hr, p =>
    obtain ⟨p1, p2, p3⟩ := p
    subst p2
    obtain ⟨q, x, e1, e2⟩ := bad p1
    obtain ⟨e3, e4⟩ := e2 h2 p3
    exact lm_of hfl hm hcat hrun hw ha h8 hr (Or.inr ⟨e9, h2, q, rfl, e1, e3⟩) e4
theorem clF_heat {r : Nat → Int32} {a b : Int32} : clF 116 r (a, b, 0) = 0 ∨ clF 116 r (a, b, 0) = 1 ∨ clF 116 r (a, b, 0) = 2 := by
  rw [show clF 116 r (a, b, 0) = heatC a b from cl_116]
  unfold heatC
  repeat' split
  all_goals decide
theorem clF_visit {r : Nat → Int32} {a : Int32} : clF 118 r (a, 0, 0) = 0 ∨ clF 118 r (a, 0, 0) = 2 := by
  rw [show clF 118 r (a, 0, 0) = (if visitC a = 0 then 0 else 2) from cl_118]
  split
  all_goals decide
theorem clF_pass {r : Nat → Int32} {a : Int32} : clF 104 r (a, 0, 0) = 0 ∨ clF 104 r (a, 0, 0) = 2 := by
  rw [show clF 104 r (a, 0, 0) = (if passC a = 0 then 0 else 2) from cl_104]
  split
  all_goals decide
theorem clF_saw {r : Nat → Int32} {a b c : Int32} : clF 115 r (a, b, c) = 0 ∨ clF 115 r (a, b, c) = 1 ∨ clF 115 r (a, b, c) = 2 ∨ clF 115 r (a, b, c) = 3 := by
  rw [show clF 115 r (a, b, c) = sawC r a b c from if_pos rfl]
  unfold sawC
  repeat' split
  all_goals decide
theorem clF_lay {r : Nat → Int32} {a b c : Int32} : clF 108 r (a, b, c) = 0 ∨ clF 108 r (a, b, c) = 1 ∨ clF 108 r (a, b, c) = 3 := by
  rw [show clF 108 r (a, b, c) = layK (layC r a b c) from cl_108.1]
  have z : layC r a b c = 0 ∨ layC r a b c = 1 ∨ layC r a b c = 2 := by
    unfold layC
    repeat' split
    all_goals decide
  rcases z with e | e | e <;> rw [e] <;> decide
theorem clF_take {r : Nat → Int32} {a : Int32} : clF 120 r (a, 0, 0) = 0 ∨ clF 120 r (a, 0, 0) = 1 ∨ clF 120 r (a, 0, 0) = 3 := by
  rw [show clF 120 r (a, 0, 0) = layK (takeC r a) from cl_120.1]
  have z : takeC r a = 0 ∨ takeC r a = 1 ∨ takeC r a = 2 := by
    unfold takeC
    repeat' split
    all_goals decide
  rcases z with e | e | e <;> rw [e] <;> decide
section
variable {l : Launch} {h : AH} {r : Nat → Int32} {w : Nat → UInt32} {S : Sv} {K : Hs} {q : Int32 × Int32} {T : Tx} {B : Nat}
/-- a change, or a refused one -/
def OpQ (o : Int32) (t : Int32 × Int32 × Int32) (r : Nat → Int32) (w : Nat → UInt32) (S : Sv) (K : Hs) (q : Int32 × Int32) (T : Tx) : Option Value → AH → Prop := fun v h' => (clF o r t = 0 ∧ v = some (.int (pfA o r w t)) ∧ CS h' (pfR o r w t) (pfW o r w t) S (pushK K r w) q T) ∨ (clF o r t ≠ 0 ∧ v = some (.int rfS) ∧ ∃ q', CS h' r w S K q' T)
theorem l_heat (hfl : l.stackTraces = false) (C : CS h r w S K q T) (I : Inv B r w) (hB : B + 48 < 2 ^ 30) (a b : Int32) : LM l mL_heat [.ref 31, .int a, .int b] h (OpQ 116 (a, b, 0) r w S K q T) := by
  have hr : run 6 21 mL_heat 0 (lv_args 0 [.ref 31, .int a, .int b]) [] h = some (6, [(3, .int rfS), (0, .ref 31), (1, .int a), (2, .int b)], [.int b, .int a, .ref 31], h) := rfl
  refine lm_px (i := 11) (na := 2) (n1 := 6) hfl (by decide) (p_op_heat 1 13 C I hB a b) (Nat.le_of_ble_eq_true rfl) hr (by decide +kernel) rfl ⟨Nat.le_of_ble_eq_true rfl, Nat.le_of_ble_eq_true rfl⟩ (fun e0 v h2 g => ?_) (fun e0 => ?_)
  · obtain ⟨rfl, g⟩ := g
    refine ⟨_, ?_, Or.inl ⟨e0, rfl, g⟩⟩
    refine er_s rfl ?_
    refine er_g rfl rfl ?_
    refine er_s rfl ?_
    refine er_q rfl rfl rfl
  · have hc := clF_heat (r := r) (a := a) (b := b)
    rcases hc with e1 | e1 | e1
    · exact absurd e1 e0
    · unfold flE
      rw [e1]
      refine ⟨15, .int rfS, by decide +kernel, fun h2 g => ⟨?_, Or.inr ⟨by rw [e1]; decide, rfl, _, g⟩⟩⟩
      refine er_s rfl ?_
      refine er_q rfl rfl rfl
    · unfold flE
      rw [e1]
      refine ⟨20, .int rfS, by decide +kernel, fun h2 g => ⟨?_, Or.inr ⟨by rw [e1]; decide, rfl, _, g⟩⟩⟩
      refine er_s rfl ?_
      refine er_q rfl rfl rfl
theorem l_visit (hfl : l.stackTraces = false) (C : CS h r w S K q T) (I : Inv B r w) (hB : B + 48 < 2 ^ 30) (a : Int32) : LM l mL_visit [.ref 31, .int a] h (OpQ 118 (a, 0, 0) r w S K q T) := by
  have hr : run 5 21 mL_visit 0 (lv_args 0 [.ref 31, .int a]) [] h = some (5, [(2, .int rfS), (0, .ref 31), (1, .int a)], [.int a, .ref 31], h) := rfl
  refine lm_px (i := 21) (na := 1) (n1 := 5) hfl (by decide) (p_op_visit 1 13 C I hB a) (Nat.le_of_ble_eq_true rfl) hr (by decide +kernel) rfl ⟨Nat.le_of_ble_eq_true rfl, Nat.le_of_ble_eq_true rfl⟩ (fun e0 v h2 g => ?_) (fun e0 => ?_)
  · obtain ⟨rfl, g⟩ := g
    refine ⟨_, ?_, Or.inl ⟨e0, rfl, g⟩⟩
    refine er_s rfl ?_
    refine er_g rfl rfl ?_
    refine er_s rfl ?_
    refine er_q rfl rfl rfl
  · have hc := clF_visit (r := r) (a := a)
    rcases hc with e1 | e1
    · exact absurd e1 e0
    · unfold flE
      rw [e1]
      refine ⟨13, .int rfS, by decide +kernel, fun h2 g => ⟨?_, Or.inr ⟨by rw [e1]; decide, rfl, _, g⟩⟩⟩
      refine er_s rfl ?_
      refine er_q rfl rfl rfl
theorem l_saw (hfl : l.stackTraces = false) (C : CS h r w S K q T) (I : Inv B r w) (hB : B + 48 < 2 ^ 30) (a b c : Int32) : LM l mL_saw [.ref 31, .int a, .int b, .int c] h (OpQ 115 (a, b, c) r w S K q T) := by
  have hr : run 7 21 mL_saw 0 (lv_args 0 [.ref 31, .int a, .int b, .int c]) [] h = some (8, [(4, .int rfS), (0, .ref 31), (1, .int a), (2, .int b), (3, .int c)], [.int c, .int b, .int a, .ref 31], h) := rfl
  refine lm_px (i := 25) (na := 3) (n1 := 7) hfl (by decide) (p_op_saw 1 13 C I hB a b c) (Nat.le_of_ble_eq_true rfl) hr (by decide +kernel) rfl ⟨Nat.le_of_ble_eq_true rfl, Nat.le_of_ble_eq_true rfl⟩ (fun e0 v h2 g => ?_) (fun e0 => ?_)
  · obtain ⟨rfl, g⟩ := g
    refine ⟨_, ?_, Or.inl ⟨e0, rfl, g⟩⟩
    refine er_s rfl ?_
    refine er_g rfl rfl ?_
    refine er_s rfl ?_
    refine er_q rfl rfl rfl
  · have hc := clF_saw (r := r) (a := a) (b := b) (c := c)
    rcases hc with e1 | e1 | e1 | e1
    · exact absurd e1 e0
    · unfold flE
      rw [e1]
      refine ⟨18, .int rfS, by decide +kernel, fun h2 g => ⟨?_, Or.inr ⟨by rw [e1]; decide, rfl, _, g⟩⟩⟩
      refine er_s rfl ?_
      refine er_q rfl rfl rfl
    · unfold flE
      rw [e1]
      refine ⟨23, .int rfS, by decide +kernel, fun h2 g => ⟨?_, Or.inr ⟨by rw [e1]; decide, rfl, _, g⟩⟩⟩
      refine er_s rfl ?_
      refine er_q rfl rfl rfl
    · unfold flE
      rw [e1]
      refine ⟨28, .int rfS, by decide +kernel, fun h2 g => ⟨?_, Or.inr ⟨by rw [e1]; decide, rfl, _, g⟩⟩⟩
      refine er_s rfl ?_
      refine er_q rfl rfl rfl
theorem l_lay (hfl : l.stackTraces = false) (C : CS h r w S K q T) (I : Inv B r w) (hB : B + 48 < 2 ^ 30) (a b c : Int32) : LM l mL_lay [.ref 31, .int a, .int b, .int c] h (OpQ 108 (a, b, c) r w S K q T) := by
  have hr : run 7 21 mL_lay 0 (lv_args 0 [.ref 31, .int a, .int b, .int c]) [] h = some (8, [(4, .int rfS), (0, .ref 31), (1, .int a), (2, .int b), (3, .int c)], [.int c, .int b, .int a, .ref 31], h) := rfl
  refine lm_px (i := 31) (na := 3) (n1 := 7) hfl (by decide) (p_op_lay 1 13 C I hB a b c) (Nat.le_of_ble_eq_true rfl) hr (by decide +kernel) rfl ⟨Nat.le_of_ble_eq_true rfl, Nat.le_of_ble_eq_true rfl⟩ (fun e0 v h2 g => ?_) (fun e0 => ?_)
  · obtain ⟨rfl, g⟩ := g
    refine ⟨_, ?_, Or.inl ⟨e0, rfl, g⟩⟩
    refine er_s rfl ?_
    refine er_g rfl rfl ?_
    refine er_s rfl ?_
    refine er_q rfl rfl rfl
  · have hc := clF_lay (r := r) (a := a) (b := b) (c := c)
    rcases hc with e1 | e1 | e1
    · exact absurd e1 e0
    · unfold flE
      rw [e1]
      refine ⟨18, .int rfS, by decide +kernel, fun h2 g => ⟨?_, Or.inr ⟨by rw [e1]; decide, rfl, _, g⟩⟩⟩
      refine er_s rfl ?_
      refine er_q rfl rfl rfl
    · unfold flE
      rw [e1]
      refine ⟨23, .int rfS, by decide +kernel, fun h2 g => ⟨?_, Or.inr ⟨by rw [e1]; decide, rfl, _, g⟩⟩⟩
      refine er_s rfl ?_
      refine er_q rfl rfl rfl
theorem l_take (hfl : l.stackTraces = false) (C : CS h r w S K q T) (I : Inv B r w) (hB : B + 48 < 2 ^ 30) (a : Int32) : LM l mL_take [.ref 31, .int a] h (OpQ 120 (a, 0, 0) r w S K q T) := by
  have hr : run 5 21 mL_take 0 (lv_args 0 [.ref 31, .int a]) [] h = some (5, [(2, .int rfS), (0, .ref 31), (1, .int a)], [.int a, .ref 31], h) := rfl
  refine lm_px (i := 34) (na := 1) (n1 := 5) hfl (by decide) (p_op_take 1 13 C I hB a) (Nat.le_of_ble_eq_true rfl) hr (by decide +kernel) rfl ⟨Nat.le_of_ble_eq_true rfl, Nat.le_of_ble_eq_true rfl⟩ (fun e0 v h2 g => ?_) (fun e0 => ?_)
  · obtain ⟨rfl, g⟩ := g
    refine ⟨_, ?_, Or.inl ⟨e0, rfl, g⟩⟩
    refine er_s rfl ?_
    refine er_g rfl rfl ?_
    refine er_s rfl ?_
    refine er_q rfl rfl rfl
  · have hc := clF_take (r := r) (a := a)
    rcases hc with e1 | e1 | e1
    · exact absurd e1 e0
    · unfold flE
      rw [e1]
      refine ⟨13, .int rfS, by decide +kernel, fun h2 g => ⟨?_, Or.inr ⟨by rw [e1]; decide, rfl, _, g⟩⟩⟩
      refine er_s rfl ?_
      refine er_q rfl rfl rfl
    · unfold flE
      rw [e1]
      refine ⟨17, .int rfS, by decide +kernel, fun h2 g => ⟨?_, Or.inr ⟨by rw [e1]; decide, rfl, _, g⟩⟩⟩
      refine er_s rfl ?_
      refine er_q rfl rfl rfl
theorem l_pass (hfl : l.stackTraces = false) (C : CS h r w S K q T) (I : Inv B r w) (hB : B + 48 < 2 ^ 30) (a : Int32) : LM l mL_pass [.ref 31, .int a] h (OpQ 104 (a, 0, 0) r w S K q T) := by
  have hr : run 5 21 mL_pass 0 (lv_args 0 [.ref 31, .int a]) [] h = some (5, [(2, .int rfS), (0, .ref 31), (1, .int a)], [.int a, .ref 31], h) := rfl
  refine lm_px (i := 37) (na := 1) (n1 := 5) hfl (by decide) (p_op_pass 1 13 C I hB a) (Nat.le_of_ble_eq_true rfl) hr (by decide +kernel) rfl ⟨Nat.le_of_ble_eq_true rfl, Nat.le_of_ble_eq_true rfl⟩ (fun e0 v h2 g => ?_) (fun e0 => ?_)
  · obtain ⟨rfl, g⟩ := g
    refine ⟨_, ?_, Or.inl ⟨e0, rfl, g⟩⟩
    refine er_s rfl ?_
    refine er_g rfl rfl ?_
    refine er_s rfl ?_
    refine er_q rfl rfl rfl
  · have hc := clF_pass (r := r) (a := a)
    rcases hc with e1 | e1
    · exact absurd e1 e0
    · unfold flE
      rw [e1]
      refine ⟨13, .int rfS, by decide +kernel, fun h2 g => ⟨?_, Or.inr ⟨by rw [e1]; decide, rfl, _, g⟩⟩⟩
      refine er_s rfl ?_
      refine er_q rfl rfl rfl
theorem l_goneIn (hfl : l.stackTraces = false) (C : CS h r w S K q T) (I : Inv B r w) (hB : B + 97 < 2 ^ 30) : LM l mL_goneIn [.ref 31] h (fun v h' => ((gnC r w = 0 ∧ v = some (.int (nI (gnK r w)))) ∨ (gnC r w ≠ 0 ∧ v = some (.int rfS))) ∧ CS h' r w S K q T) := by
  have hr : run 4 21 mL_goneIn 0 (lv_args 0 [.ref 31]) [] h = some (4, [(1, .int rfS), (0, .ref 31)], [.ref 31], h) := rfl
  refine lm_px (i := 40) (na := 0) (n1 := 4) hfl (by decide) (p_op_goneIn 1 13 C I hB) (Nat.le_of_ble_eq_true rfl) hr (by decide +kernel) rfl ⟨Nat.le_of_ble_eq_true rfl, Nat.le_of_ble_eq_true rfl⟩ (fun e0 v h2 g => ?_) (fun e0 => ?_)
  · obtain ⟨rfl, g⟩ := g
    refine ⟨_, ?_, Or.inl ⟨e0, rfl⟩, g⟩
    refine er_s rfl ?_
    refine er_g rfl rfl ?_
    refine er_s rfl ?_
    refine er_q rfl rfl rfl
  · refine ⟨12, .int rfS, by decide +kernel, fun h2 g => ⟨?_, Or.inr ⟨e0, rfl⟩, g⟩⟩
    refine er_s rfl ?_
    refine er_q rfl rfl rfl
theorem l_safe (hfl : l.stackTraces = false) (C : CS h r w S K q T) (I : Inv B r w) (hB : B + 48 < 2 ^ 30) : LM l mL_safe [.ref 31] h (fun v h' => ((sfC r w = 0 ∧ v = some (.int (sfA r w))) ∨ (sfC r w ≠ 0 ∧ v = some (.int rfS))) ∧ CS h' r w S K q T) := by
  have hr : run 4 21 mL_safe 0 (lv_args 0 [.ref 31]) [] h = some (4, [(1, .int rfS), (0, .ref 31)], [.ref 31], h) := rfl
  refine lm_px (i := 46) (na := 0) (n1 := 4) hfl (by decide) (p_op_safe 1 13 C I hB) (Nat.le_of_ble_eq_true rfl) hr (by decide +kernel) rfl ⟨Nat.le_of_ble_eq_true rfl, Nat.le_of_ble_eq_true rfl⟩ (fun e0 v h2 g => ?_) (fun e0 => ?_)
  · obtain ⟨rfl, g⟩ := g
    refine ⟨_, ?_, Or.inl ⟨e0, rfl⟩, g⟩
    refine er_s rfl ?_
    refine er_g rfl rfl ?_
    refine er_s rfl ?_
    refine er_q rfl rfl rfl
  · refine ⟨12, .int rfS, by decide +kernel, fun h2 g => ⟨?_, Or.inr ⟨e0, rfl⟩, g⟩⟩
    refine er_s rfl ?_
    refine er_q rfl rfl rfl
theorem l_worst (hfl : l.stackTraces = false) (C : CS h r w S K q T) (I : Inv B r w)  : LM l mL_worst [.ref 31] h (fun v h' => ((worstC r = 0 ∧ v = some (.int (oI (wstN r w (CN r))))) ∨ (worstC r ≠ 0 ∧ v = some (.int rfS))) ∧ CS h' r w S K q T) := by
  have hr : run 4 21 mL_worst 0 (lv_args 0 [.ref 31]) [] h = some (4, [(1, .int rfS), (0, .ref 31)], [.ref 31], h) := rfl
  refine lm_px (i := 49) (na := 0) (n1 := 4) hfl (by decide) (p_op_worst 1 16 C I) (Nat.le_of_ble_eq_true rfl) hr (by decide +kernel) rfl ⟨Nat.le_of_ble_eq_true rfl, Nat.le_of_ble_eq_true rfl⟩ (fun e0 v h2 g => ?_) (fun e0 => ?_)
  · obtain ⟨rfl, g⟩ := g
    refine ⟨_, ?_, Or.inl ⟨e0, rfl⟩, g⟩
    refine er_s rfl ?_
    refine er_g rfl rfl ?_
    refine er_s rfl ?_
    refine er_q rfl rfl rfl
  · refine ⟨12, .int rfS, by decide +kernel, fun h2 g => ⟨?_, Or.inr ⟨e0, rfl⟩, g⟩⟩
    refine er_s rfl ?_
    refine er_q rfl rfl rfl
theorem l_undo (hfl : l.stackTraces = false) (C : CS h r w S K q T) (I : IS B r w S K) : LM l mL_undo [.ref 31] h (fun v h' => (undoC K = 0 ∧ v = some (.int (nI (K.1 - 1))) ∧ CS h' (K.2.1 (K.1 - 1)) (K.2.2 (K.1 - 1)) S (K.1 - 1, K.2) q T) ∨ (undoC K ≠ 0 ∧ v = some (.int rfS) ∧ CS h' r w S K q T)) := by
  have hr : run 4 21 mL_undo 0 (lv_args 0 [.ref 31]) [] h = some (4, [(1, .int rfS), (0, .ref 31)], [.ref 31], h) := rfl
  refine lm_px (i := 59) (na := 0) (n1 := 4) hfl (by decide) (p_op_undo 1 17 C I) (Nat.le_of_ble_eq_true rfl) hr (by decide +kernel) rfl ⟨Nat.le_of_ble_eq_true rfl, Nat.le_of_ble_eq_true rfl⟩ (fun e0 v h2 g => ?_) (fun e0 => ?_)
  · obtain ⟨rfl, g⟩ := g
    refine ⟨_, ?_, Or.inl ⟨e0, rfl, g⟩⟩
    refine er_s rfl ?_
    refine er_g rfl rfl ?_
    refine er_s rfl ?_
    refine er_q rfl rfl rfl
  · refine ⟨12, .int rfS, by decide +kernel, fun h2 g => ⟨?_, Or.inr ⟨e0, rfl, g⟩⟩⟩
    refine er_s rfl ?_
    refine er_q rfl rfl rfl
theorem l_restore (hfl : l.stackTraces = false) (C : CS h r w S K q T) (I : IS B r w S K) : LM l mL_restore [.ref 31] h (fun v h' => (restC S = 0 ∧ v = some (.int (S.2.1 4)) ∧ CS h' S.2.1 S.2.2 S (0, K.2) q T) ∨ (restC S ≠ 0 ∧ v = some (.int rfS) ∧ CS h' r w S K q T)) := by
  have hr : run 4 21 mL_restore 0 (lv_args 0 [.ref 31]) [] h = some (4, [(1, .int rfS), (0, .ref 31)], [.ref 31], h) := rfl
  refine lm_px (i := 64) (na := 0) (n1 := 4) hfl (by decide) (p_op_restore 1 18 C I) (Nat.le_of_ble_eq_true rfl) hr (by decide +kernel) rfl ⟨Nat.le_of_ble_eq_true rfl, Nat.le_of_ble_eq_true rfl⟩ (fun e0 v h2 g => ?_) (fun e0 => ?_)
  · obtain ⟨rfl, g⟩ := g
    refine ⟨_, ?_, Or.inl ⟨e0, rfl, g⟩⟩
    refine er_s rfl ?_
    refine er_g rfl rfl ?_
    refine er_s rfl ?_
    refine er_q rfl rfl rfl
  · refine ⟨12, .int rfS, by decide +kernel, fun h2 g => ⟨?_, Or.inr ⟨e0, rfl, g⟩⟩⟩
    refine er_s rfl ?_
    refine er_q rfl rfl rfl
/-- the text carried out, or not -/
def RdQ (r : Nat → Int32) (w : Nat → UInt32) (S : Sv) (K : Hs) (q : Int32 × Int32) (T : Tx) : Option Value → AH → Prop := fun v h' => (rdK r w q T = 0 ∧ v = some (.int (nI (oN0 T.2.2 T.1 + 1))) ∧ ∃ q', CS h' (rdC T.2.2 T.1 r w q).2.1 (rdC T.2.2 T.1 r w q).2.2.1 S (pushK K r w) q' (0, rdE T, T.2.2)) ∨ (rdK r w q T ≠ 0 ∧ v = some (.int rfS) ∧ ∃ q', CS h' r w S K q' (0, rdE T, T.2.2))
theorem l_read (hfl : l.stackTraces = false) (C : CS h r w S K q T) (I : Inv B r w) (hB : B + 3000 < 2 ^ 30) : LM l mL_read [.ref 31] h (RdQ r w S K q T) := by
  have hr : run 4 21 mL_read 0 (lv_args 0 [.ref 31]) [] h = some (4, [(1, .int rfS), (0, .ref 31)], [.ref 31], h) := rfl
  refine lm_px (i := 52) (na := 0) (n1 := 4) hfl (by decide) (p_op_read 2 13 C I hB) (Nat.le_of_ble_eq_true rfl) hr (by decide +kernel) rfl ⟨Nat.le_of_ble_eq_true rfl, Nat.le_of_ble_eq_true rfl⟩ (fun e0 v h2 g => ?_) (fun e0 => ?_)
  · obtain ⟨rfl, g⟩ := g
    refine ⟨_, ?_, Or.inl ⟨e0, rfl, _, g⟩⟩
    refine er_s rfl ?_
    refine er_g rfl rfl ?_
    refine er_s rfl ?_
    refine er_q rfl rfl rfl
  · by_cases e2 : rdK r w q T = 2
    · rw [if_pos e2]
      refine ⟨16, .int rfS, by decide +kernel, fun h2 g => ⟨?_, Or.inr ⟨e0, rfl, _, g⟩⟩⟩
      refine er_s rfl ?_
      refine er_q rfl rfl rfl
    · rw [if_neg e2]
      refine ⟨12, .int rfS, by decide +kernel, fun h2 g => ⟨?_, Or.inr ⟨e0, rfl, _, g⟩⟩⟩
      refine er_s rfl ?_
      refine er_q rfl rfl rfl
theorem l_meanBits (hfl : l.stackTraces = false) (C : CS h r w S K q T) (I : Inv B r w) : LM l mL_meanBits [.ref 31] h (fun v h' => ((meanC r = 0 ∧ v = some (.long (meanD r w).toInt64)) ∨ (meanC r ≠ 0 ∧ v = some (.long (-1)))) ∧ CS h' r w S K q T) := by
  have hr : run 4 21 mL_meanBits 0 (lv_args 0 [.ref 31]) [] h = some (5, [(1, .long (-1)), (0, .ref 31)], [.ref 31], h) := rfl
  refine lm_px (i := 69) (na := 0) (n1 := 4) hfl (by decide) (p_op_meanBits 1 18 C I) (Nat.le_of_ble_eq_true rfl) hr (by decide +kernel) rfl ⟨Nat.le_of_ble_eq_true rfl, Nat.le_of_ble_eq_true rfl⟩ (fun e0 v h2 g => ?_) (fun e0 => ?_)
  · obtain ⟨rfl, g⟩ := g
    refine ⟨_, ?_, Or.inl ⟨e0, rfl⟩, g⟩
    refine er_s rfl ?_
    refine er_g rfl rfl ?_
    refine er_s rfl ?_
    refine er_q rfl rfl rfl
  · refine ⟨13, .long (-1), by decide +kernel, fun h2 g => ⟨?_, Or.inr ⟨e0, rfl⟩, g⟩⟩
    refine er_s rfl ?_
    refine er_q rfl rfl rfl
theorem l_append (hfl : l.stackTraces = false) (C : CS h r w S K q T) {x : Int32} (hx : kOk 2 x = true) : LM l mL_append [.ref 31, .int x] h (fun v h' => (T.1 < 60 ∧ v = some (.int 1) ∧ CS h' r w S K q (T.1 + 1, T.2.1, upd T.2.2 T.1 x)) ∨ (¬ T.1 < 60 ∧ v = some (.int 0) ∧ CS h' r w S K q T)) := by
  have hr : run 3 21 mL_append 0 (lv_args 0 [.ref 31, .int x]) [] h = some (2, [(0, .ref 31), (1, .int x)], [.int x, .ref 31], h) := rfl
  refine lm_px (i := 75) (na := 1) (n1 := 3) hfl (by decide) (p_op_append 1 19 C hx) (Nat.le_of_ble_eq_true rfl) hr (by decide +kernel) rfl ⟨Nat.le_of_ble_eq_true rfl, Nat.le_of_ble_eq_true rfl⟩ (fun e0 v h2 g => ?_) (fun e0 => ?_)
  · obtain ⟨rfl, g⟩ := g
    have e1 : T.1 < 60 := by
      by_cases z : T.1 < 60
      · exact z
      · unfold appC at e0; rw [if_neg z] at e0; exact absurd e0 (by decide)
    refine ⟨_, ?_, Or.inl ⟨e1, rfl, g⟩⟩
    refine er_s rfl ?_
    refine er_g rfl rfl ?_
    refine er_s rfl ?_
    refine er_q rfl rfl rfl
  · have e1 : ¬ T.1 < 60 := fun z => e0 (if_pos z)
    refine ⟨10, .int 0, by decide +kernel, fun h2 g => ⟨?_, Or.inr ⟨e1, rfl, g⟩⟩⟩
    refine er_s rfl ?_
    refine er_q rfl rfl rfl
end
end
