-- needs: 9963
noncomputable section
abbrev A2 (c : Int32) : Prop := c = 0 ∨ c = 1
abbrev A3 (c : Int32) : Prop := c = 0 ∨ c = 1 ∨ c = 2
abbrev A4 (c : Int32) : Prop := c = 0 ∨ c = 1 ∨ c = 2 ∨ c = 3
theorem A2_0 : A2 0 := Or.inl rfl
theorem A2_1 : A2 1 := Or.inr rfl
theorem A3_0 : A3 0 := Or.inl rfl
theorem A3_1 : A3 1 := Or.inr (Or.inl rfl)
theorem A3_2 : A3 2 := Or.inr (Or.inr rfl)
theorem A4_0 : A4 0 := Or.inl rfl
theorem A4_1 : A4 1 := Or.inr (Or.inl rfl)
theorem A4_2 : A4 2 := Or.inr (Or.inr (Or.inl rfl))
theorem A4_3 : A4 3 := Or.inr (Or.inr (Or.inr rfl))
theorem ite_or {P : Prop} {i : Decidable P} {A : Int32 → Prop} {x y : Int32} (hx : A x) (hy : A y) : A (if P then x else y) := by
  split
  · exact hx
  · exact hy
theorem layK_3 {c : Int32} (h : A3 c) : layK c = 3 ↔ c = 2 := by
  rcases h with e | e | e <;> rw [e] <;> decide
theorem layK_if {α : Type} {c : Int32} {x y : α} (h : A3 c) : (if layK c = 3 then x else y) = if c = 2 then x else y := by
  by_cases e : c = 2
  · rw [if_pos e, if_pos ((layK_3 h).mpr e)]
  · rw [if_neg e, if_neg (fun z => e ((layK_3 h).mp z))]
theorem mass_ok {r : Nat → Int32} {w : Nat → UInt32} {B : Nat} (I : Inv B r w) {x : Int32} (c : massC r x = 0) : mOk (w x.toNatClampNeg) := by
  unfold massC at c
  by_cases z : 0 ≤ x ∧ x ≤ r 4 - 1
  · rw [if_neg (fun y => y z)] at c
    obtain ⟨b, hb, rfl⟩ := (blk_or I.1.1 x).resolve_right (fun y => y z)
    have h40 := I.1.1.2.1
    rw [nI_clamp (by omega)] at c ⊢
    rcases I.1.s3 hb with e | e | e
    · exact I.2.2.1 b hb e
    · exact I.2.1.2.1 b hb e
    · rw [if_pos e] at c; exact absurd c (by decide)
  · rw [if_pos z] at c; exact absurd c (by decide)
theorem rdK_n {r : Nat → Int32} {w : Nat → UInt32} {q : Int32 × Int32} {T : Tx} (h : rdK r w q T = 0) : ¬ rdWr T.2.2 T.1 = true := fun z => by
  unfold rdK at h
  rw [if_pos z] at h
  exact absurd h (by decide)
theorem ftI_A {c x : Int32} : A3 (ftI c x) := by
  unfold ftI
  exact ite_or (A := A3) A3_0 (ite_or (A := A3) A3_2 A3_1)
theorem cyN_A {I : Nat → Int32} {L : Nat} {c : CyS} (hc : A3 c.1) : ∀ n, A3 (cyN I L c n).1
  | 0 => hc
  | n + 1 => by
    show A3 (cyS I L n (cyN I L c n)).1
    unfold cyS
    split
    · exact ftI_A
    · exact cyN_A hc n
theorem rdK_or {r : Nat → Int32} {w : Nat → UInt32} {q : Int32 × Int32} {T : Tx} : A3 (rdK r w q T) := by
  unfold rdK
  exact ite_or (A := A3) A3_1 (cyN_A (c := ((0 : Int32), r, w, q)) A3_0 _)
/-- as LQ, the answer a double -/
def LDq (r : Nat → Int32) (w : Nat → UInt32) (S : Sv) (K : Hs) (q : Int32 × Int32) (T : Tx) (c : Int32) (y : UInt64) (Z : AH → Prop) : Int32 → AH → Prop := fun k h3 => k = c ∧ RS h3 r w S K q T ∧ Z h3 ∧ (c = 0 → h3.2.2.2 213 0 = y)
section
variable {h : AH} {r r1 : Nat → Int32} {w w1 : Nat → UInt32} {S S1 : Sv} {K K1 : Hs} {q q1 q2 : Int32 × Int32} {T T1 T2 : Tx} {n d mi i mj na pc1 en : Nat} {lc1 : LC} {st1 av0 av rest : List Value} {f c : Int32}
theorem lm_l {Gd Bd Z : AH → Prop} {va : Value} {y : Int64} (hT : TM n d mj av h (PX f en (fun v h' => v = some va ∧ Gd h') Bd)) (hL9 : ¬ mj = mL_law) (hi : inS clP av = true) (R : RS h r w S K q T)
    (hcat : (av0.map fun v => v.category).sum ≤ cM mi) {n1 : Nat} (hrun : run n1 (d + 1) mi 0 (lv_args 0 av0) [] h = some (pc1, lc1, st1, h)) (hw : wfE mi pc1 (4, .invokevirtual i, pc1 + 3, mj, na, 0, .null) = true) (ha : cArgs 0 na mj st1 = some (av, rest)) (h8 : (rest.map fun v => v.category).sum ≤ 8 ∧ (av.map fun v => v.category).sum ≤ cM mj)
    (hev : ∀ h2, EvR (d + 1) mi (pc1 + 3) lc1 (va :: rest) h2 (some (.int 0)) (hL h2 212 0 y)) (hZ : ∀ g, Z g → Z (hL g 212 0 y))
    (g0 : f = 0 → c = 0 ∧ ∀ g, Gd g → Z g) (g1 : f ≠ 0 → (c ≠ 0 ∧ hdOk mi (lwH mi) pc1 en c = true) ∧ ∀ g, Bd g → Z g) : LM n d mi av0 h (LQ r w S K q T c y Z) := by
  refine lm_mk hT hL9 hi hcat hrun hw ha h8 (fun e0 v h2 g F => ?_) (fun e0 => ?_)
  · obtain ⟨rfl, g⟩ := g
    obtain ⟨c0, z⟩ := g0 e0
    exact ⟨_, hev h2, c0.symm, (R.fr F).hL, hZ _ (z h2 g), fun _ => by show (if 212 = 212 ∧ 0 = 0 then y else h2.2.2.1 212 0) = y; rw [if_pos ⟨rfl, rfl⟩]⟩
  · obtain ⟨⟨c0, hk⟩, z⟩ := g1 e0
    exact ⟨c, hk, fun h2 b F => ⟨rfl, R.fr F, z h2 b, fun e => absurd e c0⟩⟩
theorem lm_d {Gd Bd Z : AH → Prop} {va : Value} {y : UInt64} (hT : TM n d mj av h (PX f en (fun v h' => v = some va ∧ Gd h') Bd)) (hL9 : ¬ mj = mL_law) (hi : inS clP av = true) (R : RS h r w S K q T)
    (hcat : (av0.map fun v => v.category).sum ≤ cM mi) {n1 : Nat} (hrun : run n1 (d + 1) mi 0 (lv_args 0 av0) [] h = some (pc1, lc1, st1, h)) (hw : wfE mi pc1 (4, .invokevirtual i, pc1 + 3, mj, na, 0, .null) = true) (ha : cArgs 0 na mj st1 = some (av, rest)) (h8 : (rest.map fun v => v.category).sum ≤ 8 ∧ (av.map fun v => v.category).sum ≤ cM mj)
    (hev : f = 0 → ∀ h2, EvR (d + 1) mi (pc1 + 3) lc1 (va :: rest) h2 (some (.int 0)) (hD h2 213 0 y)) (hZ : ∀ g, Z g → Z (hD g 213 0 y))
    (g0 : f = 0 → c = 0 ∧ ∀ g, Gd g → Z g) (g1 : f ≠ 0 → (c ≠ 0 ∧ hdOk mi (lwH mi) pc1 en c = true) ∧ ∀ g, Bd g → Z g) : LM n d mi av0 h (LDq r w S K q T c y Z) := by
  refine lm_mk hT hL9 hi hcat hrun hw ha h8 (fun e0 v h2 g F => ?_) (fun e0 => ?_)
  · obtain ⟨rfl, g⟩ := g
    obtain ⟨c0, z⟩ := g0 e0
    exact ⟨_, hev e0 h2, c0.symm, (R.fr F).hD, hZ _ (z h2 g), fun _ => by show (if 213 = 213 ∧ 0 = 0 then y else h2.2.2.2 213 0) = y; rw [if_pos ⟨rfl, rfl⟩]⟩
  · obtain ⟨⟨c0, hk⟩, z⟩ := g1 e0
    exact ⟨c, hk, fun h2 b F => ⟨rfl, R.fr F, z h2 b, fun e => absurd e c0⟩⟩
variable {B : Nat}
theorem l_heat (C : CS h r w S K q T) (R : RS h r w S K q T) (I : IS B r w S K) (hB : B + 97 < 2 ^ 30) (a : Int32) (b : Int32) : LM 3 20 mL_heat [.ref 31, .int a, .int b, .ref 212] h (LQ r w S K q T (heatC a b) ((r (5 + a.toNatClampNeg)).toInt64) (fun g => CS g (heatR r a b) w S (if heatC a b = 0 then pushK K r w else K) q T)) := by
  have hB : B + 48 < 2 ^ 30 := by omega
  have co : A3 (heatC a b) := by unfold heatC; repeat' first | exact A3_0 | exact A3_1 | exact A3_2 | refine ite_or (A := A3) ?_ ?_
  have P := p_op_heat 1 13 C I.1 hB a b
  have e1 : clF 116 r (a, b, 0) = heatC a b := cl_116
  have e4 : pfR 116 r w (a, b, 0) = heatR r a b := (pf_o (o := 116) (by decide)).1.trans (st_116 (w := w) (s := (0, 0))).2.2.2.1
  have e5 : pfW 116 r w (a, b, 0) = w := (pf_o (o := 116) (by decide)).2.trans (st_116 (r := r) (s := (0, 0))).2.2.2.2
  have e6 : pfA 116 r w (a, b, 0) = r (5 + a.toNatClampNeg) := by unfold pfA; rw [if_neg (by decide), if_neg (by decide), if_pos rfl]
  rw [e1, e4, e5, e6, if_neg heatC_3] at P
  have ev : ∀ h2, EvR 21 mL_heat 8 [(0, .ref 31), (1, .int a), (2, .int b), (3, .ref 212)] [.int (r (5 + a.toNatClampNeg)), .int 0, .ref 212] h2 (some (.int 0)) (hL h2 212 0 (r (5 + a.toNatClampNeg)).toInt64) := fun h2 => by
    refine er_s rfl ?_
    refine er_ls rfl rfl (vi (k := 0)) ?_
    refine er_g rfl rfl ?_
    refine er_s rfl ?_
    refine er_q rfl ?_ ?_
    · rfl
    · rfl
  have hr : run 6 21 mL_heat 0 (lv_args 0 [.ref 31, .int a, .int b, .ref 212]) [] h = some (5, [(0, .ref 31), (1, .int a), (2, .int b), (3, .ref 212)], [.int b, .int a, .ref 31, .int 0, .ref 212], h) := rfl
  refine lm_l (i := 7) (na := 2) (n1 := 6) P (by decide) rfl R (Nat.le_of_ble_eq_true rfl) hr (by decide +kernel) rfl ⟨Nat.le_of_ble_eq_true rfl, Nat.le_of_ble_eq_true rfl⟩ ev (fun g C9 => C9) (fun e0 => ?_) (fun e0 => ?_)
  · exact ⟨e0, fun g C9 => by rw [if_pos e0]; exact C9⟩
  · refine ⟨?_, fun g C9 => by rw [if_neg e0, show heatR r a b = r from if_neg e0]; exact C9⟩
    rcases co with e1 | e1 | e1
    · exact absurd e1 e0
    · rw [e1]; exact ⟨by decide, by decide +kernel⟩
    · rw [e1]; exact ⟨by decide, by decide +kernel⟩
theorem l_visit (C : CS h r w S K q T) (R : RS h r w S K q T) (I : IS B r w S K) (hB : B + 97 < 2 ^ 30) (a : Int32) : LM 3 20 mL_visit [.ref 31, .int a, .ref 212] h (LQ r w S K q T (visitC a) ((r 3).toInt64) (fun g => CS g (visitR r a) w S (if visitC a = 0 then pushK K r w else K) q T)) := by
  have hB : B + 48 < 2 ^ 30 := by omega
  have co : A2 (visitC a) := by unfold visitC; repeat' first | exact A2_0 | exact A2_1 | refine ite_or (A := A2) ?_ ?_
  have P := p_op_visit 1 13 C I.1 hB a
  have e1 : clF 118 r (a, 0, 0) = (if visitC a = 0 then 0 else 2) := cl_118
  have e4 : pfR 118 r w (a, 0, 0) = visitR r a := (pf_o (o := 118) (by decide)).1.trans (st_118 (w := w) (s := (0, 0))).2.2.2.1
  have e5 : pfW 118 r w (a, 0, 0) = w := (pf_o (o := 118) (by decide)).2.trans (st_118 (r := r) (s := (0, 0))).2.2.2.2
  have e6 : pfA 118 r w (a, 0, 0) = r 3 := by unfold pfA; rw [if_neg (by decide), if_neg (by decide), if_neg (by decide), if_pos rfl]
  rw [e1, e4, e5, e6, if_neg (show ¬ (if visitC a = 0 then (0 : Int32) else 2) = 3 by split <;> decide)] at P
  have ev : ∀ h2, EvR 21 mL_visit 7 [(0, .ref 31), (1, .int a), (2, .ref 212)] [.int (r 3), .int 0, .ref 212] h2 (some (.int 0)) (hL h2 212 0 (r 3).toInt64) := fun h2 => by
    refine er_s rfl ?_
    refine er_ls rfl rfl (vi (k := 0)) ?_
    refine er_g rfl rfl ?_
    refine er_s rfl ?_
    refine er_q rfl ?_ ?_
    · rfl
    · rfl
  have hr : run 5 21 mL_visit 0 (lv_args 0 [.ref 31, .int a, .ref 212]) [] h = some (4, [(0, .ref 31), (1, .int a), (2, .ref 212)], [.int a, .ref 31, .int 0, .ref 212], h) := rfl
  refine lm_l (i := 17) (na := 1) (n1 := 5) P (by decide) rfl R (Nat.le_of_ble_eq_true rfl) hr (by decide +kernel) rfl ⟨Nat.le_of_ble_eq_true rfl, Nat.le_of_ble_eq_true rfl⟩ ev (fun g C9 => C9) (fun e0 => ?_) (fun e0 => ?_)
  · have e0 := if02 e0
    exact ⟨e0, fun g C9 => by rw [if_pos e0]; exact C9⟩
  · have e0 : visitC a ≠ 0 := fun z => e0 (if_pos z)
    rw [if_neg e0]
    refine ⟨?_, fun g C9 => by rw [if_neg e0, show visitR r a = r from if_neg e0]; exact C9⟩
    rcases co with e1 | e1
    · exact absurd e1 e0
    · rw [e1]; exact ⟨by decide, by decide +kernel⟩
theorem l_saw (C : CS h r w S K q T) (R : RS h r w S K q T) (I : IS B r w S K) (hB : B + 97 < 2 ^ 30) (a : Int32) (b : Int32) (c : Int32) : LM 3 20 mL_saw [.ref 31, .int a, .int b, .int c, .ref 212] h (LQ r w S K q T (sawC r a b c) ((nI (CN r)).toInt64) (fun g => CS g (sawR9 r a b c) (sawW9 r w a b c) S (if sawC r a b c = 0 then pushK K r w else K) (if sawC r a b c = 3 then sawQ r a b c else q) T)) := by
  have hB : B + 48 < 2 ^ 30 := by omega
  have co : A4 (sawC r a b c) := by unfold sawC; repeat' first | exact A4_0 | exact A4_1 | exact A4_2 | exact A4_3 | refine ite_or (A := A4) ?_ ?_
  have P := p_op_saw 1 13 C I.1 hB a b c
  have e1 : clF 115 r (a, b, c) = sawC r a b c := cl_115.1
  have e2 : clD 115 r (a, b, c) = sawQ r a b c := cl_115.2
  have e4 : pfR 115 r w (a, b, c) = sawR9 r a b c := (pf_o (o := 115) (by decide)).1.trans (st_115 (w := w) (s := (0, 0))).2.2.2.1
  have e5 : pfW 115 r w (a, b, c) = sawW9 r w a b c := (pf_o (o := 115) (by decide)).2.trans (st_115 (r := r) (s := (0, 0))).2.2.2.2
  have e6 : pfA 115 r w (a, b, c) = nI (CN r) := if_pos rfl
  rw [e1, e2, e4, e5, e6] at P
  have ev : ∀ h2, EvR 21 mL_saw 10 [(0, .ref 31), (1, .int a), (2, .int b), (3, .int c), (4, .ref 212)] [.int (nI (CN r)), .int 0, .ref 212] h2 (some (.int 0)) (hL h2 212 0 (nI (CN r)).toInt64) := fun h2 => by
    refine er_s rfl ?_
    refine er_ls rfl rfl (vi (k := 0)) ?_
    refine er_g rfl rfl ?_
    refine er_s rfl ?_
    refine er_q rfl ?_ ?_
    · rfl
    · rfl
  have hr : run 7 21 mL_saw 0 (lv_args 0 [.ref 31, .int a, .int b, .int c, .ref 212]) [] h = some (7, [(0, .ref 31), (1, .int a), (2, .int b), (3, .int c), (4, .ref 212)], [.int c, .int b, .int a, .ref 31, .int 0, .ref 212], h) := rfl
  refine lm_l (i := 21) (na := 3) (n1 := 7) P (by decide) rfl R (Nat.le_of_ble_eq_true rfl) hr (by decide +kernel) rfl ⟨Nat.le_of_ble_eq_true rfl, Nat.le_of_ble_eq_true rfl⟩ ev (fun g C9 => C9) (fun e0 => ?_) (fun e0 => ?_)
  · exact ⟨e0, fun g C9 => by rw [if_pos e0, if_neg (by rw [e0]; decide)]; exact C9⟩
  · refine ⟨?_, fun g C9 => by rw [if_neg e0, show sawR9 r a b c = r from if_neg e0, show sawW9 r w a b c = w from if_neg e0]; exact C9⟩
    rcases co with e1 | e1 | e1 | e1
    · exact absurd e1 e0
    · rw [e1]; exact ⟨by decide, by decide +kernel⟩
    · rw [e1]; exact ⟨by decide, by decide +kernel⟩
    · rw [e1]; exact ⟨by decide, by decide +kernel⟩
theorem l_lay (C : CS h r w S K q T) (R : RS h r w S K q T) (I : IS B r w S K) (hB : B + 97 < 2 ^ 30) (a : Int32) (b : Int32) (c : Int32) : LM 3 20 mL_lay [.ref 31, .int a, .int b, .int c, .ref 212] h (LQ r w S K q T (layC r a b c) ((nI (supN (layR9 r a b c) a.toNatClampNeg)).toInt64) (fun g => CS g (layR9 r a b c) w S (if layC r a b c = 0 then pushK K r w else K) (if layC r a b c = 2 then layQ r a.toNatClampNeg b.toNatClampNeg c.toNatClampNeg else q) T)) := by
  have hB : B + 48 < 2 ^ 30 := by omega
  have co : A3 (layC r a b c) := by unfold layC; repeat' first | exact A3_0 | exact A3_1 | exact A3_2 | refine ite_or (A := A3) ?_ ?_
  have P := p_op_lay 1 13 C I.1 hB a b c
  have e1 : clF 108 r (a, b, c) = layK (layC r a b c) := cl_108.1
  have e2 : clD 108 r (a, b, c) = layQ r a.toNatClampNeg b.toNatClampNeg c.toNatClampNeg := cl_108.2
  have e4 : pfR 108 r w (a, b, c) = layR9 r a b c := (pf_o (o := 108) (by decide)).1.trans (st_108 (w := w) (s := (0, 0))).2.2.2.1
  have e5 : pfW 108 r w (a, b, c) = w := (pf_o (o := 108) (by decide)).2.trans (st_108 (r := r) (s := (0, 0))).2.2.2.2
  have e6 : pfA 108 r w (a, b, c) = nI (supN (layR9 r a b c) a.toNatClampNeg) := by unfold pfA; rw [if_neg (by decide), if_pos rfl]
  rw [e1, e2, e4, e5, e6, layK_if layC_or] at P
  have ev : ∀ h2, EvR 21 mL_lay 10 [(0, .ref 31), (1, .int a), (2, .int b), (3, .int c), (4, .ref 212)] [.int (nI (supN (layR9 r a b c) a.toNatClampNeg)), .int 0, .ref 212] h2 (some (.int 0)) (hL h2 212 0 (nI (supN (layR9 r a b c) a.toNatClampNeg)).toInt64) := fun h2 => by
    refine er_s rfl ?_
    refine er_ls rfl rfl (vi (k := 0)) ?_
    refine er_g rfl rfl ?_
    refine er_s rfl ?_
    refine er_q rfl ?_ ?_
    · rfl
    · rfl
  have hr : run 7 21 mL_lay 0 (lv_args 0 [.ref 31, .int a, .int b, .int c, .ref 212]) [] h = some (7, [(0, .ref 31), (1, .int a), (2, .int b), (3, .int c), (4, .ref 212)], [.int c, .int b, .int a, .ref 31, .int 0, .ref 212], h) := rfl
  refine lm_l (i := 27) (na := 3) (n1 := 7) P (by decide) rfl R (Nat.le_of_ble_eq_true rfl) hr (by decide +kernel) rfl ⟨Nat.le_of_ble_eq_true rfl, Nat.le_of_ble_eq_true rfl⟩ ev (fun g C9 => C9) (fun e0 => ?_) (fun e0 => ?_)
  · have e0 := layK_0 e0
    exact ⟨e0, fun g C9 => by rw [if_pos e0, if_neg (by rw [e0]; decide)]; exact C9⟩
  · have e0 : layC r a b c ≠ 0 := fun z => e0 (by rw [z]; decide)
    refine ⟨?_, fun g C9 => by rw [if_neg e0, show layR9 r a b c = r from if_neg e0]; exact C9⟩
    rcases co with e1 | e1 | e1
    · exact absurd e1 e0
    · rw [e1]; exact ⟨by decide, by decide +kernel⟩
    · rw [e1]; exact ⟨by decide, by decide +kernel⟩
theorem l_take (C : CS h r w S K q T) (R : RS h r w S K q T) (I : IS B r w S K) (hB : B + 97 < 2 ^ 30) (a : Int32) : LM 3 20 mL_take [.ref 31, .int a, .ref 212] h (LQ r w S K q T (takeC r a) ((ofB r a.toNatClampNeg 1).toInt64) (fun g => CS g (takeR r a) w S (if takeC r a = 0 then pushK K r w else K) (if takeC r a = 2 then (6, a) else q) T)) := by
  have hB : B + 48 < 2 ^ 30 := by omega
  have co : A3 (takeC r a) := by unfold takeC; repeat' first | exact A3_0 | exact A3_1 | exact A3_2 | refine ite_or (A := A3) ?_ ?_
  have P := p_op_take 1 13 C I.1 hB a
  have e1 : clF 120 r (a, 0, 0) = layK (takeC r a) := cl_120.1
  have e2 : clD 120 r (a, 0, 0) = (6, a) := cl_120.2
  have e4 : pfR 120 r w (a, 0, 0) = takeR r a := if_pos rfl
  have e5 : pfW 120 r w (a, 0, 0) = w := if_pos rfl
  have e6 : pfA 120 r w (a, 0, 0) = ofB r a.toNatClampNeg 1 := by unfold pfA; rw [if_neg (by decide), if_neg (by decide), if_neg (by decide), if_neg (by decide), if_pos rfl]
  rw [e1, e2, e4, e5, e6, layK_if co] at P
  have ev : ∀ h2, EvR 21 mL_take 7 [(0, .ref 31), (1, .int a), (2, .ref 212)] [.int (ofB r a.toNatClampNeg 1), .int 0, .ref 212] h2 (some (.int 0)) (hL h2 212 0 (ofB r a.toNatClampNeg 1).toInt64) := fun h2 => by
    refine er_s rfl ?_
    refine er_ls rfl rfl (vi (k := 0)) ?_
    refine er_g rfl rfl ?_
    refine er_s rfl ?_
    refine er_q rfl ?_ ?_
    · rfl
    · rfl
  have hr : run 5 21 mL_take 0 (lv_args 0 [.ref 31, .int a, .ref 212]) [] h = some (4, [(0, .ref 31), (1, .int a), (2, .ref 212)], [.int a, .ref 31, .int 0, .ref 212], h) := rfl
  refine lm_l (i := 30) (na := 1) (n1 := 5) P (by decide) rfl R (Nat.le_of_ble_eq_true rfl) hr (by decide +kernel) rfl ⟨Nat.le_of_ble_eq_true rfl, Nat.le_of_ble_eq_true rfl⟩ ev (fun g C9 => C9) (fun e0 => ?_) (fun e0 => ?_)
  · have e0 := layK_0 e0
    exact ⟨e0, fun g C9 => by rw [if_pos e0, if_neg (by rw [e0]; decide)]; exact C9⟩
  · have e0 : takeC r a ≠ 0 := fun z => e0 (by rw [z]; decide)
    refine ⟨?_, fun g C9 => by rw [if_neg e0, show takeR r a = r from if_neg e0]; exact C9⟩
    rcases co with e1 | e1 | e1
    · exact absurd e1 e0
    · rw [e1]; exact ⟨by decide, by decide +kernel⟩
    · rw [e1]; exact ⟨by decide, by decide +kernel⟩
theorem l_pass (C : CS h r w S K q T) (R : RS h r w S K q T) (I : IS B r w S K) (hB : B + 97 < 2 ^ 30) (a : Int32) : LM 3 20 mL_pass [.ref 31, .int a, .ref 212] h (LQ r w S K q T (passC a) ((nI (onN r) - nI (onN (passR r w a))).toInt64) (fun g => CS g (passR r w a) (passW r w a) S (if passC a = 0 then pushK K r w else K) q T)) := by
  have hB : B + 48 < 2 ^ 30 := by omega
  have co : A2 (passC a) := by unfold passC; repeat' first | exact A2_0 | exact A2_1 | refine ite_or (A := A2) ?_ ?_
  have P := p_op_pass 1 13 C I.1 hB a
  have e1 : clF 104 r (a, 0, 0) = (if passC a = 0 then 0 else 2) := cl_104
  have e4 : pfR 104 r w (a, 0, 0) = passR r w a := (pf_o (o := 104) (by decide)).1.trans (st_104 (w := w) (s := (0, 0))).2.2.2.1
  have e5 : pfW 104 r w (a, 0, 0) = passW r w a := (pf_o (o := 104) (by decide)).2.trans (st_104 (r := r) (s := (0, 0))).2.2.2.2
  have e6 : pfA 104 r w (a, 0, 0) = nI (onN r) - nI (onN (passR r w a)) := by unfold pfA; rw [if_neg (by decide), if_neg (by decide), if_neg (by decide), if_neg (by decide), if_neg (by decide)]
  rw [e1, e4, e5, e6, if_neg (show ¬ (if passC a = 0 then (0 : Int32) else 2) = 3 by split <;> decide)] at P
  have ev : ∀ h2, EvR 21 mL_pass 7 [(0, .ref 31), (1, .int a), (2, .ref 212)] [.int (nI (onN r) - nI (onN (passR r w a))), .int 0, .ref 212] h2 (some (.int 0)) (hL h2 212 0 (nI (onN r) - nI (onN (passR r w a))).toInt64) := fun h2 => by
    refine er_s rfl ?_
    refine er_ls rfl rfl (vi (k := 0)) ?_
    refine er_g rfl rfl ?_
    refine er_s rfl ?_
    refine er_q rfl ?_ ?_
    · rfl
    · rfl
  have hr : run 5 21 mL_pass 0 (lv_args 0 [.ref 31, .int a, .ref 212]) [] h = some (4, [(0, .ref 31), (1, .int a), (2, .ref 212)], [.int a, .ref 31, .int 0, .ref 212], h) := rfl
  refine lm_l (i := 33) (na := 1) (n1 := 5) P (by decide) rfl R (Nat.le_of_ble_eq_true rfl) hr (by decide +kernel) rfl ⟨Nat.le_of_ble_eq_true rfl, Nat.le_of_ble_eq_true rfl⟩ ev (fun g C9 => C9) (fun e0 => ?_) (fun e0 => ?_)
  · have e0 := if02 e0
    exact ⟨e0, fun g C9 => by rw [if_pos e0]; exact C9⟩
  · have e0 : passC a ≠ 0 := fun z => e0 (if_pos z)
    rw [if_neg e0]
    refine ⟨?_, fun g C9 => by rw [if_neg e0, show passR r w a = r from if_neg e0, show passW r w a = w from if_neg e0]; exact C9⟩
    rcases co with e1 | e1
    · exact absurd e1 e0
    · rw [e1]; exact ⟨by decide, by decide +kernel⟩
theorem l_blockOf (C : CS h r w S K q T) (R : RS h r w S K q T) (I : IS B r w S K) (hB : B + 97 < 2 ^ 30) (a : Int32) (b : Int32) : LM 3 20 mL_blockOf [.ref 31, .int a, .int b, .ref 212] h (LQ r w S K q T (blockC r a b) ((ofB r a.toNatClampNeg b.toNatClampNeg).toInt64) (fun g => CS g r w S K q T)) := by
  have co : A3 (blockC r a b) := by unfold blockC; repeat' first | exact A3_0 | exact A3_1 | exact A3_2 | refine ite_or (A := A3) ?_ ?_
  have P := p_op_blockOf 1 18 C I.1.1.1 a b
  have ev : ∀ h2, EvR 21 mL_blockOf 8 [(0, .ref 31), (1, .int a), (2, .int b), (3, .ref 212)] [.int (ofB r a.toNatClampNeg b.toNatClampNeg), .int 0, .ref 212] h2 (some (.int 0)) (hL h2 212 0 (ofB r a.toNatClampNeg b.toNatClampNeg).toInt64) := fun h2 => by
    refine er_s rfl ?_
    refine er_ls rfl rfl (vi (k := 0)) ?_
    refine er_g rfl rfl ?_
    refine er_s rfl ?_
    refine er_q rfl ?_ ?_
    · rfl
    · rfl
  have hr : run 6 21 mL_blockOf 0 (lv_args 0 [.ref 31, .int a, .int b, .ref 212]) [] h = some (5, [(0, .ref 31), (1, .int a), (2, .int b), (3, .ref 212)], [.int b, .int a, .ref 31, .int 0, .ref 212], h) := rfl
  refine lm_l (i := 36) (na := 2) (n1 := 6) P (by decide) rfl R (Nat.le_of_ble_eq_true rfl) hr (by decide +kernel) rfl ⟨Nat.le_of_ble_eq_true rfl, Nat.le_of_ble_eq_true rfl⟩ ev (fun g C9 => C9) (fun e0 => ?_) (fun e0 => ?_)
  · exact ⟨e0, fun g C9 => by exact C9⟩
  · refine ⟨?_, fun g C9 => by exact C9⟩
    rcases co with e1 | e1 | e1
    · exact absurd e1 e0
    · rw [e1]; exact ⟨by decide, by decide +kernel⟩
    · rw [e1]; exact ⟨by decide, by decide +kernel⟩
theorem l_load (C : CS h r w S K q T) (R : RS h r w S K q T) (I : IS B r w S K) (hB : B + 97 < 2 ^ 30) (a : Int32) (b : Int32) : LM 3 20 mL_load [.ref 31, .int a, .int b, .ref 212] h (LQ r w S K q T (loadC r a) (((loadV r w a b).toInt32).toInt64) (fun g => CS g r w S K q T)) := by
  have co : A3 (loadC r a) := by unfold loadC; repeat' first | exact A3_0 | exact A3_1 | exact A3_2 | refine ite_or (A := A3) ?_ ?_
  have P := p_op_load 0 15 C I.1 a b
  have ev : ∀ h2, EvR 21 mL_load 8 [(0, .ref 31), (1, .int a), (2, .int b), (3, .ref 212)] [.int ((loadV r w a b).toInt32), .int 0, .ref 212] h2 (some (.int 0)) (hL h2 212 0 ((loadV r w a b).toInt32).toInt64) := fun h2 => by
    refine er_s rfl ?_
    refine er_ls rfl rfl (vi (k := 0)) ?_
    refine er_g rfl rfl ?_
    refine er_s rfl ?_
    refine er_q rfl ?_ ?_
    · rfl
    · rfl
  have hr : run 6 21 mL_load 0 (lv_args 0 [.ref 31, .int a, .int b, .ref 212]) [] h = some (5, [(0, .ref 31), (1, .int a), (2, .int b), (3, .ref 212)], [.int b, .int a, .ref 31, .int 0, .ref 212], h) := rfl
  refine lm_l (i := 45) (na := 2) (n1 := 6) P (by decide) rfl R (Nat.le_of_ble_eq_true rfl) hr (by decide +kernel) rfl ⟨Nat.le_of_ble_eq_true rfl, Nat.le_of_ble_eq_true rfl⟩ ev (fun g C9 => C9) (fun e0 => ?_) (fun e0 => ?_)
  · exact ⟨e0, fun g C9 => by exact C9⟩
  · refine ⟨?_, fun g C9 => by exact C9⟩
    rcases co with e1 | e1 | e1
    · exact absurd e1 e0
    · rw [e1]; exact ⟨by decide, by decide +kernel⟩
    · rw [e1]; exact ⟨by decide, by decide +kernel⟩
theorem l_loadAgain (C : CS h r w S K q T) (R : RS h r w S K q T) (I : IS B r w S K) (hB : B + 97 < 2 ^ 30) (a : Int32) : LM 3 20 mL_loadAgain [.ref 31, .int a, .ref 212] h (LQ r w S K q T (loadC r a) (((loadV r w a 0).toInt32).toInt64) (fun g => CS g r w S K q T)) := by
  have co : A3 (loadC r a) := by unfold loadC; repeat' first | exact A3_0 | exact A3_1 | exact A3_2 | refine ite_or (A := A3) ?_ ?_
  have P := p_op_loadAgain 0 8 C I.1 a
  have ev : ∀ h2, EvR 21 mL_loadAgain 7 [(0, .ref 31), (1, .int a), (2, .ref 212)] [.int ((loadV r w a 0).toInt32), .int 0, .ref 212] h2 (some (.int 0)) (hL h2 212 0 ((loadV r w a 0).toInt32).toInt64) := fun h2 => by
    refine er_s rfl ?_
    refine er_ls rfl rfl (vi (k := 0)) ?_
    refine er_g rfl rfl ?_
    refine er_s rfl ?_
    refine er_q rfl ?_ ?_
    · rfl
    · rfl
  have hr : run 5 21 mL_loadAgain 0 (lv_args 0 [.ref 31, .int a, .ref 212]) [] h = some (4, [(0, .ref 31), (1, .int a), (2, .ref 212)], [.int a, .ref 31, .int 0, .ref 212], h) := rfl
  refine lm_l (i := 49) (na := 1) (n1 := 5) P (by decide) rfl R (Nat.le_of_ble_eq_true rfl) hr (by decide +kernel) rfl ⟨Nat.le_of_ble_eq_true rfl, Nat.le_of_ble_eq_true rfl⟩ ev (fun g C9 => C9) (fun e0 => ?_) (fun e0 => ?_)
  · exact ⟨e0, fun g C9 => by exact C9⟩
  · refine ⟨?_, fun g C9 => by exact C9⟩
    rcases co with e1 | e1 | e1
    · exact absurd e1 e0
    · rw [e1]; exact ⟨by decide, by decide +kernel⟩
    · rw [e1]; exact ⟨by decide, by decide +kernel⟩
theorem l_at (C : CS h r w S K q T) (R : RS h r w S K q T) (I : IS B r w S K) (hB : B + 97 < 2 ^ 30) (a : Int32) (b : Int32) : LM 3 20 mL_at [.ref 31, .int a, .int b, .ref 212] h (LQ r w S K q T (atC a b) ((gAt r b.toNatClampNeg a.toNatClampNeg).toInt64) (fun g => CS g r w S K q T)) := by
  have co : A2 (atC a b) := by unfold atC; repeat' first | exact A2_0 | exact A2_1 | refine ite_or (A := A2) ?_ ?_
  have P := p_op_at 2 19 C a b
  have ev : ∀ h2, EvR 21 mL_at 8 [(0, .ref 31), (1, .int a), (2, .int b), (3, .ref 212)] [.int (gAt r b.toNatClampNeg a.toNatClampNeg), .int 0, .ref 212] h2 (some (.int 0)) (hL h2 212 0 (gAt r b.toNatClampNeg a.toNatClampNeg).toInt64) := fun h2 => by
    refine er_s rfl ?_
    refine er_ls rfl rfl (vi (k := 0)) ?_
    refine er_g rfl rfl ?_
    refine er_s rfl ?_
    refine er_q rfl ?_ ?_
    · rfl
    · rfl
  have hr : run 6 21 mL_at 0 (lv_args 0 [.ref 31, .int a, .int b, .ref 212]) [] h = some (5, [(0, .ref 31), (1, .int a), (2, .int b), (3, .ref 212)], [.int b, .int a, .ref 31, .int 0, .ref 212], h) := rfl
  refine lm_l (i := 52) (na := 2) (n1 := 6) P (by decide) rfl R (Nat.le_of_ble_eq_true rfl) hr (by decide +kernel) rfl ⟨Nat.le_of_ble_eq_true rfl, Nat.le_of_ble_eq_true rfl⟩ ev (fun g C9 => C9) (fun e0 => ?_) (fun e0 => ?_)
  · exact ⟨e0, fun g C9 => by exact C9⟩
  · refine ⟨?_, fun g C9 => by exact C9⟩
    rcases co with e1 | e1
    · exact absurd e1 e0
    · rw [e1]; exact ⟨by decide, by decide +kernel⟩
theorem l_height (C : CS h r w S K q T) (R : RS h r w S K q T) (I : IS B r w S K) (hB : B + 97 < 2 ^ 30) (a : Int32) : LM 3 20 mL_height [.ref 31, .int a, .ref 212] h (LQ r w S K q T (heightC a) ((nI (hgtN r a.toNatClampNeg 8)).toInt64) (fun g => CS g r w S K q T)) := by
  have co : A2 (heightC a) := by unfold heightC; repeat' first | exact A2_0 | exact A2_1 | refine ite_or (A := A2) ?_ ?_
  have P := p_op_height 2 18 C a
  have ev : ∀ h2, EvR 21 mL_height 7 [(0, .ref 31), (1, .int a), (2, .ref 212)] [.int (nI (hgtN r a.toNatClampNeg 8)), .int 0, .ref 212] h2 (some (.int 0)) (hL h2 212 0 (nI (hgtN r a.toNatClampNeg 8)).toInt64) := fun h2 => by
    refine er_s rfl ?_
    refine er_ls rfl rfl (vi (k := 0)) ?_
    refine er_g rfl rfl ?_
    refine er_s rfl ?_
    refine er_q rfl ?_ ?_
    · rfl
    · rfl
  have hr : run 5 21 mL_height 0 (lv_args 0 [.ref 31, .int a, .ref 212]) [] h = some (4, [(0, .ref 31), (1, .int a), (2, .ref 212)], [.int a, .ref 31, .int 0, .ref 212], h) := rfl
  refine lm_l (i := 55) (na := 1) (n1 := 5) P (by decide) rfl R (Nat.le_of_ble_eq_true rfl) hr (by decide +kernel) rfl ⟨Nat.le_of_ble_eq_true rfl, Nat.le_of_ble_eq_true rfl⟩ ev (fun g C9 => C9) (fun e0 => ?_) (fun e0 => ?_)
  · exact ⟨e0, fun g C9 => by exact C9⟩
  · refine ⟨?_, fun g C9 => by exact C9⟩
    rcases co with e1 | e1
    · exact absurd e1 e0
    · rw [e1]; exact ⟨by decide, by decide +kernel⟩
theorem l_sign (C : CS h r w S K q T) (R : RS h r w S K q T) (I : IS B r w S K) (hB : B + 97 < 2 ^ 30) (a : Int32) : LM 3 20 mL_sign [.ref 31, .int a, .ref 212] h (LQ r w S K q T (sawnC r a) ((sgN r a.toNatClampNeg).toInt64) (fun g => CS g r w S K q T)) := by
  have co : A2 (sawnC r a) := by unfold sawnC; repeat' first | exact A2_0 | exact A2_1 | refine ite_or (A := A2) ?_ ?_
  have P := p_op_sign 1 18 C I.1 a
  have ev : ∀ h2, EvR 21 mL_sign 7 [(0, .ref 31), (1, .int a), (2, .ref 212)] [.int (sgN r a.toNatClampNeg), .int 0, .ref 212] h2 (some (.int 0)) (hL h2 212 0 (sgN r a.toNatClampNeg).toInt64) := fun h2 => by
    refine er_s rfl ?_
    refine er_ls rfl rfl (vi (k := 0)) ?_
    refine er_g rfl rfl ?_
    refine er_s rfl ?_
    refine er_q rfl ?_ ?_
    · rfl
    · rfl
  have hr : run 5 21 mL_sign 0 (lv_args 0 [.ref 31, .int a, .ref 212]) [] h = some (4, [(0, .ref 31), (1, .int a), (2, .ref 212)], [.int a, .ref 31, .int 0, .ref 212], h) := rfl
  refine lm_l (i := 62) (na := 1) (n1 := 5) P (by decide) rfl R (Nat.le_of_ble_eq_true rfl) hr (by decide +kernel) rfl ⟨Nat.le_of_ble_eq_true rfl, Nat.le_of_ble_eq_true rfl⟩ ev (fun g C9 => C9) (fun e0 => ?_) (fun e0 => ?_)
  · exact ⟨e0, fun g C9 => by exact C9⟩
  · refine ⟨?_, fun g C9 => by exact C9⟩
    rcases co with e1 | e1
    · exact absurd e1 e0
    · rw [e1]; exact ⟨by decide, by decide +kernel⟩
theorem l_rooms (C : CS h r w S K q T) (R : RS h r w S K q T) (I : IS B r w S K) (hB : B + 97 < 2 ^ 30) (a : Int32) (b : Int32) : LM 3 20 mL_rooms [.ref 31, .int a, .int b, .ref 212] h (LQ r w S K q T (roomsC a b) ((roomsA r a.toNatClampNeg b).toInt64) (fun g => CS g r w S K q T)) := by
  have co : A3 (roomsC a b) := by unfold roomsC; repeat' first | exact A3_0 | exact A3_1 | exact A3_2 | refine ite_or (A := A3) ?_ ?_
  have P := p_op_rooms 2 18 C a b
  have ev : ∀ h2, EvR 21 mL_rooms 8 [(0, .ref 31), (1, .int a), (2, .int b), (3, .ref 212)] [.int (roomsA r a.toNatClampNeg b), .int 0, .ref 212] h2 (some (.int 0)) (hL h2 212 0 (roomsA r a.toNatClampNeg b).toInt64) := fun h2 => by
    refine er_s rfl ?_
    refine er_ls rfl rfl (vi (k := 0)) ?_
    refine er_g rfl rfl ?_
    refine er_s rfl ?_
    refine er_q rfl ?_ ?_
    · rfl
    · rfl
  have hr : run 6 21 mL_rooms 0 (lv_args 0 [.ref 31, .int a, .int b, .ref 212]) [] h = some (5, [(0, .ref 31), (1, .int a), (2, .int b), (3, .ref 212)], [.int b, .int a, .ref 31, .int 0, .ref 212], h) := rfl
  refine lm_l (i := 66) (na := 2) (n1 := 6) P (by decide) rfl R (Nat.le_of_ble_eq_true rfl) hr (by decide +kernel) rfl ⟨Nat.le_of_ble_eq_true rfl, Nat.le_of_ble_eq_true rfl⟩ ev (fun g C9 => C9) (fun e0 => ?_) (fun e0 => ?_)
  · exact ⟨e0, fun g C9 => by exact C9⟩
  · refine ⟨?_, fun g C9 => by exact C9⟩
    rcases co with e1 | e1 | e1
    · exact absurd e1 e0
    · rw [e1]; exact ⟨by decide, by decide +kernel⟩
    · rw [e1]; exact ⟨by decide, by decide +kernel⟩
theorem l_inRack (C : CS h r w S K q T) (R : RS h r w S K q T) (I : IS B r w S K) (hB : B + 97 < 2 ^ 30) (a : Int32) (b : Int32) : LM 3 20 mL_inRack [.ref 31, .int a, .int b, .ref 212] h (LQ r w S K q T (inRackC a b) ((orM (blkIn r a b) (CN r)).toInt64) (fun g => CS g r w S K q T)) := by
  have co : A2 (inRackC a b) := by unfold inRackC; repeat' first | exact A2_0 | exact A2_1 | refine ite_or (A := A2) ?_ ?_
  have P := p_op_inRack 2 18 C a b
  have ev : ∀ h2, EvR 21 mL_inRack 8 [(0, .ref 31), (1, .int a), (2, .int b), (3, .ref 212)] [.int (orM (blkIn r a b) (CN r)), .int 0, .ref 212] h2 (some (.int 0)) (hL h2 212 0 (orM (blkIn r a b) (CN r)).toInt64) := fun h2 => by
    refine er_s rfl ?_
    refine er_ls rfl rfl (vi (k := 0)) ?_
    refine er_g rfl rfl ?_
    refine er_s rfl ?_
    refine er_q rfl ?_ ?_
    · rfl
    · rfl
  have hr : run 6 21 mL_inRack 0 (lv_args 0 [.ref 31, .int a, .int b, .ref 212]) [] h = some (5, [(0, .ref 31), (1, .int a), (2, .int b), (3, .ref 212)], [.int b, .int a, .ref 31, .int 0, .ref 212], h) := rfl
  refine lm_l (i := 69) (na := 2) (n1 := 6) P (by decide) rfl R (Nat.le_of_ble_eq_true rfl) hr (by decide +kernel) rfl ⟨Nat.le_of_ble_eq_true rfl, Nat.le_of_ble_eq_true rfl⟩ ev (fun g C9 => C9) (fun e0 => ?_) (fun e0 => ?_)
  · exact ⟨e0, fun g C9 => by exact C9⟩
  · refine ⟨?_, fun g C9 => by exact C9⟩
    rcases co with e1 | e1
    · exact absurd e1 e0
    · rw [e1]; exact ⟨by decide, by decide +kernel⟩
theorem l_worst (C : CS h r w S K q T) (R : RS h r w S K q T) (I : IS B r w S K) (hB : B + 97 < 2 ^ 30) : LM 3 20 mL_worst [.ref 31, .ref 212] h (LQ r w S K q T (worstC r) ((oI (wstN r w (CN r))).toInt64) (fun g => CS g r w S K q T)) := by
  have co : A2 (worstC r) := by unfold worstC; repeat' first | exact A2_0 | exact A2_1 | refine ite_or (A := A2) ?_ ?_
  have P := p_op_worst 2 16 C I.1
  have ev : ∀ h2, EvR 21 mL_worst 6 [(0, .ref 31), (1, .ref 212)] [.int (oI (wstN r w (CN r))), .int 0, .ref 212] h2 (some (.int 0)) (hL h2 212 0 (oI (wstN r w (CN r))).toInt64) := fun h2 => by
    refine er_s rfl ?_
    refine er_ls rfl rfl (vi (k := 0)) ?_
    refine er_g rfl rfl ?_
    refine er_s rfl ?_
    refine er_q rfl ?_ ?_
    · rfl
    · rfl
  have hr : run 4 21 mL_worst 0 (lv_args 0 [.ref 31, .ref 212]) [] h = some (3, [(0, .ref 31), (1, .ref 212)], [.ref 31, .int 0, .ref 212], h) := rfl
  refine lm_l (i := 72) (na := 0) (n1 := 4) P (by decide) rfl R (Nat.le_of_ble_eq_true rfl) hr (by decide +kernel) rfl ⟨Nat.le_of_ble_eq_true rfl, Nat.le_of_ble_eq_true rfl⟩ ev (fun g C9 => C9) (fun e0 => ?_) (fun e0 => ?_)
  · exact ⟨e0, fun g C9 => by exact C9⟩
  · refine ⟨?_, fun g C9 => by exact C9⟩
    rcases co with e1 | e1
    · exact absurd e1 e0
    · rw [e1]; exact ⟨by decide, by decide +kernel⟩
theorem l_goneIn (C : CS h r w S K q T) (R : RS h r w S K q T) (I : IS B r w S K) (hB : B + 97 < 2 ^ 30) : LM 3 20 mL_goneIn [.ref 31, .ref 212] h (LQ r w S K q T (gnC r w) ((nI (gnK r w)).toInt64) (fun g => CS g r w S K q T)) := by
  have co : A2 (gnC r w) := by unfold gnC; repeat' first | exact A2_0 | exact A2_1 | refine ite_or (A := A2) ?_ ?_
  have P := p_op_goneIn 2 13 C I.1 (by omega)
  have ev : ∀ h2, EvR 21 mL_goneIn 6 [(0, .ref 31), (1, .ref 212)] [.int (nI (gnK r w)), .int 0, .ref 212] h2 (some (.int 0)) (hL h2 212 0 (nI (gnK r w)).toInt64) := fun h2 => by
    refine er_s rfl ?_
    refine er_ls rfl rfl (vi (k := 0)) ?_
    refine er_g rfl rfl ?_
    refine er_s rfl ?_
    refine er_q rfl ?_ ?_
    · rfl
    · rfl
  have hr : run 4 21 mL_goneIn 0 (lv_args 0 [.ref 31, .ref 212]) [] h = some (3, [(0, .ref 31), (1, .ref 212)], [.ref 31, .int 0, .ref 212], h) := rfl
  refine lm_l (i := 76) (na := 0) (n1 := 4) P (by decide) rfl R (Nat.le_of_ble_eq_true rfl) hr (by decide +kernel) rfl ⟨Nat.le_of_ble_eq_true rfl, Nat.le_of_ble_eq_true rfl⟩ ev (fun g C9 => C9) (fun e0 => ?_) (fun e0 => ?_)
  · exact ⟨e0, fun g C9 => by exact C9⟩
  · refine ⟨?_, fun g C9 => by exact C9⟩
    rcases co with e1 | e1
    · exact absurd e1 e0
    · rw [e1]; exact ⟨by decide, by decide +kernel⟩
theorem l_massBits (C : CS h r w S K q T) (R : RS h r w S K q T) (I : IS B r w S K) (hB : B + 97 < 2 ^ 30) (a : Int32) (b : Int32) : LM 3 20 mL_massBits [.ref 31, .int a, .int b, .ref 212] h (LQ r w S K q T (mbC r a b) ((mbA r w a.toNatClampNeg b.toNatClampNeg).toInt64) (fun g => CS g r w S K q T)) := by
  have hB : B + 48 < 2 ^ 30 := by omega
  have co : A3 (mbC r a b) := by unfold mbC; repeat' first | exact A3_0 | exact A3_1 | exact A3_2 | refine ite_or (A := A3) ?_ ?_
  have P := p_op_massBits 0 13 C I.1 hB a b
  have ev : ∀ h2, EvR 21 mL_massBits 8 [(0, .ref 31), (1, .int a), (2, .int b), (3, .ref 212)] [.int (mbA r w a.toNatClampNeg b.toNatClampNeg), .int 0, .ref 212] h2 (some (.int 0)) (hL h2 212 0 (mbA r w a.toNatClampNeg b.toNatClampNeg).toInt64) := fun h2 => by
    refine er_s rfl ?_
    refine er_ls rfl rfl (vi (k := 0)) ?_
    refine er_g rfl rfl ?_
    refine er_s rfl ?_
    refine er_q rfl ?_ ?_
    · rfl
    · rfl
  have hr : run 6 21 mL_massBits 0 (lv_args 0 [.ref 31, .int a, .int b, .ref 212]) [] h = some (5, [(0, .ref 31), (1, .int a), (2, .int b), (3, .ref 212)], [.int b, .int a, .ref 31, .int 0, .ref 212], h) := rfl
  refine lm_l (i := 79) (na := 2) (n1 := 6) P (by decide) rfl R (Nat.le_of_ble_eq_true rfl) hr (by decide +kernel) rfl ⟨Nat.le_of_ble_eq_true rfl, Nat.le_of_ble_eq_true rfl⟩ ev (fun g C9 => C9) (fun e0 => ?_) (fun e0 => ?_)
  · exact ⟨e0, fun g C9 => by exact C9⟩
  · refine ⟨?_, fun g C9 => by exact C9⟩
    rcases co with e1 | e1 | e1
    · exact absurd e1 e0
    · rw [e1]; exact ⟨by decide, by decide +kernel⟩
    · rw [e1]; exact ⟨by decide, by decide +kernel⟩
theorem l_safe (C : CS h r w S K q T) (R : RS h r w S K q T) (I : IS B r w S K) (hB : B + 97 < 2 ^ 30) : LM 3 20 mL_safe [.ref 31, .ref 212] h (LQ r w S K q T (sfC r w) ((sfA r w).toInt64) (fun g => CS g r w S K q T)) := by
  have hB : B + 48 < 2 ^ 30 := by omega
  have co : A2 (sfC r w) := by unfold sfC; repeat' first | exact A2_0 | exact A2_1 | refine ite_or (A := A2) ?_ ?_
  have P := p_op_safe 2 13 C I.1 hB
  have ev : ∀ h2, EvR 21 mL_safe 6 [(0, .ref 31), (1, .ref 212)] [.int (sfA r w), .int 0, .ref 212] h2 (some (.int 0)) (hL h2 212 0 (sfA r w).toInt64) := fun h2 => by
    refine er_s rfl ?_
    refine er_ls rfl rfl (vi (k := 0)) ?_
    refine er_g rfl rfl ?_
    refine er_s rfl ?_
    refine er_q rfl ?_ ?_
    · rfl
    · rfl
  have hr : run 4 21 mL_safe 0 (lv_args 0 [.ref 31, .ref 212]) [] h = some (3, [(0, .ref 31), (1, .ref 212)], [.ref 31, .int 0, .ref 212], h) := rfl
  refine lm_l (i := 82) (na := 0) (n1 := 4) P (by decide) rfl R (Nat.le_of_ble_eq_true rfl) hr (by decide +kernel) rfl ⟨Nat.le_of_ble_eq_true rfl, Nat.le_of_ble_eq_true rfl⟩ ev (fun g C9 => C9) (fun e0 => ?_) (fun e0 => ?_)
  · exact ⟨e0, fun g C9 => by exact C9⟩
  · refine ⟨?_, fun g C9 => by exact C9⟩
    rcases co with e1 | e1
    · exact absurd e1 e0
    · rw [e1]; exact ⟨by decide, by decide +kernel⟩
theorem l_left (C : CS h r w S K q T) (R : RS h r w S K q T) (I : IS B r w S K) (hB : B + 97 < 2 ^ 30) (a : Int32) : LM 3 20 mL_left [.ref 31, .int a, .ref 212] h (LQ r w S K q T (leftC a) ((nI (onN (hoursR a.toNatClampNeg r w))).toInt64) (fun g => CS g r w S K q T)) := by
  have hB : B + 48 < 2 ^ 30 := by omega
  have co : A2 (leftC a) := by unfold leftC; repeat' first | exact A2_0 | exact A2_1 | refine ite_or (A := A2) ?_ ?_
  have P := p_op_left 1 13 C I.1 hB a
  have ev : ∀ h2, EvR 21 mL_left 7 [(0, .ref 31), (1, .int a), (2, .ref 212)] [.int (nI (onN (hoursR a.toNatClampNeg r w))), .int 0, .ref 212] h2 (some (.int 0)) (hL h2 212 0 (nI (onN (hoursR a.toNatClampNeg r w))).toInt64) := fun h2 => by
    refine er_s rfl ?_
    refine er_ls rfl rfl (vi (k := 0)) ?_
    refine er_g rfl rfl ?_
    refine er_s rfl ?_
    refine er_q rfl ?_ ?_
    · rfl
    · rfl
  have hr : run 5 21 mL_left 0 (lv_args 0 [.ref 31, .int a, .ref 212]) [] h = some (4, [(0, .ref 31), (1, .int a), (2, .ref 212)], [.int a, .ref 31, .int 0, .ref 212], h) := rfl
  refine lm_l (i := 85) (na := 1) (n1 := 5) P (by decide) rfl R (Nat.le_of_ble_eq_true rfl) hr (by decide +kernel) rfl ⟨Nat.le_of_ble_eq_true rfl, Nat.le_of_ble_eq_true rfl⟩ ev (fun g C9 => C9) (fun e0 => ?_) (fun e0 => ?_)
  · exact ⟨e0, fun g C9 => by exact C9⟩
  · refine ⟨?_, fun g C9 => by exact C9⟩
    rcases co with e1 | e1
    · exact absurd e1 e0
    · rw [e1]; exact ⟨by decide, by decide +kernel⟩
theorem l_append (C : CS h r w S K q T) (R : RS h r w S K q T) (I : IS B r w S K) (hB : B + 97 < 2 ^ 30) (a : Int32) (hx : kOk 2 a = true) : LM 3 20 mL_append [.ref 31, .int a, .ref 212] h (LQ r w S K q T (appC T) ((nI (T.1 + 1)).toInt64) (fun g => CS g r w S K q (if appC T = 0 then (T.1 + 1, T.2.1, upd T.2.2 T.1 a) else T))) := by
  have co : A2 (appC T) := by unfold appC; repeat' first | exact A2_0 | exact A2_1 | refine ite_or (A := A2) ?_ ?_
  have P := p_op_append 2 19 C hx
  have ev : ∀ h2, EvR 21 mL_append 7 [(0, .ref 31), (1, .int a), (2, .ref 212)] [.int (nI (T.1 + 1)), .int 0, .ref 212] h2 (some (.int 0)) (hL h2 212 0 (nI (T.1 + 1)).toInt64) := fun h2 => by
    refine er_s rfl ?_
    refine er_ls rfl rfl (vi (k := 0)) ?_
    refine er_g rfl rfl ?_
    refine er_s rfl ?_
    refine er_q rfl ?_ ?_
    · rfl
    · rfl
  have hr : run 5 21 mL_append 0 (lv_args 0 [.ref 31, .int a, .ref 212]) [] h = some (4, [(0, .ref 31), (1, .int a), (2, .ref 212)], [.int a, .ref 31, .int 0, .ref 212], h) := rfl
  refine lm_l (i := 88) (na := 1) (n1 := 5) P (by decide) rfl R (Nat.le_of_ble_eq_true rfl) hr (by decide +kernel) rfl ⟨Nat.le_of_ble_eq_true rfl, Nat.le_of_ble_eq_true rfl⟩ ev (fun g C9 => C9) (fun e0 => ?_) (fun e0 => ?_)
  · exact ⟨e0, fun g C9 => by rw [if_pos e0]; exact C9⟩
  · refine ⟨?_, fun g C9 => by rw [if_neg e0]; exact C9⟩
    rcases co with e1 | e1
    · exact absurd e1 e0
    · rw [e1]; exact ⟨by decide, by decide +kernel⟩
theorem l_refusal (C : CS h r w S K q T) (R : RS h r w S K q T) (I : IS B r w S K) (hB : B + 97 < 2 ^ 30) (a : Int32) : LM 3 20 mL_refusal [.ref 31, .int a, .ref 212] h (LQ r w S K q T (rfuC q) (((if a = 0 then q.1 else q.2)).toInt64) (fun g => CS g r w S K q T)) := by
  have co : A2 (rfuC q) := by unfold rfuC; repeat' first | exact A2_0 | exact A2_1 | refine ite_or (A := A2) ?_ ?_
  have P := p_op_refusal 2 20 C a
  have ev : ∀ h2, EvR 21 mL_refusal 7 [(0, .ref 31), (1, .int a), (2, .ref 212)] [.int ((if a = 0 then q.1 else q.2)), .int 0, .ref 212] h2 (some (.int 0)) (hL h2 212 0 ((if a = 0 then q.1 else q.2)).toInt64) := fun h2 => by
    refine er_s rfl ?_
    refine er_ls rfl rfl (vi (k := 0)) ?_
    refine er_g rfl rfl ?_
    refine er_s rfl ?_
    refine er_q rfl ?_ ?_
    · rfl
    · rfl
  have hr : run 5 21 mL_refusal 0 (lv_args 0 [.ref 31, .int a, .ref 212]) [] h = some (4, [(0, .ref 31), (1, .int a), (2, .ref 212)], [.int a, .ref 31, .int 0, .ref 212], h) := rfl
  refine lm_l (i := 97) (na := 1) (n1 := 5) P (by decide) rfl R (Nat.le_of_ble_eq_true rfl) hr (by decide +kernel) rfl ⟨Nat.le_of_ble_eq_true rfl, Nat.le_of_ble_eq_true rfl⟩ ev (fun g C9 => C9) (fun e0 => ?_) (fun e0 => ?_)
  · exact ⟨e0, fun g C9 => by exact C9⟩
  · refine ⟨?_, fun g C9 => by exact C9⟩
    rcases co with e1 | e1
    · exact absurd e1 e0
    · rw [e1]; exact ⟨by decide, by decide +kernel⟩
theorem l_account (C : CS h r w S K q T) (R : RS h r w S K q T) (I : IS B r w S K) (hB : B + 97 < 2 ^ 30) (a : Int32) : LM 3 20 mL_account [.ref 31, .int a, .ref 212] h (LQ r w S K q T (acctC a) ((acctV r (nI T.1) (nI K.1) a.toNatClampNeg).toInt64) (fun g => CS g r w S K q T)) := by
  have co : A2 (acctC a) := by unfold acctC; repeat' first | exact A2_0 | exact A2_1 | refine ite_or (A := A2) ?_ ?_
  have P := p_op_account 2 17 C I.1 a
  have ev : ∀ h2, EvR 21 mL_account 7 [(0, .ref 31), (1, .int a), (2, .ref 212)] [.int (acctV r (nI T.1) (nI K.1) a.toNatClampNeg), .int 0, .ref 212] h2 (some (.int 0)) (hL h2 212 0 (acctV r (nI T.1) (nI K.1) a.toNatClampNeg).toInt64) := fun h2 => by
    refine er_s rfl ?_
    refine er_ls rfl rfl (vi (k := 0)) ?_
    refine er_g rfl rfl ?_
    refine er_s rfl ?_
    refine er_q rfl ?_ ?_
    · rfl
    · rfl
  have hr : run 5 21 mL_account 0 (lv_args 0 [.ref 31, .int a, .ref 212]) [] h = some (4, [(0, .ref 31), (1, .int a), (2, .ref 212)], [.int a, .ref 31, .int 0, .ref 212], h) := rfl
  refine lm_l (i := 101) (na := 1) (n1 := 5) P (by decide) rfl R (Nat.le_of_ble_eq_true rfl) hr (by decide +kernel) rfl ⟨Nat.le_of_ble_eq_true rfl, Nat.le_of_ble_eq_true rfl⟩ ev (fun g C9 => C9) (fun e0 => ?_) (fun e0 => ?_)
  · exact ⟨e0, fun g C9 => by exact C9⟩
  · refine ⟨?_, fun g C9 => by exact C9⟩
    rcases co with e1 | e1
    · exact absurd e1 e0
    · rw [e1]; exact ⟨by decide, by decide +kernel⟩
theorem l_undo (C : CS h r w S K q T) (R : RS h r w S K q T) (I : IS B r w S K) (hB : B + 97 < 2 ^ 30) : LM 3 20 mL_undo [.ref 31, .ref 212] h (LQ r w S K q T (undoC K) ((nI (K.1 - 1)).toInt64) (fun g => CS g (if undoC K = 0 then K.2.1 (K.1 - 1) else r) (if undoC K = 0 then K.2.2 (K.1 - 1) else w) S (if undoC K = 0 then (K.1 - 1, K.2) else K) q T)) := by
  have co : A2 (undoC K) := by unfold undoC; repeat' first | exact A2_0 | exact A2_1 | refine ite_or (A := A2) ?_ ?_
  have P := p_op_undo 2 17 C I
  have ev : ∀ h2, EvR 21 mL_undo 6 [(0, .ref 31), (1, .ref 212)] [.int (nI (K.1 - 1)), .int 0, .ref 212] h2 (some (.int 0)) (hL h2 212 0 (nI (K.1 - 1)).toInt64) := fun h2 => by
    refine er_s rfl ?_
    refine er_ls rfl rfl (vi (k := 0)) ?_
    refine er_g rfl rfl ?_
    refine er_s rfl ?_
    refine er_q rfl ?_ ?_
    · rfl
    · rfl
  have hr : run 4 21 mL_undo 0 (lv_args 0 [.ref 31, .ref 212]) [] h = some (3, [(0, .ref 31), (1, .ref 212)], [.ref 31, .int 0, .ref 212], h) := rfl
  refine lm_l (i := 110) (na := 0) (n1 := 4) P (by decide) rfl R (Nat.le_of_ble_eq_true rfl) hr (by decide +kernel) rfl ⟨Nat.le_of_ble_eq_true rfl, Nat.le_of_ble_eq_true rfl⟩ ev (fun g C9 => C9) (fun e0 => ?_) (fun e0 => ?_)
  · exact ⟨e0, fun g C9 => by rw [if_pos e0, if_pos e0, if_pos e0]; exact C9⟩
  · refine ⟨?_, fun g C9 => by rw [if_neg e0, if_neg e0, if_neg e0]; exact C9⟩
    rcases co with e1 | e1
    · exact absurd e1 e0
    · rw [e1]; exact ⟨by decide, by decide +kernel⟩
theorem l_restore (C : CS h r w S K q T) (R : RS h r w S K q T) (I : IS B r w S K) (hB : B + 97 < 2 ^ 30) : LM 3 20 mL_restore [.ref 31, .ref 212] h (LQ r w S K q T (restC S) ((S.2.1 4).toInt64) (fun g => CS g (if restC S = 0 then S.2.1 else r) (if restC S = 0 then S.2.2 else w) S (if restC S = 0 then (0, K.2) else K) q T)) := by
  have co : A2 (restC S) := by unfold restC; repeat' first | exact A2_0 | exact A2_1 | refine ite_or (A := A2) ?_ ?_
  have P := p_op_restore 2 18 C I
  have ev : ∀ h2, EvR 21 mL_restore 6 [(0, .ref 31), (1, .ref 212)] [.int (S.2.1 4), .int 0, .ref 212] h2 (some (.int 0)) (hL h2 212 0 (S.2.1 4).toInt64) := fun h2 => by
    refine er_s rfl ?_
    refine er_ls rfl rfl (vi (k := 0)) ?_
    refine er_g rfl rfl ?_
    refine er_s rfl ?_
    refine er_q rfl ?_ ?_
    · rfl
    · rfl
  have hr : run 4 21 mL_restore 0 (lv_args 0 [.ref 31, .ref 212]) [] h = some (3, [(0, .ref 31), (1, .ref 212)], [.ref 31, .int 0, .ref 212], h) := rfl
  refine lm_l (i := 113) (na := 0) (n1 := 4) P (by decide) rfl R (Nat.le_of_ble_eq_true rfl) hr (by decide +kernel) rfl ⟨Nat.le_of_ble_eq_true rfl, Nat.le_of_ble_eq_true rfl⟩ ev (fun g C9 => C9) (fun e0 => ?_) (fun e0 => ?_)
  · exact ⟨e0, fun g C9 => by rw [if_pos e0, if_pos e0, if_pos e0]; exact C9⟩
  · refine ⟨?_, fun g C9 => by rw [if_neg e0, if_neg e0, if_neg e0]; exact C9⟩
    rcases co with e1 | e1
    · exact absurd e1 e0
    · rw [e1]; exact ⟨by decide, by decide +kernel⟩
theorem l_read (C : CS h r w S K q T) (R : RS h r w S K q T) (I : IS B r w S K) (hB : B + 3000 < 2 ^ 30) : LM 3 20 mL_read [.ref 31, .ref 212] h (LQ r w S K q T (rdK r w q T) ((nI (oN0 T.2.2 T.1 + 1)).toInt64) (fun g => CS g (if rdK r w q T = 0 then (rdC T.2.2 T.1 r w q).2.1 else r) (if rdK r w q T = 0 then (rdC T.2.2 T.1 r w q).2.2.1 else w) S (if rdK r w q T = 0 then pushK K r w else K) (if rdWr T.2.2 T.1 = true then q else (rdC T.2.2 T.1 r w q).2.2.2) (0, rdE T, T.2.2))) := by
  have co : A3 (rdK r w q T) := rdK_or
  have P := p_op_read 2 13 C I.1 hB
  have ev : ∀ h2, EvR 21 mL_read 6 [(0, .ref 31), (1, .ref 212)] [.int (nI (oN0 T.2.2 T.1 + 1)), .int 0, .ref 212] h2 (some (.int 0)) (hL h2 212 0 (nI (oN0 T.2.2 T.1 + 1)).toInt64) := fun h2 => by
    refine er_s rfl ?_
    refine er_ls rfl rfl (vi (k := 0)) ?_
    refine er_g rfl rfl ?_
    refine er_s rfl ?_
    refine er_q rfl ?_ ?_
    · rfl
    · rfl
  have hr : run 4 21 mL_read 0 (lv_args 0 [.ref 31, .ref 212]) [] h = some (3, [(0, .ref 31), (1, .ref 212)], [.ref 31, .int 0, .ref 212], h) := rfl
  refine lm_l (i := 94) (na := 0) (n1 := 4) P (by decide) rfl R (Nat.le_of_ble_eq_true rfl) hr (by decide +kernel) rfl ⟨Nat.le_of_ble_eq_true rfl, Nat.le_of_ble_eq_true rfl⟩ ev (fun g C9 => C9) (fun e0 => ?_) (fun e0 => ?_)
  · exact ⟨e0, fun g C9 => by rw [if_pos e0, if_pos e0, if_pos e0, if_neg (rdK_n e0)]; exact C9⟩
  · refine ⟨?_, fun g C9 => by rw [if_neg e0, if_neg e0, if_neg e0]; exact C9⟩
    rcases co with e1 | e1 | e1
    · exact absurd e1 e0
    · rw [e1]; exact ⟨by decide, by decide +kernel⟩
    · rw [e1]; exact ⟨by decide, by decide +kernel⟩
theorem l_meanBits (C : CS h r w S K q T) (R : RS h r w S K q T) (I : IS B r w S K) (hB : B + 97 < 2 ^ 30) : LM 3 20 mL_meanBits [.ref 31, .ref 212] h (LQ r w S K q T (meanC r) ((meanD r w).toInt64) (fun g => CS g r w S K q T)) := by
  have co : A2 (meanC r) := by unfold meanC; repeat' first | exact A2_0 | exact A2_1 | refine ite_or (A := A2) ?_ ?_
  have P := p_op_meanBits 2 18 C I.1
  have ev : ∀ h2, EvR 21 mL_meanBits 6 [(0, .ref 31), (1, .ref 212)] [.long (meanD r w).toInt64, .int 0, .ref 212] h2 (some (.int 0)) (hL h2 212 0 (meanD r w).toInt64) := fun h2 => by
    refine er_ls rfl rfl (vi (k := 0)) ?_
    refine er_g rfl rfl ?_
    refine er_s rfl ?_
    refine er_q rfl ?_ ?_
    · rfl
    · rfl
  have hr : run 4 21 mL_meanBits 0 (lv_args 0 [.ref 31, .ref 212]) [] h = some (3, [(0, .ref 31), (1, .ref 212)], [.ref 31, .int 0, .ref 212], h) := rfl
  refine lm_l (i := 104) (na := 0) (n1 := 4) P (by decide) rfl R (Nat.le_of_ble_eq_true rfl) hr (by decide +kernel) rfl ⟨Nat.le_of_ble_eq_true rfl, Nat.le_of_ble_eq_true rfl⟩ ev (fun g C9 => C9) (fun e0 => ?_) (fun e0 => ?_)
  · exact ⟨e0, fun g C9 => by exact C9⟩
  · refine ⟨?_, fun g C9 => by exact C9⟩
    rcases co with e1 | e1
    · exact absurd e1 e0
    · rw [e1]; exact ⟨by decide, by decide +kernel⟩
theorem l_isShady (C : CS h r w S K q T) (R : RS h r w S K q T) (I : IS B r w S K) (hB : B + 97 < 2 ^ 30) (a : Int32) (b : Int32) : LM 3 20 mL_isShady [.ref 31, .int a, .int b, .ref 212] h (LQ r w S K q T (shadyC r a b) ((bI (shadR r a.toNatClampNeg b = true)).toInt64) (fun g => CS g r w S K q T)) := by
  have co : A3 (shadyC r a b) := by unfold shadyC; repeat' first | exact A3_0 | exact A3_1 | exact A3_2 | refine ite_or (A := A3) ?_ ?_
  have P := p_op_isShady 0 17 C I.1.1.1 a b
  have ev : ∀ h2, EvR 21 mL_isShady 8 [(0, .ref 31), (1, .int a), (2, .int b), (3, .ref 212)] [.int (bI (shadR r a.toNatClampNeg b = true)), .int 0, .ref 212] h2 (some (.int 0)) (hL h2 212 0 (bI (shadR r a.toNatClampNeg b = true)).toInt64) := fun h2 => by
    by_cases c9 : shadR r a.toNatClampNeg b = true
    · rw [bI_t c9]
      refine er_b rfl rfl (fun q => absurd q (by decide)) (fun _ => ?_)
      refine er_s rfl ?_
      refine er_g rfl rfl ?_
      refine er_ls rfl rfl (vi (k := 0)) ?_
      refine er_g rfl rfl ?_
      refine er_s rfl ?_
      refine er_q rfl ?_ ?_
      · rfl
      · rfl
    · rw [bI_f c9]
      refine er_b rfl rfl (fun _ => ?_) (fun q => absurd rfl q)
      refine er_s rfl ?_
      refine er_ls rfl rfl (vi (k := 0)) ?_
      refine er_g rfl rfl ?_
      refine er_s rfl ?_
      refine er_q rfl ?_ ?_
      · rfl
      · rfl
  have hr : run 6 21 mL_isShady 0 (lv_args 0 [.ref 31, .int a, .int b, .ref 212]) [] h = some (5, [(0, .ref 31), (1, .int a), (2, .int b), (3, .ref 212)], [.int b, .int a, .ref 31, .int 0, .ref 212], h) := rfl
  refine lm_l (i := 58) (na := 2) (n1 := 6) P (by decide) rfl R (Nat.le_of_ble_eq_true rfl) hr (by decide +kernel) rfl ⟨Nat.le_of_ble_eq_true rfl, Nat.le_of_ble_eq_true rfl⟩ ev (fun g C9 => C9) (fun e0 => ?_) (fun e0 => ?_)
  · exact ⟨e0, fun g C9 => by exact C9⟩
  · refine ⟨?_, fun g C9 => by exact C9⟩
    rcases co with e1 | e1 | e1
    · exact absurd e1 e0
    · rw [e1]; exact ⟨by decide, by decide +kernel⟩
    · rw [e1]; exact ⟨by decide, by decide +kernel⟩
theorem l_mass (C : CS h r w S K q T) (R : RS h r w S K q T) (I : IS B r w S K) (hB : B + 97 < 2 ^ 30) (a : Int32) : LM 3 20 mL_mass [.ref 31, .int a, .ref 213] h (LDq r w S K q T (massC r a) (FP.f2d (w a.toNatClampNeg)) (fun g => CS g r w S K q T)) := by
  have co : A3 (massC r a) := by unfold massC; repeat' first | exact A3_0 | exact A3_1 | exact A3_2 | refine ite_or (A := A3) ?_ ?_
  have P := p_op_mass 1 18 C I.1.1.1 a
  have ev : massC r a = 0 → ∀ h2, EvR 21 mL_mass 7 [(0, .ref 31), (1, .int a), (2, .ref 213)] [.float (w a.toNatClampNeg), .int 0, .ref 213] h2 (some (.int 0)) (hD h2 213 0 (FP.f2d (w a.toNatClampNeg))) := fun c0 h2 => by
    refine er_f2d rfl (d_nn (Nat.le_of_lt (f2d_m (mass_ok I.1 c0)).2.2)) ?_
    refine er_ds rfl rfl (vi (k := 0)) ?_
    refine er_g rfl rfl ?_
    refine er_s rfl ?_
    refine er_q rfl ?_ ?_
    · rfl
    · rfl
  have hr : run 5 21 mL_mass 0 (lv_args 0 [.ref 31, .int a, .ref 213]) [] h = some (4, [(0, .ref 31), (1, .int a), (2, .ref 213)], [.int a, .ref 31, .int 0, .ref 213], h) := rfl
  refine lm_d (i := 39) (na := 1) (n1 := 5) P (by decide) rfl R (Nat.le_of_ble_eq_true rfl) hr (by decide +kernel) rfl ⟨Nat.le_of_ble_eq_true rfl, Nat.le_of_ble_eq_true rfl⟩ ev (fun g C9 => C9) (fun e0 => ?_) (fun e0 => ?_)
  · exact ⟨e0, fun g C9 => by exact C9⟩
  · refine ⟨?_, fun g C9 => by exact C9⟩
    rcases co with e1 | e1 | e1
    · exact absurd e1 e0
    · rw [e1]; exact ⟨by decide, by decide +kernel⟩
    · rw [e1]; exact ⟨by decide, by decide +kernel⟩
end
end
