-- needs: 9961
noncomputable section
theorem tx_fr {n d mj : Nat} {av : List Value} {h : AH} {P : Out → Prop} (hT : TM n d mj av h P) (hL : ¬ mj = mL_law) (hi : inS clP av = true) : TM n d mj av h (fun o => P o ∧ (∀ v h', o = .inl (v, h') → FrX clP h h') ∧ ∀ en h', o = .inr (en, h') → FrX clP h h') := by
  obtain ⟨o, hr, p⟩ := hT
  obtain ⟨g1, g2⟩ := rt_fr cl_clo n _ _ _ _ _ _ _ hr hL (args_in hi) rfl
  exact ⟨o, hr, p, fun v h' e => (g1 v h' e).1, g2⟩
theorem CS.hL {h : AH} {r : Nat → Int32} {w : Nat → UInt32} {S : Sv} {K : Hs} {q : Int32 × Int32} {T : Tx} {a i : Nat} {x : Int64} (C : CS h r w S K q T) : CS (hL h a i x) r w S K q T := C
theorem RS.hL {h : AH} {r : Nat → Int32} {w : Nat → UInt32} {S : Sv} {K : Hs} {q : Int32 × Int32} {T : Tx} {a i : Nat} {x : Int64} (C : RS h r w S K q T) : RS (hL h a i x) r w S K q T := C
theorem RS.hD {h : AH} {r : Nat → Int32} {w : Nat → UInt32} {S : Sv} {K : Hs} {q : Int32 × Int32} {T : Tx} {a i : Nat} {x : UInt64} (C : RS h r w S K q T) : RS (hD h a i x) r w S K q T := C
theorem CS.hD {h : AH} {r : Nat → Int32} {w : Nat → UInt32} {S : Sv} {K : Hs} {q : Int32 × Int32} {T : Tx} {a i : Nat} {x : UInt64} (C : CS h r w S K q T) : CS (hD h a i x) r w S K q T := C
/-- what a method of the law does to both sides: its code, the state of the class behind it, the answer's cell -/
def LQ (r : Nat → Int32) (w : Nat → UInt32) (S : Sv) (K : Hs) (q : Int32 × Int32) (T : Tx) (c : Int32) (y : Int64) (Z : AH → Prop) : Int32 → AH → Prop := fun k h3 => k = c ∧ RS h3 r w S K q T ∧ Z h3 ∧ (c = 0 → h3.2.2.1 212 0 = y)
section
variable {h : AH} {r r1 : Nat → Int32} {w w1 : Nat → UInt32} {S S1 : Sv} {K K1 : Hs} {q q1 q2 : Int32 × Int32} {T T1 T2 : Tx} {n d mi i mj na pc1 en : Nat} {lc1 : LC} {st1 av0 av rest : List Value} {f c : Int32}
theorem lm_mk {Gd : Option Value → AH → Prop} {Bd : AH → Prop} {P : Int32 → AH → Prop} (hT : TM n d mj av h (PX f en Gd Bd)) (hL : ¬ mj = mL_law) (hi : inS clP av = true)
    (hcat : (av0.map fun v => v.category).sum ≤ cM mi) {n1 : Nat} (hrun : run n1 (d + 1) mi 0 (lv_args 0 av0) [] h = some (pc1, lc1, st1, h)) (hw : wfE mi pc1 (4, .invokevirtual i, pc1 + 3, mj, na, 0, .null) = true) (ha : cArgs 0 na mj st1 = some (av, rest)) (h8 : (rest.map fun v => v.category).sum ≤ 8 ∧ (av.map fun v => v.category).sum ≤ cM mj)
    (good : f = 0 → ∀ v h2, Gd v h2 → FrX clP h h2 → ∃ h3, EvR (d + 1) mi (pc1 + 3) lc1 (v.toList ++ rest) h2 (some (.int 0)) h3 ∧ P 0 h3)
    (bad : f ≠ 0 → ∃ k, hdOk mi (lwH mi) pc1 en k = true ∧ ∀ h2, Bd h2 → FrX clP h h2 → P k h2) : LM n d mi av0 h P := by
  obtain ⟨o, hr, p, f1, f2⟩ := tx_fr hT hL hi
  match o, p with
  | .inl (v, h2), p =>
    obtain ⟨p1, p2⟩ := PX.inl p
    obtain ⟨h3, e1, e2⟩ := good p1 v h2 p2 (f1 v h2 rfl)
    exact ⟨0, h3, e2, n1, i, mj, na, pc1, lc1, st1, av, rest, .inl (v, h2), hcat, hrun, hw, ha, h8, hr, Or.inl ⟨v, h2, rfl, e1⟩⟩
  | .inr (e9, h2), p =>
    obtain ⟨p1, p2, p3⟩ := PX.inr p
    subst p2
    obtain ⟨k, e1, e2⟩ := bad p1
    exact ⟨k, h2, e2 h2 p3 (f2 e9 h2 rfl), n1, i, mj, na, pc1, lc1, st1, av, rest, .inr (e9, h2), hcat, hrun, hw, ha, h8, hr, Or.inr ⟨e9, rfl, e1⟩⟩
end
theorem lm_test (d : Nat) {h : AH} {a b : Int32} : run 6 (d + 1) mL_heat 0 (lv_args 0 [.ref 31, .int a, .int b, .ref 212]) [] h = some (5, [(0, .ref 31), (1, .int a), (2, .int b), (3, .ref 212)], [.int b, .int a, .ref 31, .int 0, .ref 212], h) := rfl
theorem lm_ev (d : Nat) {h : AH} {a b x : Int32} : EvR (d + 1) mL_heat 8 [(0, .ref 31), (1, .int a), (2, .int b), (3, .ref 212)] [.int x, .int 0, .ref 212] h (some (.int 0)) (hL h 212 0 x.toInt64) := by
  refine er_s rfl ?_
  refine er_ls rfl rfl (vi (k := 0)) ?_
  refine er_g rfl rfl ?_
  refine er_s rfl ?_
  refine er_q rfl ?_ ?_
  · rfl
  · rfl
end
