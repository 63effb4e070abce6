-- needs: 08
noncomputable section
/-- it comes to a return with an answer and a heap of which P holds -/
def WX (d mi pc : Nat) (lc : LC) (st : List Value) (h : AH) (P : Option Value → AH → Prop) : Prop := ∃ (v : Option Value) (h' : AH), EvR d mi pc lc st h v h' ∧ P v h'
abbrev WM (d mj : Nat) (av : List Value) (h : AH) (P : Option Value → AH → Prop) : Prop := WX d mj 0 (lv_args 0 av) [] h P
variable {d mi pc pc' nx r1 r2 r3 : Nat} {lc lc' : LC} {st st' : List Value} {h h2 h' : AH} {v : Option Value} {ins : Instr} {w : Value} {P : Option Value → AH → Prop}
theorem ex_s (hs : stp mi pc lc st h = some (pc', lc', st', h2)) (K : WX d mi pc' lc' st' h2 P) : WX d mi pc lc st h P := by
  obtain ⟨v0, h0, k0, p0⟩ := K
  exact ⟨v0, h0, er_s hs k0, p0⟩
theorem ex_g (hc : cdT mi pc = some (2, ins, nx, r1, r2, r3, w)) (hs : stB ins st = some (true, st')) (K1 : WX d mi r1 lc st' h P) : WX d mi pc lc st h P := by
  obtain ⟨v0, h0, k0, p0⟩ := K1
  exact ⟨v0, h0, er_g hc hs k0, p0⟩
theorem ex_n (hc : cdT mi pc = some (2, ins, nx, r1, r2, r3, w)) (hs : stB ins st = some (false, st')) (K1 : WX d mi nx lc st' h P) : WX d mi pc lc st h P := by
  obtain ⟨v0, h0, k0, p0⟩ := K1
  exact ⟨v0, h0, er_n hc hs k0, p0⟩
theorem ex_c {mj na kd : Nat} {av rest : List Value} {rv : Option Value} (hc : cdT mi pc = some (4, ins, nx, mj, na, kd, w)) (ha : cArgs kd na mj st = some (av, rest)) (h8 : (rest.map fun v => v.category).sum ≤ 8 ∧ (av.map fun v => v.category).sum ≤ cM mj)     (hM : EvM d mj av h rv h2) (K : WX (d + 1) mi nx lc (rv.toList ++ rest) h2 P) : WX (d + 1) mi pc lc st h P := by
  obtain ⟨v0, h0, k0, p0⟩ := K
  exact ⟨v0, h0, er_c hc ha h8 hM k0, p0⟩
theorem ex_f {k ci sv : Nat} {sl : List Nat} {i : Nat} (hc : cdT mi pc = some (3, .getfield i, nx, ci, r2, r3, w)) (hl : layAt k = (0, ci, sl)) (hs : sl[r2]? = some sv) (K : WX d mi nx lc (fv sv (h.1 k r2) :: st) h P) : WX d mi pc lc (.ref k :: st) h P := by
  obtain ⟨v0, h0, k0, p0⟩ := K
  exact ⟨v0, h0, er_f hc hl hs k0, p0⟩
theorem ex_p {k ci sv : Nat} {sl : List Nat} {i : Nat} {x : Int32} (hc : cdT mi pc = some (3, .putfield i, nx, ci, r2, r3, w)) (hl : layAt k = (0, ci, sl)) (hs : sl[r2]? = some sv) (hk : kOk sv x = true) (K : WX d mi nx lc st (hI h k r2 x) P) : WX d mi pc lc (.int x :: .ref k :: st) h P := by
  obtain ⟨v0, h0, k0, p0⟩ := K
  exact ⟨v0, h0, er_p hc hl hs hk k0, p0⟩
theorem ex_il {k n : Nat} {sl : List Nat} {i : Int32} (hc : cdT mi pc = some (3, .iaload, nx, r1, r2, r3, w)) (hl : layAt k = (1, n, sl)) (hi : vp_in i n) (K : WX d mi nx lc (.int (h.1 k i.toNatClampNeg) :: st) h P) : WX d mi pc lc (.int i :: .ref k :: st) h P := by
  obtain ⟨v0, h0, k0, p0⟩ := K
  exact ⟨v0, h0, er_il hc hl hi k0, p0⟩
theorem ex_cl {k n : Nat} {sl : List Nat} {i : Int32} (hc : cdT mi pc = some (3, .caload, nx, r1, r2, r3, w)) (hl : layAt k = (2, n, sl)) (hi : vp_in i n) (K : WX d mi nx lc (.int (h.1 k i.toNatClampNeg) :: st) h P) : WX d mi pc lc (.int i :: .ref k :: st) h P := by
  obtain ⟨v0, h0, k0, p0⟩ := K
  exact ⟨v0, h0, er_cl hc hl hi k0, p0⟩
theorem ex_fl {k n : Nat} {sl : List Nat} {i : Int32} (hc : cdT mi pc = some (3, .faload, nx, r1, r2, r3, w)) (hl : layAt k = (4, n, sl)) (hi : vp_in i n) (K : WX d mi nx lc (.float (h.2.1 k i.toNatClampNeg) :: st) h P) : WX d mi pc lc (.int i :: .ref k :: st) h P := by
  obtain ⟨v0, h0, k0, p0⟩ := K
  exact ⟨v0, h0, er_fl hc hl hi k0, p0⟩
theorem ex_is {k n : Nat} {sl : List Nat} {i x : Int32} (hc : cdT mi pc = some (3, .iastore, nx, r1, r2, r3, w)) (hl : layAt k = (1, n, sl)) (hi : vp_in i n) (K : WX d mi nx lc st (hI h k i.toNatClampNeg x) P) : WX d mi pc lc (.int x :: .int i :: .ref k :: st) h P := by
  obtain ⟨v0, h0, k0, p0⟩ := K
  exact ⟨v0, h0, er_is hc hl hi k0, p0⟩
theorem ex_cs {k n : Nat} {sl : List Nat} {i x : Int32} (hc : cdT mi pc = some (3, .castore, nx, r1, r2, r3, w)) (hl : layAt k = (2, n, sl)) (hi : vp_in i n) (hk : kOk 2 x = true) (K : WX d mi nx lc st (hI h k i.toNatClampNeg x) P) : WX d mi pc lc (.int x :: .int i :: .ref k :: st) h P := by
  obtain ⟨v0, h0, k0, p0⟩ := K
  exact ⟨v0, h0, er_cs hc hl hi hk k0, p0⟩
theorem ex_fs {k n : Nat} {sl : List Nat} {i : Int32} {x : UInt32} (hc : cdT mi pc = some (3, .fastore, nx, r1, r2, r3, w)) (hl : layAt k = (4, n, sl)) (hi : vp_in i n) (K : WX d mi nx lc st (hF h k i.toNatClampNeg x) P) : WX d mi pc lc (.float x :: .int i :: .ref k :: st) h P := by
  obtain ⟨v0, h0, k0, p0⟩ := K
  exact ⟨v0, h0, er_fs hc hl hi k0, p0⟩
theorem ex_fmul {x y : UInt32} (hc : cdT mi pc = some (0, .fmul, nx, r1, r2, r3, w)) (hn : nn (FP.fmul x y)) (K : WX d mi nx lc (.float (FP.fmul x y) :: st) h P) : WX d mi pc lc (.float y :: .float x :: st) h P := by
  obtain ⟨v0, h0, k0, p0⟩ := K
  exact ⟨v0, h0, er_fmul hc hn k0, p0⟩
theorem ex_fadd {x y : UInt32} (hc : cdT mi pc = some (0, .fadd, nx, r1, r2, r3, w)) (hn : nn (FP.fadd x y)) (K : WX d mi nx lc (.float (FP.fadd x y) :: st) h P) : WX d mi pc lc (.float y :: .float x :: st) h P := by
  obtain ⟨v0, h0, k0, p0⟩ := K
  exact ⟨v0, h0, er_fadd hc hn k0, p0⟩
theorem ex_fsub {x y : UInt32} (hc : cdT mi pc = some (0, .fsub, nx, r1, r2, r3, w)) (hn : nn (FP.fsub x y)) (K : WX d mi nx lc (.float (FP.fsub x y) :: st) h P) : WX d mi pc lc (.float y :: .float x :: st) h P := by
  obtain ⟨v0, h0, k0, p0⟩ := K
  exact ⟨v0, h0, er_fsub hc hn k0, p0⟩
theorem ex_fdiv {x y : UInt32} (hc : cdT mi pc = some (0, .fdiv, nx, r1, r2, r3, w)) (hn : nn (FP.fdiv x y)) (K : WX d mi nx lc (.float (FP.fdiv x y) :: st) h P) : WX d mi pc lc (.float y :: .float x :: st) h P := by
  obtain ⟨v0, h0, k0, p0⟩ := K
  exact ⟨v0, h0, er_fdiv hc hn k0, p0⟩
theorem ex_sw {x : Int32} {tgt : Nat} {rest : List Value} (hc : cdT mi pc = some (6, ins, nx, r1, r2, r3, w)) (ht : swt (cSw mi pc) x = tgt) (K : WX d mi tgt lc rest h P) : WX d mi pc lc (.int x :: rest) h P := by
  obtain ⟨v0, h0, k0, p0⟩ := K
  exact ⟨v0, h0, er_sw hc ht k0, p0⟩
theorem ex_v {b mj na ci : Nat} {sl : List Nat} {as rest : List Value} {rv : Option Value} (hc : cdT mi pc = some (4, ins, nx, mj, na, 0, w)) (hl : layAt b = (0, ci, sl)) (hk : kOf (cO mj) = ci) (hna : as.length = na) (h8 : (rest.map fun v => v.category).sum ≤ 8 ∧ ((Value.ref b :: as.reverse).map fun v => v.category).sum ≤ cM mj)     (hM : EvM d mj (.ref b :: as.reverse) h rv h2) (K : WX (d + 1) mi nx lc (rv.toList ++ rest) h2 P) : WX (d + 1) mi pc lc (as ++ .ref b :: rest) h P := by
  obtain ⟨v0, h0, k0, p0⟩ := K
  exact ⟨v0, h0, er_v hc hl hk hna h8 hM k0, p0⟩
theorem ex_v0 {b mj ci : Nat} {sl : List Nat} {rest : List Value} {rv : Option Value} (hc : cdT mi pc = some (4, ins, nx, mj, 0, 0, w)) (hl : layAt b = (0, ci, sl)) (hk : kOf (cO mj) = ci) (h8 : (rest.map fun v => v.category).sum ≤ 8 ∧ ([Value.ref b].map fun v => v.category).sum ≤ cM mj)     (hM : EvM d mj [.ref b] h rv h2) (K : WX (d + 1) mi nx lc (rv.toList ++ rest) h2 P) : WX (d + 1) mi pc lc (.ref b :: rest) h P := by
  obtain ⟨v0, h0, k0, p0⟩ := K
  exact ⟨v0, h0, er_v0 hc hl hk h8 hM k0, p0⟩
theorem ex_v1 {b mj ci : Nat} {sl : List Nat} {rest : List Value} {rv : Option Value} {a1 : Value} (hc : cdT mi pc = some (4, ins, nx, mj, 1, 0, w)) (hl : layAt b = (0, ci, sl)) (hk : kOf (cO mj) = ci) (h8 : (rest.map fun v => v.category).sum ≤ 8 ∧ ([Value.ref b, a1].map fun v => v.category).sum ≤ cM mj)     (hM : EvM d mj [.ref b, a1] h rv h2) (K : WX (d + 1) mi nx lc (rv.toList ++ rest) h2 P) : WX (d + 1) mi pc lc (a1 :: .ref b :: rest) h P := by
  obtain ⟨v0, h0, k0, p0⟩ := K
  exact ⟨v0, h0, er_v1 hc hl hk h8 hM k0, p0⟩
theorem ex_v2 {b mj ci : Nat} {sl : List Nat} {rest : List Value} {rv : Option Value} {a1 a2 : Value} (hc : cdT mi pc = some (4, ins, nx, mj, 2, 0, w)) (hl : layAt b = (0, ci, sl)) (hk : kOf (cO mj) = ci) (h8 : (rest.map fun v => v.category).sum ≤ 8 ∧ ([Value.ref b, a1, a2].map fun v => v.category).sum ≤ cM mj)     (hM : EvM d mj [.ref b, a1, a2] h rv h2) (K : WX (d + 1) mi nx lc (rv.toList ++ rest) h2 P) : WX (d + 1) mi pc lc (a2 :: a1 :: .ref b :: rest) h P := by
  obtain ⟨v0, h0, k0, p0⟩ := K
  exact ⟨v0, h0, er_v2 hc hl hk h8 hM k0, p0⟩
theorem ex_v3 {b mj ci : Nat} {sl : List Nat} {rest : List Value} {rv : Option Value} {a1 a2 a3 : Value} (hc : cdT mi pc = some (4, ins, nx, mj, 3, 0, w)) (hl : layAt b = (0, ci, sl)) (hk : kOf (cO mj) = ci) (h8 : (rest.map fun v => v.category).sum ≤ 8 ∧ ([Value.ref b, a1, a2, a3].map fun v => v.category).sum ≤ cM mj)     (hM : EvM d mj [.ref b, a1, a2, a3] h rv h2) (K : WX (d + 1) mi nx lc (rv.toList ++ rest) h2 P) : WX (d + 1) mi pc lc (a3 :: a2 :: a1 :: .ref b :: rest) h P := by
  obtain ⟨v0, h0, k0, p0⟩ := K
  exact ⟨v0, h0, er_v3 hc hl hk h8 hM k0, p0⟩
theorem ex_v4 {b mj ci : Nat} {sl : List Nat} {rest : List Value} {rv : Option Value} {a1 a2 a3 a4 : Value} (hc : cdT mi pc = some (4, ins, nx, mj, 4, 0, w)) (hl : layAt b = (0, ci, sl)) (hk : kOf (cO mj) = ci) (h8 : (rest.map fun v => v.category).sum ≤ 8 ∧ ([Value.ref b, a1, a2, a3, a4].map fun v => v.category).sum ≤ cM mj)     (hM : EvM d mj [.ref b, a1, a2, a3, a4] h rv h2) (K : WX (d + 1) mi nx lc (rv.toList ++ rest) h2 P) : WX (d + 1) mi pc lc (a4 :: a3 :: a2 :: a1 :: .ref b :: rest) h P := by
  obtain ⟨v0, h0, k0, p0⟩ := K
  exact ⟨v0, h0, er_v4 hc hl hk h8 hM k0, p0⟩
theorem ex_v5 {b mj ci : Nat} {sl : List Nat} {rest : List Value} {rv : Option Value} {a1 a2 a3 a4 a5 : Value} (hc : cdT mi pc = some (4, ins, nx, mj, 5, 0, w)) (hl : layAt b = (0, ci, sl)) (hk : kOf (cO mj) = ci) (h8 : (rest.map fun v => v.category).sum ≤ 8 ∧ ([Value.ref b, a1, a2, a3, a4, a5].map fun v => v.category).sum ≤ cM mj)     (hM : EvM d mj [.ref b, a1, a2, a3, a4, a5] h rv h2) (K : WX (d + 1) mi nx lc (rv.toList ++ rest) h2 P) : WX (d + 1) mi pc lc (a5 :: a4 :: a3 :: a2 :: a1 :: .ref b :: rest) h P := by
  obtain ⟨v0, h0, k0, p0⟩ := K
  exact ⟨v0, h0, er_v5 hc hl hk h8 hM k0, p0⟩
theorem ex_sub (hs : SubM lc' lc) (K : WX d mi pc lc' st h P) : WX d mi pc lc st h P := by
  obtain ⟨v0, h0, k0, p0⟩ := K
  exact ⟨v0, h0, er_sub hs k0, p0⟩
theorem ex_b {P1 : Prop} {iP : Decidable P1} (hc : cdT mi pc = some (2, ins, nx, r1, r2, r3, w)) (hs : stB ins st = some (@decide P1 iP, st')) (K1 : P1 → WX d mi r1 lc st' h P) (K2 : ¬ P1 → WX d mi nx lc st' h P) : WX d mi pc lc st h P := by
  by_cases hP : P1
  · obtain ⟨v0, h0, k0, p0⟩ := K1 hP
    exact ⟨v0, h0, er_b hc hs (fun _ => k0) (fun q => absurd hP q), p0⟩
  · obtain ⟨v0, h0, k0, p0⟩ := K2 hP
    exact ⟨v0, h0, er_b hc hs (fun q => absurd q hP) (fun _ => k0), p0⟩
theorem ex_q {v0 : Option Value} (hr : retv mi pc st = some v0) (hp : P v0 h) : WX d mi pc lc st h P := ⟨v0, h, er_r hr, hp⟩
theorem ex_w (K : WX d mi pc lc st h (fun v0 h0 => P v0 h0)) : WX d mi pc lc st h P := K
theorem WX.mono {P9 : Option Value → AH → Prop} (K : WX d mi pc lc st h P9) (hP : ∀ v0 h0, P9 v0 h0 → P v0 h0) : WX d mi pc lc st h P := by
  obtain ⟨v0, h0, k0, p0⟩ := K
  exact ⟨v0, h0, k0, hP _ _ p0⟩
theorem ex_of (K : EvR d mi pc lc st h v h') (hp : P v h') : WX d mi pc lc st h P := ⟨v, h', K, hp⟩
/-- an exact row out of one over a post -/
theorem WX.ev (K : WX d mi pc lc st h (fun v0 h0 => v0 = v ∧ h0 = h')) : EvR d mi pc lc st h v h' := by
  obtain ⟨v0, h0, k0, rfl, rfl⟩ := K
  exact k0

theorem ex_x0 {b mj ci : Nat} {sl : List Nat} {rest : List Value} {P9 : Option Value → AH → Prop} (hc : cdT mi pc = some (4, ins, nx, mj, 0, 0, w)) (hl : layAt b = (0, ci, sl)) (hk : kOf (cO mj) = ci) (h8 : (rest.map fun v => v.category).sum ≤ 8 ∧ ([Value.ref b].map fun v => v.category).sum ≤ cM mj)
    (hM : WM d mj [Value.ref b] h P9) (K : ∀ rv h2, P9 rv h2 → WX (d + 1) mi nx lc (rv.toList ++ rest) h2 P) : WX (d + 1) mi pc lc (.ref b :: rest) h P := by
  obtain ⟨v1, h1, k1, p1⟩ := hM
  exact ex_v0 hc hl hk h8 k1 (K _ _ p1)
theorem ex_x1 {b mj ci : Nat} {sl : List Nat} {rest : List Value} {a1 : Value} {P9 : Option Value → AH → Prop} (hc : cdT mi pc = some (4, ins, nx, mj, 1, 0, w)) (hl : layAt b = (0, ci, sl)) (hk : kOf (cO mj) = ci) (h8 : (rest.map fun v => v.category).sum ≤ 8 ∧ ([Value.ref b, a1].map fun v => v.category).sum ≤ cM mj)
    (hM : WM d mj [Value.ref b, a1] h P9) (K : ∀ rv h2, P9 rv h2 → WX (d + 1) mi nx lc (rv.toList ++ rest) h2 P) : WX (d + 1) mi pc lc (a1 :: .ref b :: rest) h P := by
  obtain ⟨v1, h1, k1, p1⟩ := hM
  exact ex_v1 hc hl hk h8 k1 (K _ _ p1)
theorem ex_x2 {b mj ci : Nat} {sl : List Nat} {rest : List Value} {a1 a2 : Value} {P9 : Option Value → AH → Prop} (hc : cdT mi pc = some (4, ins, nx, mj, 2, 0, w)) (hl : layAt b = (0, ci, sl)) (hk : kOf (cO mj) = ci) (h8 : (rest.map fun v => v.category).sum ≤ 8 ∧ ([Value.ref b, a1, a2].map fun v => v.category).sum ≤ cM mj)
    (hM : WM d mj [Value.ref b, a1, a2] h P9) (K : ∀ rv h2, P9 rv h2 → WX (d + 1) mi nx lc (rv.toList ++ rest) h2 P) : WX (d + 1) mi pc lc (a2 :: a1 :: .ref b :: rest) h P := by
  obtain ⟨v1, h1, k1, p1⟩ := hM
  exact ex_v2 hc hl hk h8 k1 (K _ _ p1)
theorem ex_x3 {b mj ci : Nat} {sl : List Nat} {rest : List Value} {a1 a2 a3 : Value} {P9 : Option Value → AH → Prop} (hc : cdT mi pc = some (4, ins, nx, mj, 3, 0, w)) (hl : layAt b = (0, ci, sl)) (hk : kOf (cO mj) = ci) (h8 : (rest.map fun v => v.category).sum ≤ 8 ∧ ([Value.ref b, a1, a2, a3].map fun v => v.category).sum ≤ cM mj)
    (hM : WM d mj [Value.ref b, a1, a2, a3] h P9) (K : ∀ rv h2, P9 rv h2 → WX (d + 1) mi nx lc (rv.toList ++ rest) h2 P) : WX (d + 1) mi pc lc (a3 :: a2 :: a1 :: .ref b :: rest) h P := by
  obtain ⟨v1, h1, k1, p1⟩ := hM
  exact ex_v3 hc hl hk h8 k1 (K _ _ p1)
theorem ex_x4 {b mj ci : Nat} {sl : List Nat} {rest : List Value} {a1 a2 a3 a4 : Value} {P9 : Option Value → AH → Prop} (hc : cdT mi pc = some (4, ins, nx, mj, 4, 0, w)) (hl : layAt b = (0, ci, sl)) (hk : kOf (cO mj) = ci) (h8 : (rest.map fun v => v.category).sum ≤ 8 ∧ ([Value.ref b, a1, a2, a3, a4].map fun v => v.category).sum ≤ cM mj)
    (hM : WM d mj [Value.ref b, a1, a2, a3, a4] h P9) (K : ∀ rv h2, P9 rv h2 → WX (d + 1) mi nx lc (rv.toList ++ rest) h2 P) : WX (d + 1) mi pc lc (a4 :: a3 :: a2 :: a1 :: .ref b :: rest) h P := by
  obtain ⟨v1, h1, k1, p1⟩ := hM
  exact ex_v4 hc hl hk h8 k1 (K _ _ p1)
theorem ex_x5 {b mj ci : Nat} {sl : List Nat} {rest : List Value} {a1 a2 a3 a4 a5 : Value} {P9 : Option Value → AH → Prop} (hc : cdT mi pc = some (4, ins, nx, mj, 5, 0, w)) (hl : layAt b = (0, ci, sl)) (hk : kOf (cO mj) = ci) (h8 : (rest.map fun v => v.category).sum ≤ 8 ∧ ([Value.ref b, a1, a2, a3, a4, a5].map fun v => v.category).sum ≤ cM mj)
    (hM : WM d mj [Value.ref b, a1, a2, a3, a4, a5] h P9) (K : ∀ rv h2, P9 rv h2 → WX (d + 1) mi nx lc (rv.toList ++ rest) h2 P) : WX (d + 1) mi pc lc (a5 :: a4 :: a3 :: a2 :: a1 :: .ref b :: rest) h P := by
  obtain ⟨v1, h1, k1, p1⟩ := hM
  exact ex_v5 hc hl hk h8 k1 (K _ _ p1)
theorem ex_xc {mj na kd : Nat} {av rest : List Value} {P9 : Option Value → AH → Prop} (hc : cdT mi pc = some (4, ins, nx, mj, na, kd, w)) (ha : cArgs kd na mj st = some (av, rest)) (h8 : (rest.map fun v => v.category).sum ≤ 8 ∧ (av.map fun v => v.category).sum ≤ cM mj)
    (hM : WM d mj av h P9) (K : ∀ rv h2, P9 rv h2 → WX (d + 1) mi nx lc (rv.toList ++ rest) h2 P) : WX (d + 1) mi pc lc st h P := by
  obtain ⟨v1, h1, k1, p1⟩ := hM
  exact ex_c hc ha h8 k1 (K _ _ p1)

end
