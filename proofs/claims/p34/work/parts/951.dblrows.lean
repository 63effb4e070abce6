-- needs: 94
noncomputable section
/-- a double's operation that makes no NaN -/
abbrev nnD (r : UInt64) : Prop := r &&& 0x7fffffffffffffff ≤ 0x7ff0000000000000
section
variable {d mi pc pc' nx r1 r2 r3 : Nat} {lc lc' : LC} {st st' : List Value} {h h2 h' : AH} {v : Option Value} {ins : Instr} {w : Value}
theorem er_f2d {x : UInt32} (hc : cdT mi pc = some (0, .f2d, nx, r1, r2, r3, w)) (hn : nnD (FP.f2d x)) (K : EvR d mi nx lc (.double (FP.f2d x) :: st) h v h') : EvR d mi pc lc (.float x :: st) h v h' := by
  refine er_s (pc' := nx) (lc' := lc) (st' := .double (FP.f2d x) :: st) (h2 := h) ?_ K
  unfold stp
  simp only [hc, stA]
  rw [if_pos hn]
theorem er_dadd {x y : UInt64} (hc : cdT mi pc = some (0, .dadd, nx, r1, r2, r3, w)) (hn : nnD (FP.dadd x y)) (K : EvR d mi nx lc (.double (FP.dadd x y) :: st) h v h') : EvR d mi pc lc (.double y :: .double x :: st) h v h' := by
  refine er_s (pc' := nx) (lc' := lc) (st' := .double (FP.dadd x y) :: st) (h2 := h) ?_ K
  unfold stp
  simp only [hc, stA]
  rw [if_pos hn]
theorem et_dadd {n : Nat} {P : Out → Prop} {x y : UInt64} (hc : cdT mi pc = some (0, .dadd, nx, r1, r2, r3, w)) (hn : nnD (FP.dadd x y)) (K : TX n d mi nx lc (.double (FP.dadd x y) :: st) h P) : TX n d mi pc lc (.double y :: .double x :: st) h P := by
  refine et_s (pc' := nx) (lc' := lc) (st' := .double (FP.dadd x y) :: st) (h2 := h) ?_ K
  unfold stp
  simp only [hc, stA]
  rw [if_pos hn]
theorem er_dsub {x y : UInt64} (hc : cdT mi pc = some (0, .dsub, nx, r1, r2, r3, w)) (hn : nnD (FP.dsub x y)) (K : EvR d mi nx lc (.double (FP.dsub x y) :: st) h v h') : EvR d mi pc lc (.double y :: .double x :: st) h v h' := by
  refine er_s (pc' := nx) (lc' := lc) (st' := .double (FP.dsub x y) :: st) (h2 := h) ?_ K
  unfold stp
  simp only [hc, stA]
  rw [if_pos hn]
theorem et_dsub {n : Nat} {P : Out → Prop} {x y : UInt64} (hc : cdT mi pc = some (0, .dsub, nx, r1, r2, r3, w)) (hn : nnD (FP.dsub x y)) (K : TX n d mi nx lc (.double (FP.dsub x y) :: st) h P) : TX n d mi pc lc (.double y :: .double x :: st) h P := by
  refine et_s (pc' := nx) (lc' := lc) (st' := .double (FP.dsub x y) :: st) (h2 := h) ?_ K
  unfold stp
  simp only [hc, stA]
  rw [if_pos hn]
theorem er_dmul {x y : UInt64} (hc : cdT mi pc = some (0, .dmul, nx, r1, r2, r3, w)) (hn : nnD (FP.dmul x y)) (K : EvR d mi nx lc (.double (FP.dmul x y) :: st) h v h') : EvR d mi pc lc (.double y :: .double x :: st) h v h' := by
  refine er_s (pc' := nx) (lc' := lc) (st' := .double (FP.dmul x y) :: st) (h2 := h) ?_ K
  unfold stp
  simp only [hc, stA]
  rw [if_pos hn]
theorem et_dmul {n : Nat} {P : Out → Prop} {x y : UInt64} (hc : cdT mi pc = some (0, .dmul, nx, r1, r2, r3, w)) (hn : nnD (FP.dmul x y)) (K : TX n d mi nx lc (.double (FP.dmul x y) :: st) h P) : TX n d mi pc lc (.double y :: .double x :: st) h P := by
  refine et_s (pc' := nx) (lc' := lc) (st' := .double (FP.dmul x y) :: st) (h2 := h) ?_ K
  unfold stp
  simp only [hc, stA]
  rw [if_pos hn]
theorem er_ddiv {x y : UInt64} (hc : cdT mi pc = some (0, .ddiv, nx, r1, r2, r3, w)) (hn : nnD (FP.ddiv x y)) (K : EvR d mi nx lc (.double (FP.ddiv x y) :: st) h v h') : EvR d mi pc lc (.double y :: .double x :: st) h v h' := by
  refine er_s (pc' := nx) (lc' := lc) (st' := .double (FP.ddiv x y) :: st) (h2 := h) ?_ K
  unfold stp
  simp only [hc, stA]
  rw [if_pos hn]
theorem et_ddiv {n : Nat} {P : Out → Prop} {x y : UInt64} (hc : cdT mi pc = some (0, .ddiv, nx, r1, r2, r3, w)) (hn : nnD (FP.ddiv x y)) (K : TX n d mi nx lc (.double (FP.ddiv x y) :: st) h P) : TX n d mi pc lc (.double y :: .double x :: st) h P := by
  refine et_s (pc' := nx) (lc' := lc) (st' := .double (FP.ddiv x y) :: st) (h2 := h) ?_ K
  unfold stp
  simp only [hc, stA]
  rw [if_pos hn]
end
end
