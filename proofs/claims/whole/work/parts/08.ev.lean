noncomputable section
theorem run_mono1 : ∀ (n d mi pc : Nat) (lc : LC) (st : List Value) (h : AH) (c : Cf), run n d mi pc lc st h = some c → run (n + 1) d mi pc lc st h = some c
  | 0, _, _, _, _, _, _, _, hr => by cases hr
  | n + 1, d, mi, pc, lc, st, h, c, hr => by
    unfold run at hr ⊢
    split at hr
    · cases hr
    · next ins nx r1 r2 r3 v hcd =>
      try simp only [hcd]
      split at hr
      · next q hq => exact run_mono1 n _ _ _ _ _ _ _ hr
      · cases hr
    · next ins nx mj na kd v hcd =>
      try simp only [hcd]
      split at hr
      · cases hr
      · next d' =>
        split at hr
        · cases hr
        · next q hq =>
          try simp only [hq]
          split at hr
          · next h8 =>
            try rw [if_pos h8]
            split at hr
            · cases hr
            · next c2 hc2 =>
              rw [run_mono1 n _ _ _ _ _ _ _ hc2]
              simp only []
              split at hr
              · cases hr
              · next rv hrv => exact run_mono1 n _ _ _ _ _ _ _ hr
          · cases hr
    · next hcd => first | exact hr | (simp only [hcd]; exact hr)
    · next hcd => first | exact hr | (simp only [hcd]; exact hr)
    · next en hn2 hn4 hn7 hn9 hcd =>
      try simp only [hcd]
      split at hr
      · cases hr
      · next c2 hc2 =>
        try simp only [hc2]
        exact run_mono1 n _ _ _ _ _ _ _ hr
theorem run_mono {n k d mi pc : Nat} {lc : LC} {st : List Value} {h : AH} {c : Cf} (hr : run n d mi pc lc st h = some c) (hk : n ≤ k) : run k d mi pc lc st h = some c := by
  induction hk with
  | refl => exact hr
  | step _ ih => exact run_mono1 _ _ _ _ _ _ _ _ ih
/-- it comes to a return, with this answer and heap -/
def EvR (d mi pc : Nat) (lc : LC) (st : List Value) (h : AH) (v : Option Value) (h' : AH) : Prop := ∃ (n pc' : Nat) (lc' : LC) (st' : List Value), run n d mi pc lc st h = some (pc', lc', st', h') ∧ retv mi pc' st' = some v
abbrev EvM (d mj : Nat) (av : List Value) (h : AH) (v : Option Value) (h' : AH) : Prop := EvR d mj 0 (lv_args 0 av) [] h v h'
variable {d mi pc pc' nx r1 r2 r3 : Nat} {lc lc' : LC} {st st' : List Value} {h h2 h' : AH} {v : Option Value} {ins : Instr} {w : Value}
theorem er_s (hs : stp mi pc lc st h = some (pc', lc', st', h2)) (K : EvR d mi pc' lc' st' h2 v h') : EvR d mi pc lc st h v h' := by
  obtain ⟨n, pc9, lc9, st9, h1, h3⟩ := K
  refine ⟨n + 1, pc9, lc9, st9, ?_, h3⟩
  unfold run
  have hs0 := hs
  unfold stp at hs0
  split
  · next hcd => rw [hcd] at hs0; cases hs0
  · next hcd => rw [hcd] at hs0; cases hs0
  · next hcd => rw [hcd] at hs0; cases hs0
  · next hcd => rw [hcd] at hs0; cases hs0
  · next hcd => rw [hcd] at hs0; cases hs0
  · rw [hs]; exact h1
theorem er_b {P : Prop} {iP : Decidable P} (hc : cdT mi pc = some (2, ins, nx, r1, r2, r3, w)) (hs : stB ins st = some (@decide P iP, st')) (K1 : P → EvR d mi r1 lc st' h v h') (K2 : ¬ P → EvR d mi nx lc st' h v h') : EvR d mi pc lc st h v h' := by
  by_cases hP : P
  · obtain ⟨n, pc9, lc9, st9, h1, h3⟩ := K1 hP
    refine ⟨n + 1, pc9, lc9, st9, ?_, h3⟩
    unfold run
    simp only [hc, hs, hP, decide_true, if_true]
    exact h1
  · obtain ⟨n, pc9, lc9, st9, h1, h3⟩ := K2 hP
    refine ⟨n + 1, pc9, lc9, st9, ?_, h3⟩
    unfold run
    simp only [hc, hs, hP, decide_false, Bool.false_eq_true, if_false]
    exact h1
theorem er_g (hc : cdT mi pc = some (2, ins, nx, r1, r2, r3, w)) (hs : stB ins st = some (true, st')) (K1 : EvR d mi r1 lc st' h v h') : EvR d mi pc lc st h v h' := by
  obtain ⟨n, pc9, lc9, st9, h1, h3⟩ := K1
  refine ⟨n + 1, pc9, lc9, st9, ?_, h3⟩
  unfold run
  simp only [hc, hs, if_true]
  exact h1
theorem er_n (hc : cdT mi pc = some (2, ins, nx, r1, r2, r3, w)) (hs : stB ins st = some (false, st')) (K1 : EvR d mi nx lc st' h v h') : EvR d mi pc lc st h v h' := by
  obtain ⟨n, pc9, lc9, st9, h1, h3⟩ := K1
  refine ⟨n + 1, pc9, lc9, st9, ?_, h3⟩
  unfold run
  simp only [hc, hs, Bool.false_eq_true, if_false]
  exact h1
theorem er_c {mj na kd : Nat} {av rest : List Value} {rv : Option Value} (hc : cdT mi pc = some (4, ins, nx, mj, na, kd, w)) (ha : cArgs kd na mj st = some (av, rest)) (h8 : (rest.map fun v => v.category).sum ≤ 8 ∧ (av.map fun v => v.category).sum ≤ cM mj)
    (hM : EvM d mj av h rv h2) (K : EvR (d + 1) mi nx lc (rv.toList ++ rest) h2 v h') : EvR (d + 1) mi pc lc st h v h' := by
  obtain ⟨n1, pc1, lc1, st1, a1, a2⟩ := hM
  obtain ⟨n, pc9, lc9, st9, h1, h3⟩ := K
  refine ⟨max n1 n + 1, pc9, lc9, st9, ?_, h3⟩
  unfold run
  simp only [hc, ha]
  rw [if_pos h8, run_mono a1 (Nat.le_max_left _ _)]
  simp only [a2]
  exact run_mono h1 (Nat.le_max_right _ _)
theorem er_r (hr : retv mi pc st = some v) : EvR d mi pc lc st h v h := by
  refine ⟨1, pc, lc, st, ?_, hr⟩
  unfold run
  unfold retv at hr
  split at hr
  all_goals first | (next hcd => simp only [hcd]) | cases hr
/-- the heap's rows where the layout is known by a hypothesis -/
theorem er_f {k ci sv : Nat} {sl : List Nat} {i : Nat} (hc : cdT mi pc = some (3, .getfield i, nx, ci, r2, r3, w)) (hl : layAt k = (0, ci, sl)) (hs : sl[r2]? = some sv) (K : EvR d mi nx lc (fv sv (h.1 k r2) :: st) h v h') : EvR d mi pc lc (.ref k :: st) h v h' := by
  refine er_s (pc' := nx) (lc' := lc) (st' := fv sv (h.1 k r2) :: st) (h2 := h) ?_ K
  unfold stp
  simp only [hc, stH, hl, hs, if_true]
theorem er_p {k ci sv : Nat} {sl : List Nat} {i : Nat} {x : Int32} (hc : cdT mi pc = some (3, .putfield i, nx, ci, r2, r3, w)) (hl : layAt k = (0, ci, sl)) (hs : sl[r2]? = some sv) (hk : kOk sv x = true) (K : EvR d mi nx lc st (hI h k r2 x) v h') : EvR d mi pc lc (.int x :: .ref k :: st) h v h' := by
  refine er_s (pc' := nx) (lc' := lc) (st' := st) (h2 := hI h k r2 x) ?_ K
  unfold stp
  simp only [hc, stH, hl, hs, hk, if_true]
theorem er_il {k n : Nat} {sl : List Nat} {i : Int32} (hc : cdT mi pc = some (3, .iaload, nx, r1, r2, r3, w)) (hl : layAt k = (1, n, sl)) (hi : vp_in i n) (K : EvR d mi nx lc (.int (h.1 k i.toNatClampNeg) :: st) h v h') : EvR d mi pc lc (.int i :: .ref k :: st) h v h' := by
  refine er_s (pc' := nx) (lc' := lc) (st' := .int (h.1 k i.toNatClampNeg) :: st) (h2 := h) ?_ K
  unfold stp
  simp only [hc, stH, hl]
  rw [if_neg hi]
theorem er_cl {k n : Nat} {sl : List Nat} {i : Int32} (hc : cdT mi pc = some (3, .caload, nx, r1, r2, r3, w)) (hl : layAt k = (2, n, sl)) (hi : vp_in i n) (K : EvR d mi nx lc (.int (h.1 k i.toNatClampNeg) :: st) h v h') : EvR d mi pc lc (.int i :: .ref k :: st) h v h' := by
  refine er_s (pc' := nx) (lc' := lc) (st' := .int (h.1 k i.toNatClampNeg) :: st) (h2 := h) ?_ K
  unfold stp
  simp only [hc, stH, hl]
  rw [if_neg hi]
theorem er_zl {k n : Nat} {sl : List Nat} {i : Int32} (hc : cdT mi pc = some (3, .baload, nx, r1, r2, r3, w)) (hl : layAt k = (3, n, sl)) (hi : vp_in i n) (K : EvR d mi nx lc (.int (h.1 k i.toNatClampNeg) :: st) h v h') : EvR d mi pc lc (.int i :: .ref k :: st) h v h' := by
  refine er_s (pc' := nx) (lc' := lc) (st' := .int (h.1 k i.toNatClampNeg) :: st) (h2 := h) ?_ K
  unfold stp
  simp only [hc, stH, hl]
  rw [if_neg hi]
theorem er_fl {k n : Nat} {sl : List Nat} {i : Int32} (hc : cdT mi pc = some (3, .faload, nx, r1, r2, r3, w)) (hl : layAt k = (4, n, sl)) (hi : vp_in i n) (K : EvR d mi nx lc (.float (h.2.1 k i.toNatClampNeg) :: st) h v h') : EvR d mi pc lc (.int i :: .ref k :: st) h v h' := by
  refine er_s (pc' := nx) (lc' := lc) (st' := .float (h.2.1 k i.toNatClampNeg) :: st) (h2 := h) ?_ K
  unfold stp
  simp only [hc, stH, hl]
  rw [if_neg hi]
theorem er_is {k n : Nat} {sl : List Nat} {i x : Int32} (hc : cdT mi pc = some (3, .iastore, nx, r1, r2, r3, w)) (hl : layAt k = (1, n, sl)) (hi : vp_in i n) (K : EvR d mi nx lc st (hI h k i.toNatClampNeg x) v h') : EvR d mi pc lc (.int x :: .int i :: .ref k :: st) h v h' := by
  refine er_s (pc' := nx) (lc' := lc) (st' := st) (h2 := hI h k i.toNatClampNeg x) ?_ K
  unfold stp
  simp only [hc, stH, hl]
  rw [if_neg hi]
theorem er_cs {k n : Nat} {sl : List Nat} {i x : Int32} (hc : cdT mi pc = some (3, .castore, nx, r1, r2, r3, w)) (hl : layAt k = (2, n, sl)) (hi : vp_in i n) (hk : kOk 2 x = true) (K : EvR d mi nx lc st (hI h k i.toNatClampNeg x) v h') : EvR d mi pc lc (.int x :: .int i :: .ref k :: st) h v h' := by
  refine er_s (pc' := nx) (lc' := lc) (st' := st) (h2 := hI h k i.toNatClampNeg x) ?_ K
  unfold stp
  simp only [hc, stH, hl]
  rw [if_neg hi]
  simp only [hk, if_true]
theorem er_zs {k n : Nat} {sl : List Nat} {i x : Int32} (hc : cdT mi pc = some (3, .bastore, nx, r1, r2, r3, w)) (hl : layAt k = (3, n, sl)) (hi : vp_in i n) (hk : kOk 1 x = true) (K : EvR d mi nx lc st (hI h k i.toNatClampNeg x) v h') : EvR d mi pc lc (.int x :: .int i :: .ref k :: st) h v h' := by
  refine er_s (pc' := nx) (lc' := lc) (st' := st) (h2 := hI h k i.toNatClampNeg x) ?_ K
  unfold stp
  simp only [hc, stH, hl]
  rw [if_neg hi]
  simp only [hk, if_true]
theorem er_fs {k n : Nat} {sl : List Nat} {i : Int32} {x : UInt32} (hc : cdT mi pc = some (3, .fastore, nx, r1, r2, r3, w)) (hl : layAt k = (4, n, sl)) (hi : vp_in i n) (K : EvR d mi nx lc st (hF h k i.toNatClampNeg x) v h') : EvR d mi pc lc (.float x :: .int i :: .ref k :: st) h v h' := by
  refine er_s (pc' := nx) (lc' := lc) (st' := st) (h2 := hF h k i.toNatClampNeg x) ?_ K
  unfold stp
  simp only [hc, stH, hl]
  rw [if_neg hi]
/-- a float's operation that makes no NaN -/
abbrev nn (r : UInt32) : Prop := r &&& 0x7fffffff ≤ 0x7f800000
theorem er_fmul {x y : UInt32} (hc : cdT mi pc = some (0, .fmul, nx, r1, r2, r3, w)) (hn : nn (FP.fmul x y)) (K : EvR d mi nx lc (.float (FP.fmul x y) :: st) h v h') : EvR d mi pc lc (.float y :: .float x :: st) h v h' := by
  refine er_s (pc' := nx) (lc' := lc) (st' := .float (FP.fmul x y) :: st) (h2 := h) ?_ K
  unfold stp
  simp only [hc, stA]
  rw [if_pos hn]
theorem er_fadd {x y : UInt32} (hc : cdT mi pc = some (0, .fadd, nx, r1, r2, r3, w)) (hn : nn (FP.fadd x y)) (K : EvR d mi nx lc (.float (FP.fadd x y) :: st) h v h') : EvR d mi pc lc (.float y :: .float x :: st) h v h' := by
  refine er_s (pc' := nx) (lc' := lc) (st' := .float (FP.fadd x y) :: st) (h2 := h) ?_ K
  unfold stp
  simp only [hc, stA]
  rw [if_pos hn]
theorem er_fsub {x y : UInt32} (hc : cdT mi pc = some (0, .fsub, nx, r1, r2, r3, w)) (hn : nn (FP.fsub x y)) (K : EvR d mi nx lc (.float (FP.fsub x y) :: st) h v h') : EvR d mi pc lc (.float y :: .float x :: st) h v h' := by
  refine er_s (pc' := nx) (lc' := lc) (st' := .float (FP.fsub x y) :: st) (h2 := h) ?_ K
  unfold stp
  simp only [hc, stA]
  rw [if_pos hn]
theorem er_fdiv {x y : UInt32} (hc : cdT mi pc = some (0, .fdiv, nx, r1, r2, r3, w)) (hn : nn (FP.fdiv x y)) (K : EvR d mi nx lc (.float (FP.fdiv x y) :: st) h v h') : EvR d mi pc lc (.float y :: .float x :: st) h v h' := by
  refine er_s (pc' := nx) (lc' := lc) (st' := .float (FP.fdiv x y) :: st) (h2 := h) ?_ K
  unfold stp
  simp only [hc, stA]
  rw [if_pos hn]
end
