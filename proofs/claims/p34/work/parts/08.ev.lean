noncomputable section
theorem run_mono1 : ∀ (n d mi pc : Nat) (lc : LC) (st : List Value) (h : AH) (c : Cf), run n d mi pc lc st h = some c → run (n + 1) d mi pc lc st h = some c
  | 0, _, _, _, _, _, _, _, hr => by cases hr
  | n + 1, d, mi, pc, lc, st, h, c, hr => by
    unfold run at hr ⊢
    split at hr
    · cases hr
    · next ins nx r1 r2 r3 v hcd =>
      try simp only [hcd]
      split at hr
      · next q hq => exact run_mono1 n _ _ _ _ _ _ _ hr
      · cases hr
    · next ins nx mj na kd v hcd =>
      try simp only [hcd]
      split at hr
      · cases hr
      · next d' =>
        split at hr
        · cases hr
        · next q hq =>
          try simp only [hq]
          split at hr
          · next h8 =>
            try rw [if_pos h8]
            split at hr
            · cases hr
            · next c2 hc2 =>
              rw [run_mono1 n _ _ _ _ _ _ _ hc2]
              simp only []
              split at hr
              · cases hr
              · next rv hrv => exact run_mono1 n _ _ _ _ _ _ _ hr
          · cases hr
    · next hcd => first | exact hr | (simp only [hcd]; exact hr)
    · next hcd => first | exact hr | (simp only [hcd]; exact hr)
    · next en hn2 hn4 hn7 hn9 hcd =>
      try simp only [hcd]
      split at hr
      · cases hr
      · next c2 hc2 =>
        try simp only [hc2]
        exact run_mono1 n _ _ _ _ _ _ _ hr
theorem run_mono {n k d mi pc : Nat} {lc : LC} {st : List Value} {h : AH} {c : Cf} (hr : run n d mi pc lc st h = some c) (hk : n ≤ k) : run k d mi pc lc st h = some c := by
  induction hk with
  | refl => exact hr
  | step _ ih => exact run_mono1 _ _ _ _ _ _ _ _ ih
/-- it comes to a return, with this answer and heap -/
def EvR (d mi pc : Nat) (lc : LC) (st : List Value) (h : AH) (v : Option Value) (h' : AH) : Prop := ∃ (n pc' : Nat) (lc' : LC) (st' : List Value), run n d mi pc lc st h = some (pc', lc', st', h') ∧ retv mi pc' st' = some v
abbrev EvM (d mj : Nat) (av : List Value) (h : AH) (v : Option Value) (h' : AH) : Prop := EvR d mj 0 (lv_args 0 av) [] h v h'
variable {d mi pc pc' nx r1 r2 r3 : Nat} {lc lc' : LC} {st st' : List Value} {h h2 h' : AH} {v : Option Value} {ins : Instr} {w : Value}
theorem er_s (hs : stp mi pc lc st h = some (pc', lc', st', h2)) (K : EvR d mi pc' lc' st' h2 v h') : EvR d mi pc lc st h v h' := by
  obtain ⟨n, pc9, lc9, st9, h1, h3⟩ := K
  refine ⟨n + 1, pc9, lc9, st9, ?_, h3⟩
  unfold run
  have hs0 := hs
  unfold stp at hs0
  split
  · next hcd => rw [hcd] at hs0; cases hs0
  · next hcd => rw [hcd] at hs0; cases hs0
  · next hcd => rw [hcd] at hs0; cases hs0
  · next hcd => rw [hcd] at hs0; cases hs0
  · next hcd => rw [hcd] at hs0; cases hs0
  · rw [hs]; exact h1
theorem er_b {P : Prop} {iP : Decidable P} (hc : cdT mi pc = some (2, ins, nx, r1, r2, r3, w)) (hs : stB ins st = some (@decide P iP, st')) (K1 : P → EvR d mi r1 lc st' h v h') (K2 : ¬ P → EvR d mi nx lc st' h v h') : EvR d mi pc lc st h v h' := by
  by_cases hP : P
  · obtain ⟨n, pc9, lc9, st9, h1, h3⟩ := K1 hP
    refine ⟨n + 1, pc9, lc9, st9, ?_, h3⟩
    unfold run
    simp only [hc, hs, hP, decide_true, if_true]
    exact h1
  · obtain ⟨n, pc9, lc9, st9, h1, h3⟩ := K2 hP
    refine ⟨n + 1, pc9, lc9, st9, ?_, h3⟩
    unfold run
    simp only [hc, hs, hP, decide_false, Bool.false_eq_true, if_false]
    exact h1
theorem er_g (hc : cdT mi pc = some (2, ins, nx, r1, r2, r3, w)) (hs : stB ins st = some (true, st')) (K1 : EvR d mi r1 lc st' h v h') : EvR d mi pc lc st h v h' := by
  obtain ⟨n, pc9, lc9, st9, h1, h3⟩ := K1
  refine ⟨n + 1, pc9, lc9, st9, ?_, h3⟩
  unfold run
  simp only [hc, hs, if_true]
  exact h1
theorem er_n (hc : cdT mi pc = some (2, ins, nx, r1, r2, r3, w)) (hs : stB ins st = some (false, st')) (K1 : EvR d mi nx lc st' h v h') : EvR d mi pc lc st h v h' := by
  obtain ⟨n, pc9, lc9, st9, h1, h3⟩ := K1
  refine ⟨n + 1, pc9, lc9, st9, ?_, h3⟩
  unfold run
  simp only [hc, hs, Bool.false_eq_true, if_false]
  exact h1
theorem er_c {mj na kd : Nat} {av rest : List Value} {rv : Option Value} (hc : cdT mi pc = some (4, ins, nx, mj, na, kd, w)) (ha : cArgs kd na mj st = some (av, rest)) (h8 : (rest.map fun v => v.category).sum ≤ 8 ∧ (av.map fun v => v.category).sum ≤ cM mj)
    (hM : EvM d mj av h rv h2) (K : EvR (d + 1) mi nx lc (rv.toList ++ rest) h2 v h') : EvR (d + 1) mi pc lc st h v h' := by
  obtain ⟨n1, pc1, lc1, st1, a1, a2⟩ := hM
  obtain ⟨n, pc9, lc9, st9, h1, h3⟩ := K
  refine ⟨max n1 n + 1, pc9, lc9, st9, ?_, h3⟩
  unfold run
  simp only [hc, ha]
  rw [if_pos h8, run_mono a1 (Nat.le_max_left _ _)]
  simp only [a2]
  exact run_mono h1 (Nat.le_max_right _ _)
theorem er_r (hr : retv mi pc st = some v) : EvR d mi pc lc st h v h := by
  refine ⟨1, pc, lc, st, ?_, hr⟩
  unfold run
  unfold retv at hr
  split at hr
  all_goals first | (next hcd => simp only [hcd]) | cases hr
/-- the heap's rows where the layout is known by a hypothesis -/
theorem er_f {k ci sv : Nat} {sl : List Nat} {i : Nat} (hc : cdT mi pc = some (3, .getfield i, nx, ci, r2, r3, w)) (hl : layAt k = (0, ci, sl)) (hs : sl[r2]? = some sv) (K : EvR d mi nx lc (fv sv (h.1 k r2) :: st) h v h') : EvR d mi pc lc (.ref k :: st) h v h' := by
  refine er_s (pc' := nx) (lc' := lc) (st' := fv sv (h.1 k r2) :: st) (h2 := h) ?_ K
  unfold stp
  simp only [hc, stH, hl, hs, if_true]
theorem er_p {k ci sv : Nat} {sl : List Nat} {i : Nat} {x : Int32} (hc : cdT mi pc = some (3, .putfield i, nx, ci, r2, r3, w)) (hl : layAt k = (0, ci, sl)) (hs : sl[r2]? = some sv) (hk : kOk sv x = true) (K : EvR d mi nx lc st (hI h k r2 x) v h') : EvR d mi pc lc (.int x :: .ref k :: st) h v h' := by
  refine er_s (pc' := nx) (lc' := lc) (st' := st) (h2 := hI h k r2 x) ?_ K
  unfold stp
  simp only [hc, stH, hl, hs, hk, if_true]
theorem er_il {k n : Nat} {sl : List Nat} {i : Int32} (hc : cdT mi pc = some (3, .iaload, nx, r1, r2, r3, w)) (hl : layAt k = (1, n, sl)) (hi : vp_in i n) (K : EvR d mi nx lc (.int (h.1 k i.toNatClampNeg) :: st) h v h') : EvR d mi pc lc (.int i :: .ref k :: st) h v h' := by
  refine er_s (pc' := nx) (lc' := lc) (st' := .int (h.1 k i.toNatClampNeg) :: st) (h2 := h) ?_ K
  unfold stp
  simp only [hc, stH, hl]
  rw [if_neg hi]
theorem er_cl {k n : Nat} {sl : List Nat} {i : Int32} (hc : cdT mi pc = some (3, .caload, nx, r1, r2, r3, w)) (hl : layAt k = (2, n, sl)) (hi : vp_in i n) (K : EvR d mi nx lc (.int (h.1 k i.toNatClampNeg) :: st) h v h') : EvR d mi pc lc (.int i :: .ref k :: st) h v h' := by
  refine er_s (pc' := nx) (lc' := lc) (st' := .int (h.1 k i.toNatClampNeg) :: st) (h2 := h) ?_ K
  unfold stp
  simp only [hc, stH, hl]
  rw [if_neg hi]
theorem er_fl {k n : Nat} {sl : List Nat} {i : Int32} (hc : cdT mi pc = some (3, .faload, nx, r1, r2, r3, w)) (hl : layAt k = (4, n, sl)) (hi : vp_in i n) (K : EvR d mi nx lc (.float (h.2.1 k i.toNatClampNeg) :: st) h v h') : EvR d mi pc lc (.int i :: .ref k :: st) h v h' := by
  refine er_s (pc' := nx) (lc' := lc) (st' := .float (h.2.1 k i.toNatClampNeg) :: st) (h2 := h) ?_ K
  unfold stp
  simp only [hc, stH, hl]
  rw [if_neg hi]
theorem er_is {k n : Nat} {sl : List Nat} {i x : Int32} (hc : cdT mi pc = some (3, .iastore, nx, r1, r2, r3, w)) (hl : layAt k = (1, n, sl)) (hi : vp_in i n) (K : EvR d mi nx lc st (hI h k i.toNatClampNeg x) v h') : EvR d mi pc lc (.int x :: .int i :: .ref k :: st) h v h' := by
  refine er_s (pc' := nx) (lc' := lc) (st' := st) (h2 := hI h k i.toNatClampNeg x) ?_ K
  unfold stp
  simp only [hc, stH, hl]
  rw [if_neg hi]
theorem er_cs {k n : Nat} {sl : List Nat} {i x : Int32} (hc : cdT mi pc = some (3, .castore, nx, r1, r2, r3, w)) (hl : layAt k = (2, n, sl)) (hi : vp_in i n) (hk : kOk 2 x = true) (K : EvR d mi nx lc st (hI h k i.toNatClampNeg x) v h') : EvR d mi pc lc (.int x :: .int i :: .ref k :: st) h v h' := by
  refine er_s (pc' := nx) (lc' := lc) (st' := st) (h2 := hI h k i.toNatClampNeg x) ?_ K
  unfold stp
  simp only [hc, stH, hl]
  rw [if_neg hi]
  simp only [hk, if_true]
theorem er_fs {k n : Nat} {sl : List Nat} {i : Int32} {x : UInt32} (hc : cdT mi pc = some (3, .fastore, nx, r1, r2, r3, w)) (hl : layAt k = (4, n, sl)) (hi : vp_in i n) (K : EvR d mi nx lc st (hF h k i.toNatClampNeg x) v h') : EvR d mi pc lc (.float x :: .int i :: .ref k :: st) h v h' := by
  refine er_s (pc' := nx) (lc' := lc) (st' := st) (h2 := hF h k i.toNatClampNeg x) ?_ K
  unfold stp
  simp only [hc, stH, hl]
  rw [if_neg hi]
/-- a float's operation that makes no NaN -/
abbrev nn (r : UInt32) : Prop := r &&& 0x7fffffff ≤ 0x7f800000
theorem er_fmul {x y : UInt32} (hc : cdT mi pc = some (0, .fmul, nx, r1, r2, r3, w)) (hn : nn (FP.fmul x y)) (K : EvR d mi nx lc (.float (FP.fmul x y) :: st) h v h') : EvR d mi pc lc (.float y :: .float x :: st) h v h' := by
  refine er_s (pc' := nx) (lc' := lc) (st' := .float (FP.fmul x y) :: st) (h2 := h) ?_ K
  unfold stp
  simp only [hc, stA]
  rw [if_pos hn]
theorem er_fadd {x y : UInt32} (hc : cdT mi pc = some (0, .fadd, nx, r1, r2, r3, w)) (hn : nn (FP.fadd x y)) (K : EvR d mi nx lc (.float (FP.fadd x y) :: st) h v h') : EvR d mi pc lc (.float y :: .float x :: st) h v h' := by
  refine er_s (pc' := nx) (lc' := lc) (st' := .float (FP.fadd x y) :: st) (h2 := h) ?_ K
  unfold stp
  simp only [hc, stA]
  rw [if_pos hn]
theorem er_fsub {x y : UInt32} (hc : cdT mi pc = some (0, .fsub, nx, r1, r2, r3, w)) (hn : nn (FP.fsub x y)) (K : EvR d mi nx lc (.float (FP.fsub x y) :: st) h v h') : EvR d mi pc lc (.float y :: .float x :: st) h v h' := by
  refine er_s (pc' := nx) (lc' := lc) (st' := .float (FP.fsub x y) :: st) (h2 := h) ?_ K
  unfold stp
  simp only [hc, stA]
  rw [if_pos hn]
theorem er_fdiv {x y : UInt32} (hc : cdT mi pc = some (0, .fdiv, nx, r1, r2, r3, w)) (hn : nn (FP.fdiv x y)) (K : EvR d mi nx lc (.float (FP.fdiv x y) :: st) h v h') : EvR d mi pc lc (.float y :: .float x :: st) h v h' := by
  refine er_s (pc' := nx) (lc' := lc) (st' := .float (FP.fdiv x y) :: st) (h2 := h) ?_ K
  unfold stp
  simp only [hc, stA]
  rw [if_pos hn]
theorem er_q {v0 : Option Value} (hr : retv mi pc st = some v0) (he : v0 = v) (hh : h = h') : EvR d mi pc lc st h v h' := he ▸ hh ▸ er_r hr
theorem er_cast {v0 : Option Value} {h0 : AH} (K : EvR d mi pc lc st h v0 h0) (hv : v0 = v) (hh : h0 = h') : EvR d mi pc lc st h v h' := hv ▸ hh ▸ K
theorem er_sw {x : Int32} {tgt : Nat} {rest : List Value} (hc : cdT mi pc = some (6, ins, nx, r1, r2, r3, w)) (ht : swt (cSw mi pc) x = tgt) (K : EvR d mi tgt lc rest h v h') : EvR d mi pc lc (.int x :: rest) h v h' := by
  refine er_s (pc' := tgt) (lc' := lc) (st' := rest) (h2 := h) ?_ K
  unfold stp
  simp only [hc, ht]
theorem er_v {b mj na ci : Nat} {sl : List Nat} {as rest : List Value} {rv : Option Value} (hc : cdT mi pc = some (4, ins, nx, mj, na, 0, w)) (hl : layAt b = (0, ci, sl)) (hk : kOf (cO mj) = ci) (hna : as.length = na) (h8 : (rest.map fun v => v.category).sum ≤ 8 ∧ ((Value.ref b :: as.reverse).map fun v => v.category).sum ≤ cM mj)
    (hM : EvM d mj (.ref b :: as.reverse) h rv h2) (K : EvR (d + 1) mi nx lc (rv.toList ++ rest) h2 v h') : EvR (d + 1) mi pc lc (as ++ .ref b :: rest) h v h' := by
  refine er_c hc ?_ h8 hM K
  unfold cArgs
  subst hna
  rw [if_pos (by simp)]
  have e1 : (as ++ Value.ref b :: rest).drop as.length = .ref b :: rest := by simp
  have e2 : (as ++ Value.ref b :: rest).take as.length = as := by simp
  simp only [e1, e2, hl]
  rw [if_pos hk.symm]
theorem er_v0 {b mj ci : Nat} {sl : List Nat} {rest : List Value} {rv : Option Value} (hc : cdT mi pc = some (4, ins, nx, mj, 0, 0, w)) (hl : layAt b = (0, ci, sl)) (hk : kOf (cO mj) = ci) (h8 : (rest.map fun v => v.category).sum ≤ 8 ∧ ([Value.ref b].map fun v => v.category).sum ≤ cM mj)
    (hM : EvM d mj [.ref b] h rv h2) (K : EvR (d + 1) mi nx lc (rv.toList ++ rest) h2 v h') : EvR (d + 1) mi pc lc (.ref b :: rest) h v h' := er_v (as := []) hc hl hk rfl h8 hM K
theorem er_v1 {b mj ci : Nat} {sl : List Nat} {rest : List Value} {rv : Option Value} {a1 : Value} (hc : cdT mi pc = some (4, ins, nx, mj, 1, 0, w)) (hl : layAt b = (0, ci, sl)) (hk : kOf (cO mj) = ci) (h8 : (rest.map fun v => v.category).sum ≤ 8 ∧ ([Value.ref b, a1].map fun v => v.category).sum ≤ cM mj)
    (hM : EvM d mj [.ref b, a1] h rv h2) (K : EvR (d + 1) mi nx lc (rv.toList ++ rest) h2 v h') : EvR (d + 1) mi pc lc (a1 :: .ref b :: rest) h v h' := er_v (as := [a1]) hc hl hk rfl h8 hM K
theorem er_v2 {b mj ci : Nat} {sl : List Nat} {rest : List Value} {rv : Option Value} {a1 a2 : Value} (hc : cdT mi pc = some (4, ins, nx, mj, 2, 0, w)) (hl : layAt b = (0, ci, sl)) (hk : kOf (cO mj) = ci) (h8 : (rest.map fun v => v.category).sum ≤ 8 ∧ ([Value.ref b, a1, a2].map fun v => v.category).sum ≤ cM mj)
    (hM : EvM d mj [.ref b, a1, a2] h rv h2) (K : EvR (d + 1) mi nx lc (rv.toList ++ rest) h2 v h') : EvR (d + 1) mi pc lc (a2 :: a1 :: .ref b :: rest) h v h' := er_v (as := [a2, a1]) hc hl hk rfl h8 hM K
theorem er_v3 {b mj ci : Nat} {sl : List Nat} {rest : List Value} {rv : Option Value} {a1 a2 a3 : Value} (hc : cdT mi pc = some (4, ins, nx, mj, 3, 0, w)) (hl : layAt b = (0, ci, sl)) (hk : kOf (cO mj) = ci) (h8 : (rest.map fun v => v.category).sum ≤ 8 ∧ ([Value.ref b, a1, a2, a3].map fun v => v.category).sum ≤ cM mj)
    (hM : EvM d mj [.ref b, a1, a2, a3] h rv h2) (K : EvR (d + 1) mi nx lc (rv.toList ++ rest) h2 v h') : EvR (d + 1) mi pc lc (a3 :: a2 :: a1 :: .ref b :: rest) h v h' := er_v (as := [a3, a2, a1]) hc hl hk rfl h8 hM K
theorem er_v4 {b mj ci : Nat} {sl : List Nat} {rest : List Value} {rv : Option Value} {a1 a2 a3 a4 : Value} (hc : cdT mi pc = some (4, ins, nx, mj, 4, 0, w)) (hl : layAt b = (0, ci, sl)) (hk : kOf (cO mj) = ci) (h8 : (rest.map fun v => v.category).sum ≤ 8 ∧ ([Value.ref b, a1, a2, a3, a4].map fun v => v.category).sum ≤ cM mj)
    (hM : EvM d mj [.ref b, a1, a2, a3, a4] h rv h2) (K : EvR (d + 1) mi nx lc (rv.toList ++ rest) h2 v h') : EvR (d + 1) mi pc lc (a4 :: a3 :: a2 :: a1 :: .ref b :: rest) h v h' := er_v (as := [a4, a3, a2, a1]) hc hl hk rfl h8 hM K
theorem er_v5 {b mj ci : Nat} {sl : List Nat} {rest : List Value} {rv : Option Value} {a1 a2 a3 a4 a5 : Value} (hc : cdT mi pc = some (4, ins, nx, mj, 5, 0, w)) (hl : layAt b = (0, ci, sl)) (hk : kOf (cO mj) = ci) (h8 : (rest.map fun v => v.category).sum ≤ 8 ∧ ([Value.ref b, a1, a2, a3, a4, a5].map fun v => v.category).sum ≤ cM mj)
    (hM : EvM d mj [.ref b, a1, a2, a3, a4, a5] h rv h2) (K : EvR (d + 1) mi nx lc (rv.toList ++ rest) h2 v h') : EvR (d + 1) mi pc lc (a5 :: a4 :: a3 :: a2 :: a1 :: .ref b :: rest) h v h' := er_v (as := [a5, a4, a3, a2, a1]) hc hl hk rfl h8 hM K
theorem ret_bK {mj pc : Nat} {x : Int32} {z : Nat × Nat × Nat × Nat × Value} (hc : cdT mj pc = some (9, .ireturn, z)) (hr : kOk (rKind (cR mj)) x = true) : retv mj pc [.int x] = some (some (.int x)) := by
  unfold retv
  rw [hc]
  simp only [hr, if_true]
/-- fewer locals known: what runs with them runs with more -/
def SubM (lc lc2 : LC) : Prop := ∀ q ∈ lc, lget lc2 q.1 = some q.2
theorem lget_mem {lc : LC} {i : Nat} {v : Value} (h : lget lc i = some v) : (i, v) ∈ lc := by
  unfold lget at h
  cases hf : lc.find? (fun q => q.1 == i) with
  | none => rw [hf] at h; cases h
  | some q =>
    rw [hf] at h
    have e1 : q.2 = v := Option.some.inj h
    have hi : q.1 = i := by simpa using List.find?_some hf
    have hm : q ∈ lc := List.mem_of_find?_eq_some hf
    rw [← e1, ← hi]
    exact hm
theorem SubM.get {lc lc2 : LC} (h : SubM lc lc2) {i : Nat} {v : Value} (hg : lget lc i = some v) : lget lc2 i = some v := h (i, v) (lget_mem hg)
theorem lget_filter {lc : LC} {i : Nat} {v : Value} {P : Nat × Value → Bool} (hg : lget lc i = some v) (hP : P (i, v) = true) : lget (lc.filter P) i = some v := by
  induction lc with
  | nil => cases hg
  | cons q t ih =>
    unfold lget at hg ih ⊢
    rw [List.find?_cons] at hg
    by_cases hq : (q.1 == i) = true
    · rw [hq] at hg
      have e1 : q.2 = v := Option.some.inj hg
      have hi : q.1 = i := by simpa using hq
      have e2 : q = (i, v) := by rw [← e1, ← hi]
      rw [List.filter_cons, e2, if_pos hP, List.find?_cons]
      simp
    · have hq2 : (q.1 == i) = false := by simpa using hq
      rw [hq2] at hg
      rw [List.filter_cons]
      split
      · rw [List.find?_cons, hq2]
        exact ih hg
      · exact ih hg
theorem SubM.set1 {lc lc2 : LC} (h : SubM lc lc2) (i : Nat) (v : Value) : SubM (lset1 lc i v) (lset1 lc2 i v) := by
  intro q hq
  unfold lset1 at hq ⊢
  rcases List.mem_cons.mp hq with e | hm
  · subst e
    simp [lget]
  · obtain ⟨h1, h2⟩ := List.mem_filter.mp hm
    have h3 : (q.1 == i) = false := by
      simp only [Bool.and_eq_true, Bool.not_eq_true'] at h2
      exact h2.1
    have h4 := lget_filter (P := fun q => !(q.1 == i) && !(q.1 + 1 == i && q.2.category == 2)) (h q h1) h2
    unfold lget at h4 ⊢
    rw [List.find?_cons]
    have h5 : (i == q.1) = false := by
      have : ¬ q.1 = i := by simpa using h3
      simpa using fun z => this z.symm
    simp only [h5]
    exact h4
theorem SubM.set2 {lc lc2 : LC} (h : SubM lc lc2) (i : Nat) (v : Value) : SubM (lset2 lc i v) (lset2 lc2 i v) := by
  intro q hq
  unfold lset2 at hq ⊢
  rcases List.mem_cons.mp hq with e | hm
  · subst e
    simp [lget]
  · obtain ⟨h1, h2⟩ := List.mem_filter.mp hm
    have h3 : (q.1 == i) = false := by
      simp only [Bool.and_eq_true, Bool.not_eq_true'] at h2
      exact h2.1
    have h4 := lget_filter (P := fun q => !(q.1 == i) && (!(q.1 == i + 1) && !(q.1 + 1 == i && q.2.category == 2))) (h q h1) h2
    unfold lget at h4 ⊢
    rw [List.find?_cons]
    have h5 : (i == q.1) = false := by
      have : ¬ q.1 = i := by simpa using h3
      simpa using fun z => this z.symm
    simp only [h5]
    exact h4
theorem stL_sub {ins : Instr} {v : Value} {lc lc2 lc' : LC} {st st' : List Value} (h : SubM lc lc2) (hs : stL ins v lc st = some (lc', st')) : ∃ lc9, stL ins v lc2 st = some (lc9, st') ∧ SubM lc' lc9 := by
  cases ins <;> simp only [stL, reduceCtorEq] at hs ⊢
  all_goals (first
    | (split at hs
       · next hg =>
         cases hs
         exact ⟨lc2, by rw [h.get hg], h⟩
       · cases hs)
    | (split at hs
       · cases hs
         exact ⟨_, rfl, h.set1 _ _⟩
       · cases hs)
    | (split at hs
       · cases hs
         exact ⟨_, rfl, h.set2 _ _⟩
       · cases hs)
    | (split at hs
       · split at hs
         · next hg =>
           cases hs
           exact ⟨_, by rw [h.get hg], h.set1 _ _⟩
         · cases hs
       · cases hs))
theorem run_sub : ∀ (n d mi pc : Nat) (lc lc2 : LC) (st : List Value) (h : AH) (c : Cf), SubM lc lc2 → run n d mi pc lc st h = some c → ∃ lc9, run n d mi pc lc2 st h = some (c.1, lc9, c.2.2)
  | 0, _, _, _, _, _, _, _, _, _, hr => by cases hr
  | n + 1, d, mi, pc, lc, lc2, st, h, c, hs, hr => by
    unfold run at hr ⊢
    split at hr
    · cases hr
    · next ins nx r1 r2 r3 v hcd =>
      try simp only [hcd]
      split at hr
      · next q hq => exact run_sub n _ _ _ _ _ _ _ _ hs hr
      · cases hr
    · next ins nx mj na kd v hcd =>
      try simp only [hcd]
      split at hr
      · cases hr
      · next d' =>
        split at hr
        · cases hr
        · next q hq =>
          split at hr
          · next h8 =>
            try rw [if_pos h8]
            split at hr
            · cases hr
            · next c2 hc2 =>
              split at hr
              · cases hr
              · next rv hrv => exact run_sub n _ _ _ _ _ _ _ _ hs hr
          · cases hr
    · next hcd =>
      cases hr
      exact ⟨lc2, rfl⟩
    · next hcd =>
      cases hr
      exact ⟨lc2, rfl⟩
    · next en hn2 hn4 hn7 hn9 hcd =>
      split at hr
      · cases hr
      · next c2 hc2 =>
        unfold stp at hc2
        rw [hcd] at hc2
        have key : ∃ lc9, stp mi pc lc2 st h = some (c2.1, lc9, c2.2.2) ∧ SubM c2.2.1 lc9 := by
          unfold stp
          rw [hcd]
          split at hc2
          · next ins nx r1 r2 r3 v he =>
            cases he
            split at hc2
            · next st' hst => cases hc2; exact ⟨lc2, by simp only [hst], hs⟩
            · cases hc2
          · next ins nx r1 r2 r3 v he =>
            cases he
            split at hc2
            · next lc' st' hst =>
              cases hc2
              obtain ⟨lc9, e1, e2⟩ := stL_sub hs hst
              exact ⟨lc9, by simp only [e1], e2⟩
            · cases hc2
          · next ins nx r1 r2 r3 v he =>
            cases he
            split at hc2
            · next st' h' hst => cases hc2; exact ⟨lc2, by simp only [hst], hs⟩
            · cases hc2
          · next ins nx r1 r2 r3 v he =>
            cases he
            split at hc2
            · next h8 =>
              split at hc2
              · next st' h' hst => cases hc2; exact ⟨lc2, by simp only [h8, hst, if_true], hs⟩
              · cases hc2
            · cases hc2
          · next ins nx r1 r2 r3 v he =>
            cases he
            split at hc2
            · cases hc2; exact ⟨lc2, rfl, hs⟩
            · cases hc2
          · cases hc2
        obtain ⟨lc9, e1, e2⟩ := key
        simp only [e1]
        exact run_sub n _ _ _ _ _ _ _ _ e2 hr
theorem er_sub (hs : SubM lc' lc) (K : EvR d mi pc lc' st h v h') : EvR d mi pc lc st h v h' := by
  obtain ⟨n, pc9, lc9, st9, h1, h3⟩ := K
  obtain ⟨lc8, h4⟩ := run_sub _ _ _ _ _ _ _ _ _ hs h1
  exact ⟨n, pc9, lc8, st9, h4, h3⟩
theorem SubM.nil {lc2 : LC} : SubM [] lc2 := fun q h => absurd h List.not_mem_nil
theorem SubM.cons {lc lc2 : LC} {i : Nat} {v : Value} (h1 : lget lc2 i = some v) (h2 : SubM lc lc2) : SubM ((i, v) :: lc) lc2 := fun q h => by
  rcases List.mem_cons.mp h with e | e
  · rw [e]; exact h1
  · exact h2 q e
theorem sub1 {lc2 : LC} {i : Nat} {v : Value} (h1 : lget lc2 i = some v) : SubM [(i, v)] lc2 := .cons h1 .nil
theorem sub2 {lc2 : LC} {i1 i2 : Nat} {v1 v2 : Value} (h1 : lget lc2 i1 = some v1) (h2 : lget lc2 i2 = some v2) : SubM [(i1, v1), (i2, v2)] lc2 := .cons h1 (sub1 h2)
theorem sub3 {lc2 : LC} {i1 i2 i3 : Nat} {v1 v2 v3 : Value} (h1 : lget lc2 i1 = some v1) (h2 : lget lc2 i2 = some v2) (h3 : lget lc2 i3 = some v3) : SubM [(i1, v1), (i2, v2), (i3, v3)] lc2 := .cons h1 (sub2 h2 h3)
theorem sub4 {lc2 : LC} {i1 i2 i3 i4 : Nat} {v1 v2 v3 v4 : Value} (h1 : lget lc2 i1 = some v1) (h2 : lget lc2 i2 = some v2) (h3 : lget lc2 i3 = some v3) (h4 : lget lc2 i4 = some v4) : SubM [(i1, v1), (i2, v2), (i3, v3), (i4, v4)] lc2 := .cons h1 (sub3 h2 h3 h4)
theorem sub5 {lc2 : LC} {i1 i2 i3 i4 i5 : Nat} {v1 v2 v3 v4 v5 : Value} (h1 : lget lc2 i1 = some v1) (h2 : lget lc2 i2 = some v2) (h3 : lget lc2 i3 = some v3) (h4 : lget lc2 i4 = some v4) (h5 : lget lc2 i5 = some v5) : SubM [(i1, v1), (i2, v2), (i3, v3), (i4, v4), (i5, v5)] lc2 := .cons h1 (sub4 h2 h3 h4 h5)
theorem sub6 {lc2 : LC} {i1 i2 i3 i4 i5 i6 : Nat} {v1 v2 v3 v4 v5 v6 : Value} (h1 : lget lc2 i1 = some v1) (h2 : lget lc2 i2 = some v2) (h3 : lget lc2 i3 = some v3) (h4 : lget lc2 i4 = some v4) (h5 : lget lc2 i5 = some v5) (h6 : lget lc2 i6 = some v6) : SubM [(i1, v1), (i2, v2), (i3, v3), (i4, v4), (i5, v5), (i6, v6)] lc2 := .cons h1 (sub5 h2 h3 h4 h5 h6)
theorem sub7 {lc2 : LC} {i1 i2 i3 i4 i5 i6 i7 : Nat} {v1 v2 v3 v4 v5 v6 v7 : Value} (h1 : lget lc2 i1 = some v1) (h2 : lget lc2 i2 = some v2) (h3 : lget lc2 i3 = some v3) (h4 : lget lc2 i4 = some v4) (h5 : lget lc2 i5 = some v5) (h6 : lget lc2 i6 = some v6) (h7 : lget lc2 i7 = some v7) : SubM [(i1, v1), (i2, v2), (i3, v3), (i4, v4), (i5, v5), (i6, v6), (i7, v7)] lc2 := .cons h1 (sub6 h2 h3 h4 h5 h6 h7)
end
