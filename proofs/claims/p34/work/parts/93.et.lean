-- needs: 92
noncomputable section
/-- it ends so that P holds; n bounds the calls that may throw -/
def TX (n d mi pc : Nat) (lc : LC) (st : List Value) (h : AH) (P : Out → Prop) : Prop := ∃ o, RT n d mi pc lc st h o ∧ P o
abbrev TM (n d mj : Nat) (av : List Value) (h : AH) (P : Out → Prop) : Prop := TX n d mj 0 (lv_args 0 av) [] h P
variable {n d mi pc pc' nx r1 r2 r3 : Nat} {lc lc' : LC} {st st' : List Value} {h h2 h' : AH} {v : Option Value} {ins : Instr} {w : Value} {P : Out → Prop}
theorem tx_pre {d2 : Nat} (hd : d2 = d) (R : ∀ n1 c, run n1 d2 mi pc' lc' st' h2 = some c → ∃ n2, run n2 d mi pc lc st h = some c) (K : TX n d2 mi pc' lc' st' h2 P) : TX n d mi pc lc st h P := by
  subst hd
  obtain ⟨o, K, p⟩ := K
  refine ⟨o, ?_, p⟩
  cases n with
  | zero => exact absurd K (fun z => z)
  | succ n =>
    obtain ⟨n1, pc1, lc1, st1, h1, hr, hk⟩ := K
    obtain ⟨n2, hr2⟩ := R n1 _ hr
    exact ⟨n2, pc1, lc1, st1, h1, hr2, hk⟩
theorem et_s (hs : stp mi pc lc st h = some (pc', lc', st', h2)) (K : TX n d mi pc' lc' st' h2 P) : TX n d mi pc lc st h P := tx_pre rfl (fun n1 c hr => ⟨n1 + 1, by
  unfold run
  have hs0 := hs
  unfold stp at hs0
  split
  · next hcd => rw [hcd] at hs0; cases hs0
  · next hcd => rw [hcd] at hs0; cases hs0
  · next hcd => rw [hcd] at hs0; cases hs0
  · next hcd => rw [hcd] at hs0; cases hs0
  · next hcd => rw [hcd] at hs0; cases hs0
  · rw [hs]; exact hr⟩) K
theorem et_b {P1 : Prop} {iP : Decidable P1} (hc : cdT mi pc = some (2, ins, nx, r1, r2, r3, w)) (hs : stB ins st = some (@decide P1 iP, st')) (K1 : P1 → TX n d mi r1 lc st' h P) (K2 : ¬ P1 → TX n d mi nx lc st' h P) : TX n d mi pc lc st h P := by
  by_cases hP : P1
  · exact tx_pre rfl (fun n1 c hr => ⟨n1 + 1, by
      unfold run
      simp only [hc, hs, hP, decide_true, if_true]
      exact hr⟩) (K1 hP)
  · exact tx_pre rfl (fun n1 c hr => ⟨n1 + 1, by
      unfold run
      simp only [hc, hs, hP, decide_false, Bool.false_eq_true, if_false]
      exact hr⟩) (K2 hP)
theorem et_g (hc : cdT mi pc = some (2, ins, nx, r1, r2, r3, w)) (hs : stB ins st = some (true, st')) (K1 : TX n d mi r1 lc st' h P) : TX n d mi pc lc st h P := tx_pre rfl (fun n1 c hr => ⟨n1 + 1, by
  unfold run
  simp only [hc, hs, if_true]
  exact hr⟩) K1
theorem et_n (hc : cdT mi pc = some (2, ins, nx, r1, r2, r3, w)) (hs : stB ins st = some (false, st')) (K1 : TX n d mi nx lc st' h P) : TX n d mi pc lc st h P := tx_pre rfl (fun n1 c hr => ⟨n1 + 1, by
  unfold run
  simp only [hc, hs, Bool.false_eq_true, if_false]
  exact hr⟩) K1
theorem et_c {mj na kd : Nat} {av rest : List Value} {rv : Option Value} (hc : cdT mi pc = some (4, ins, nx, mj, na, kd, w)) (ha : cArgs kd na mj st = some (av, rest)) (h8 : (rest.map fun v => v.category).sum ≤ 8 ∧ (av.map fun v => v.category).sum ≤ cM mj)
    (hM : EvM d mj av h rv h2) (K : TX n (d + 1) mi nx lc (rv.toList ++ rest) h2 P) : TX n (d + 1) mi pc lc st h P := by
  obtain ⟨n3, pc1, lc1, st1, a1, a2⟩ := hM
  exact tx_pre rfl (fun n1 c hr => ⟨max n3 n1 + 1, by
    unfold run
    simp only [hc, ha]
    rw [if_pos h8, run_mono a1 (Nat.le_max_left _ _)]
    simp only [a2]
    exact run_mono hr (Nat.le_max_right _ _)⟩) K
theorem et_q (hr : retv mi pc st = some v) (hp : P (.inl (v, h))) : TX (n + 1) d mi pc lc st h P := by
  refine ⟨.inl (v, h), ⟨1, pc, lc, st, h, ?_, Or.inl ⟨v, hr, rfl⟩⟩, hp⟩
  unfold run
  unfold retv at hr
  split at hr
  all_goals first | (next hcd => simp only [hcd]) | cases hr
theorem run7 {z : Instr × Nat × Nat × Nat × Nat × Value} (hc : cdT mi pc = some (7, z)) : run 1 d mi pc lc st h = some (pc, lc, st, h) := by
  unfold run
  simp only [hc]
/-- a throw -/
theorem et_t {z : Instr × Nat × Nat × Nat × Nat × Value} (en : Nat) (hc : cdT mi pc = some (7, z)) (ht : thB mi pc en = true) (h8 : (st.map fun v => v.category).sum ≤ 8) (hp : P (.inr (en, h))) : TX (n + 1) d mi pc lc st h P := ⟨.inr (en, h), ⟨1, pc, lc, st, h, run7 hc, Or.inr (Or.inl ⟨en, ht, h8, rfl⟩)⟩, hp⟩
/-- a call of a method that may throw -/
theorem et_7 {z : Instr × Nat × Nat × Nat × Nat × Value} {mj : Nat} (na : Nat) {i : Nat} {av rest : List Value} {P9 : Out → Prop} (hc : cdT mi pc = some (7, z)) (hw : wfE mi pc (4, .invokevirtual i, pc + 3, mj, na, 0, .null) = true) (ha : cArgs 0 na mj st = some (av, rest)) (h8 : (rest.map fun v => v.category).sum ≤ 8 ∧ (av.map fun v => v.category).sum ≤ cM mj)
    (hM : TM n d mj av h P9) (K1 : ∀ v h2, P9 (.inl (v, h2)) → TX n (d + 1) mi (pc + 3) lc (v.toList ++ rest) h2 P) (K2 : ∀ en h2, P9 (.inr (en, h2)) → P (.inr (en, h2))) : TX (n + 1) (d + 1) mi pc lc st h P := by
  obtain ⟨o1, hM, p9⟩ := hM
  match o1, hM, p9 with
  | .inl (v, h2), hM, p9 =>
    obtain ⟨o, K, p⟩ := K1 v h2 p9
    exact ⟨o, ⟨1, pc, lc, st, h, run7 hc, Or.inr (Or.inr ⟨_, _, mj, na, _, d, (av, rest), .inl (v, h2), rfl, hw, ha, h8.1, h8.2, hM, Or.inl ⟨v, h2, rfl, K⟩⟩)⟩, p⟩
  | .inr (en, h2), hM, p9 => exact ⟨.inr (en, h2), ⟨1, pc, lc, st, h, run7 hc, Or.inr (Or.inr ⟨_, _, mj, na, _, d, (av, rest), .inr (en, h2), rfl, hw, ha, h8.1, h8.2, hM, Or.inr ⟨en, h2, rfl, rfl⟩⟩)⟩, K2 en h2 p9⟩
theorem rt_mono1 : ∀ (n d mi pc : Nat) (lc : LC) (st : List Value) (h : AH) (o : Out), RT n d mi pc lc st h o → RT (n + 1) d mi pc lc st h o
  | 0, _, _, _, _, _, _, _, hr => absurd hr (fun z => z)
  | n + 1, d, mi, pc, lc, st, h, o, hr => by
    obtain ⟨n1, pc1, lc1, st1, h1, hrun, hk⟩ := hr
    refine ⟨n1, pc1, lc1, st1, h1, hrun, ?_⟩
    rcases hk with q | q | ⟨ins, nx, mj, na, w, d', q, o1, e1, e2, e3, e4, e5, hM, hk⟩
    · exact Or.inl q
    · exact Or.inr (Or.inl q)
    · refine Or.inr (Or.inr ⟨ins, nx, mj, na, w, d', q, o1, e1, e2, e3, e4, e5, rt_mono1 n _ _ _ _ _ _ _ hM, ?_⟩)
      rcases hk with ⟨v, h2, e6, hk⟩ | q
      · exact Or.inl ⟨v, h2, e6, rt_mono1 n _ _ _ _ _ _ _ hk⟩
      · exact Or.inr q
theorem TX.up (K : TX n d mi pc lc st h P) : TX (n + 1) d mi pc lc st h P := by
  obtain ⟨o, k, p⟩ := K
  exact ⟨o, rt_mono1 _ _ _ _ _ _ _ _ k, p⟩
theorem TX.mono {P9 : Out → Prop} (K : TX n d mi pc lc st h P9) (hp : ∀ o, P9 o → P o) : TX n d mi pc lc st h P := by
  obtain ⟨o, k, p⟩ := K
  exact ⟨o, k, hp o p⟩
theorem run_sub2 : ∀ (n d mi pc : Nat) (lc lc2 : LC) (st : List Value) (h : AH) (c : Cf), SubM lc lc2 → run n d mi pc lc st h = some c → ∃ lc9, run n d mi pc lc2 st h = some (c.1, lc9, c.2.2) ∧ SubM c.2.1 lc9
  | 0, _, _, _, _, _, _, _, _, _, hr => by cases hr
  | n + 1, d, mi, pc, lc, lc2, st, h, c, hs, hr => by
    unfold run at hr ⊢
    split at hr
    · cases hr
    · next ins nx r1 r2 r3 v hcd =>
      try simp only [hcd]
      split at hr
      · next q hq => exact run_sub2 n _ _ _ _ _ _ _ _ hs hr
      · cases hr
    · next ins nx mj na kd v hcd =>
      try simp only [hcd]
      split at hr
      · cases hr
      · next d' =>
        split at hr
        · cases hr
        · next q hq =>
          split at hr
          · next h8 =>
            try rw [if_pos h8]
            split at hr
            · cases hr
            · next c2 hc2 =>
              split at hr
              · cases hr
              · next rv hrv => exact run_sub2 n _ _ _ _ _ _ _ _ hs hr
          · cases hr
    · next hcd =>
      cases hr
      exact ⟨lc2, rfl, hs⟩
    · next hcd =>
      cases hr
      exact ⟨lc2, rfl, hs⟩
    · next en hn2 hn4 hn7 hn9 hcd =>
      split at hr
      · cases hr
      · next c2 hc2 =>
        unfold stp at hc2
        rw [hcd] at hc2
        have key : ∃ lc9, stp mi pc lc2 st h = some (c2.1, lc9, c2.2.2) ∧ SubM c2.2.1 lc9 := by
          unfold stp
          rw [hcd]
          split at hc2
          · next ins nx r1 r2 r3 v he =>
            cases he
            split at hc2
            · next st' hst => cases hc2; exact ⟨lc2, by simp only [hst], hs⟩
            · cases hc2
          · next ins nx r1 r2 r3 v he =>
            cases he
            split at hc2
            · next lc' st' hst =>
              cases hc2
              obtain ⟨lc9, e1, e2⟩ := stL_sub hs hst
              exact ⟨lc9, by simp only [e1], e2⟩
            · cases hc2
          · next ins nx r1 r2 r3 v he =>
            cases he
            split at hc2
            · next st' h' hst => cases hc2; exact ⟨lc2, by simp only [hst], hs⟩
            · cases hc2
          · next ins nx r1 r2 r3 v he =>
            cases he
            split at hc2
            · next h8 =>
              split at hc2
              · next st' h' hst => cases hc2; exact ⟨lc2, by simp only [h8, hst, if_true], hs⟩
              · cases hc2
            · cases hc2
          · next ins nx r1 r2 r3 v he =>
            cases he
            split at hc2
            · cases hc2; exact ⟨lc2, rfl, hs⟩
            · cases hc2
          · cases hc2
        obtain ⟨lc9, e1, e2⟩ := key
        simp only [e1]
        exact run_sub2 n _ _ _ _ _ _ _ _ e2 hr
theorem et_sub (hs : SubM lc' lc) (K : TX n d mi pc lc' st h P) : TX n d mi pc lc st h P := by
  obtain ⟨o, K, p⟩ := K
  refine ⟨o, ?_, p⟩
  suffices H : ∀ (n : Nat) (pc : Nat) (lc' lc : LC) (st : List Value) (h : AH), SubM lc' lc → RT n d mi pc lc' st h o → RT n d mi pc lc st h o from H n pc lc' lc st h hs K
  intro n
  induction n with
  | zero => intro _ _ _ _ _ _ K; exact absurd K (fun z => z)
  | succ n ih =>
    intro pc lc' lc st h hs K
    obtain ⟨n1, pc1, lc1, st1, h1, hr, hk⟩ := K
    obtain ⟨lc9, hr2, hs2⟩ := run_sub2 _ _ _ _ _ _ _ _ _ hs hr
    refine ⟨n1, pc1, lc9, st1, h1, hr2, ?_⟩
    rcases hk with q | q | ⟨ins, nx, mj, na, w, d', q, o1, e1, e2, e3, e4, e5, hM, hk⟩
    · exact Or.inl q
    · exact Or.inr (Or.inl q)
    · refine Or.inr (Or.inr ⟨ins, nx, mj, na, w, d', q, o1, e1, e2, e3, e4, e5, hM, ?_⟩)
      rcases hk with ⟨v, h2, e6, hk⟩ | q
      · exact Or.inl ⟨v, h2, e6, ih nx lc1 lc9 _ h2 hs2 hk⟩
      · exact Or.inr q
theorem et_f {k ci sv : Nat} {sl : List Nat} {i : Nat} (hc : cdT mi pc = some (3, .getfield i, nx, ci, r2, r3, w)) (hl : layAt k = (0, ci, sl)) (hs : sl[r2]? = some sv) (K : TX n d mi nx lc (fv sv (h.1 k r2) :: st) h P) : TX n d mi pc lc (.ref k :: st) h P := by
  refine et_s (pc' := nx) (lc' := lc) (st' := fv sv (h.1 k r2) :: st) (h2 := h) ?_ K
  unfold stp
  simp only [hc, stH, hl, hs, if_true]
theorem et_p {k ci sv : Nat} {sl : List Nat} {i : Nat} {x : Int32} (hc : cdT mi pc = some (3, .putfield i, nx, ci, r2, r3, w)) (hl : layAt k = (0, ci, sl)) (hs : sl[r2]? = some sv) (hk : kOk sv x = true) (K : TX n d mi nx lc st (hI h k r2 x) P) : TX n d mi pc lc (.int x :: .ref k :: st) h P := by
  refine et_s (pc' := nx) (lc' := lc) (st' := st) (h2 := hI h k r2 x) ?_ K
  unfold stp
  simp only [hc, stH, hl, hs, hk, if_true]
theorem et_sw {x : Int32} {tgt : Nat} {rest : List Value} (hc : cdT mi pc = some (6, ins, nx, r1, r2, r3, w)) (ht : swt (cSw mi pc) x = tgt) (K : TX n d mi tgt lc rest h P) : TX n d mi pc lc (.int x :: rest) h P := by
  refine et_s (pc' := tgt) (lc' := lc) (st' := rest) (h2 := h) ?_ K
  unfold stp
  simp only [hc, ht]
theorem et_v {b mj na ci : Nat} {sl : List Nat} {as rest : List Value} {rv : Option Value} (hc : cdT mi pc = some (4, ins, nx, mj, na, 0, w)) (hl : layAt b = (0, ci, sl)) (hk : kOf (cO mj) = ci) (hna : as.length = na) (h8 : (rest.map fun v => v.category).sum ≤ 8 ∧ ((Value.ref b :: as.reverse).map fun v => v.category).sum ≤ cM mj)
    (hM : EvM d mj (.ref b :: as.reverse) h rv h2) (K : TX n (d + 1) mi nx lc (rv.toList ++ rest) h2 P) : TX n (d + 1) mi pc lc (as ++ .ref b :: rest) h P := by
  refine et_c hc ?_ h8 hM K
  unfold cArgs
  subst hna
  rw [if_pos (by simp)]
  have e1 : (as ++ Value.ref b :: rest).drop as.length = .ref b :: rest := by simp
  have e2 : (as ++ Value.ref b :: rest).take as.length = as := by simp
  simp only [e1, e2, hl]
  rw [if_pos hk.symm]
theorem et_v0 {b mj ci : Nat} {sl : List Nat} {rest : List Value} {rv : Option Value} (hc : cdT mi pc = some (4, ins, nx, mj, 0, 0, w)) (hl : layAt b = (0, ci, sl)) (hk : kOf (cO mj) = ci) (h8 : (rest.map fun v => v.category).sum ≤ 8 ∧ ([Value.ref b].map fun v => v.category).sum ≤ cM mj)
    (hM : EvM d mj [.ref b] h rv h2) (K : TX n (d + 1) mi nx lc (rv.toList ++ rest) h2 P) : TX n (d + 1) mi pc lc (.ref b :: rest) h P := et_v (as := []) hc hl hk rfl h8 hM K
theorem et_v1 {b mj ci : Nat} {sl : List Nat} {rest : List Value} {rv : Option Value} {a1 : Value} (hc : cdT mi pc = some (4, ins, nx, mj, 1, 0, w)) (hl : layAt b = (0, ci, sl)) (hk : kOf (cO mj) = ci) (h8 : (rest.map fun v => v.category).sum ≤ 8 ∧ ([Value.ref b, a1].map fun v => v.category).sum ≤ cM mj)
    (hM : EvM d mj [.ref b, a1] h rv h2) (K : TX n (d + 1) mi nx lc (rv.toList ++ rest) h2 P) : TX n (d + 1) mi pc lc (a1 :: .ref b :: rest) h P := et_v (as := [a1]) hc hl hk rfl h8 hM K
theorem et_v2 {b mj ci : Nat} {sl : List Nat} {rest : List Value} {rv : Option Value} {a1 a2 : Value} (hc : cdT mi pc = some (4, ins, nx, mj, 2, 0, w)) (hl : layAt b = (0, ci, sl)) (hk : kOf (cO mj) = ci) (h8 : (rest.map fun v => v.category).sum ≤ 8 ∧ ([Value.ref b, a1, a2].map fun v => v.category).sum ≤ cM mj)
    (hM : EvM d mj [.ref b, a1, a2] h rv h2) (K : TX n (d + 1) mi nx lc (rv.toList ++ rest) h2 P) : TX n (d + 1) mi pc lc (a2 :: a1 :: .ref b :: rest) h P := et_v (as := [a2, a1]) hc hl hk rfl h8 hM K
theorem et_v3 {b mj ci : Nat} {sl : List Nat} {rest : List Value} {rv : Option Value} {a1 a2 a3 : Value} (hc : cdT mi pc = some (4, ins, nx, mj, 3, 0, w)) (hl : layAt b = (0, ci, sl)) (hk : kOf (cO mj) = ci) (h8 : (rest.map fun v => v.category).sum ≤ 8 ∧ ([Value.ref b, a1, a2, a3].map fun v => v.category).sum ≤ cM mj)
    (hM : EvM d mj [.ref b, a1, a2, a3] h rv h2) (K : TX n (d + 1) mi nx lc (rv.toList ++ rest) h2 P) : TX n (d + 1) mi pc lc (a3 :: a2 :: a1 :: .ref b :: rest) h P := et_v (as := [a3, a2, a1]) hc hl hk rfl h8 hM K
theorem et_v4 {b mj ci : Nat} {sl : List Nat} {rest : List Value} {rv : Option Value} {a1 a2 a3 a4 : Value} (hc : cdT mi pc = some (4, ins, nx, mj, 4, 0, w)) (hl : layAt b = (0, ci, sl)) (hk : kOf (cO mj) = ci) (h8 : (rest.map fun v => v.category).sum ≤ 8 ∧ ([Value.ref b, a1, a2, a3, a4].map fun v => v.category).sum ≤ cM mj)
    (hM : EvM d mj [.ref b, a1, a2, a3, a4] h rv h2) (K : TX n (d + 1) mi nx lc (rv.toList ++ rest) h2 P) : TX n (d + 1) mi pc lc (a4 :: a3 :: a2 :: a1 :: .ref b :: rest) h P := et_v (as := [a4, a3, a2, a1]) hc hl hk rfl h8 hM K
theorem et_v5 {b mj ci : Nat} {sl : List Nat} {rest : List Value} {rv : Option Value} {a1 a2 a3 a4 a5 : Value} (hc : cdT mi pc = some (4, ins, nx, mj, 5, 0, w)) (hl : layAt b = (0, ci, sl)) (hk : kOf (cO mj) = ci) (h8 : (rest.map fun v => v.category).sum ≤ 8 ∧ ([Value.ref b, a1, a2, a3, a4, a5].map fun v => v.category).sum ≤ cM mj)
    (hM : EvM d mj [.ref b, a1, a2, a3, a4, a5] h rv h2) (K : TX n (d + 1) mi nx lc (rv.toList ++ rest) h2 P) : TX n (d + 1) mi pc lc (a5 :: a4 :: a3 :: a2 :: a1 :: .ref b :: rest) h P := et_v (as := [a5, a4, a3, a2, a1]) hc hl hk rfl h8 hM K
theorem et_x0 {b mj ci : Nat} {sl : List Nat} {rest : List Value} {P9 : Option Value → AH → Prop} (hc : cdT mi pc = some (4, ins, nx, mj, 0, 0, w)) (hl : layAt b = (0, ci, sl)) (hk : kOf (cO mj) = ci) (h8 : (rest.map fun v => v.category).sum ≤ 8 ∧ ([Value.ref b].map fun v => v.category).sum ≤ cM mj)
    (hM : WM d mj [Value.ref b] h P9) (K : ∀ rv h2, P9 rv h2 → TX n (d + 1) mi nx lc (rv.toList ++ rest) h2 P) : TX n (d + 1) mi pc lc (.ref b :: rest) h P := by
  obtain ⟨v1, h1, k1, p1⟩ := hM
  exact et_v0 hc hl hk h8 k1 (K _ _ p1)
theorem et_x1 {b mj ci : Nat} {sl : List Nat} {rest : List Value} {a1 : Value} {P9 : Option Value → AH → Prop} (hc : cdT mi pc = some (4, ins, nx, mj, 1, 0, w)) (hl : layAt b = (0, ci, sl)) (hk : kOf (cO mj) = ci) (h8 : (rest.map fun v => v.category).sum ≤ 8 ∧ ([Value.ref b, a1].map fun v => v.category).sum ≤ cM mj)
    (hM : WM d mj [Value.ref b, a1] h P9) (K : ∀ rv h2, P9 rv h2 → TX n (d + 1) mi nx lc (rv.toList ++ rest) h2 P) : TX n (d + 1) mi pc lc (a1 :: .ref b :: rest) h P := by
  obtain ⟨v1, h1, k1, p1⟩ := hM
  exact et_v1 hc hl hk h8 k1 (K _ _ p1)
theorem et_x2 {b mj ci : Nat} {sl : List Nat} {rest : List Value} {a1 a2 : Value} {P9 : Option Value → AH → Prop} (hc : cdT mi pc = some (4, ins, nx, mj, 2, 0, w)) (hl : layAt b = (0, ci, sl)) (hk : kOf (cO mj) = ci) (h8 : (rest.map fun v => v.category).sum ≤ 8 ∧ ([Value.ref b, a1, a2].map fun v => v.category).sum ≤ cM mj)
    (hM : WM d mj [Value.ref b, a1, a2] h P9) (K : ∀ rv h2, P9 rv h2 → TX n (d + 1) mi nx lc (rv.toList ++ rest) h2 P) : TX n (d + 1) mi pc lc (a2 :: a1 :: .ref b :: rest) h P := by
  obtain ⟨v1, h1, k1, p1⟩ := hM
  exact et_v2 hc hl hk h8 k1 (K _ _ p1)
theorem et_x3 {b mj ci : Nat} {sl : List Nat} {rest : List Value} {a1 a2 a3 : Value} {P9 : Option Value → AH → Prop} (hc : cdT mi pc = some (4, ins, nx, mj, 3, 0, w)) (hl : layAt b = (0, ci, sl)) (hk : kOf (cO mj) = ci) (h8 : (rest.map fun v => v.category).sum ≤ 8 ∧ ([Value.ref b, a1, a2, a3].map fun v => v.category).sum ≤ cM mj)
    (hM : WM d mj [Value.ref b, a1, a2, a3] h P9) (K : ∀ rv h2, P9 rv h2 → TX n (d + 1) mi nx lc (rv.toList ++ rest) h2 P) : TX n (d + 1) mi pc lc (a3 :: a2 :: a1 :: .ref b :: rest) h P := by
  obtain ⟨v1, h1, k1, p1⟩ := hM
  exact et_v3 hc hl hk h8 k1 (K _ _ p1)
theorem et_x4 {b mj ci : Nat} {sl : List Nat} {rest : List Value} {a1 a2 a3 a4 : Value} {P9 : Option Value → AH → Prop} (hc : cdT mi pc = some (4, ins, nx, mj, 4, 0, w)) (hl : layAt b = (0, ci, sl)) (hk : kOf (cO mj) = ci) (h8 : (rest.map fun v => v.category).sum ≤ 8 ∧ ([Value.ref b, a1, a2, a3, a4].map fun v => v.category).sum ≤ cM mj)
    (hM : WM d mj [Value.ref b, a1, a2, a3, a4] h P9) (K : ∀ rv h2, P9 rv h2 → TX n (d + 1) mi nx lc (rv.toList ++ rest) h2 P) : TX n (d + 1) mi pc lc (a4 :: a3 :: a2 :: a1 :: .ref b :: rest) h P := by
  obtain ⟨v1, h1, k1, p1⟩ := hM
  exact et_v4 hc hl hk h8 k1 (K _ _ p1)
theorem et_x5 {b mj ci : Nat} {sl : List Nat} {rest : List Value} {a1 a2 a3 a4 a5 : Value} {P9 : Option Value → AH → Prop} (hc : cdT mi pc = some (4, ins, nx, mj, 5, 0, w)) (hl : layAt b = (0, ci, sl)) (hk : kOf (cO mj) = ci) (h8 : (rest.map fun v => v.category).sum ≤ 8 ∧ ([Value.ref b, a1, a2, a3, a4, a5].map fun v => v.category).sum ≤ cM mj)
    (hM : WM d mj [Value.ref b, a1, a2, a3, a4, a5] h P9) (K : ∀ rv h2, P9 rv h2 → TX n (d + 1) mi nx lc (rv.toList ++ rest) h2 P) : TX n (d + 1) mi pc lc (a5 :: a4 :: a3 :: a2 :: a1 :: .ref b :: rest) h P := by
  obtain ⟨v1, h1, k1, p1⟩ := hM
  exact et_v5 hc hl hk h8 k1 (K _ _ p1)
theorem et_xc {mj na kd : Nat} {av rest : List Value} {P9 : Option Value → AH → Prop} (hc : cdT mi pc = some (4, ins, nx, mj, na, kd, w)) (ha : cArgs kd na mj st = some (av, rest)) (h8 : (rest.map fun v => v.category).sum ≤ 8 ∧ (av.map fun v => v.category).sum ≤ cM mj)
    (hM : WM d mj av h P9) (K : ∀ rv h2, P9 rv h2 → TX n (d + 1) mi nx lc (rv.toList ++ rest) h2 P) : TX n (d + 1) mi pc lc st h P := by
  obtain ⟨v1, h1, k1, p1⟩ := hM
  exact et_c hc ha h8 k1 (K _ _ p1)
end
