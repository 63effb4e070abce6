noncomputable section
variable {p : Program} {l : Launch} {e : Env} {R : Room} {s : State} {m : MethodId} {args : Array Value} {below : List Frame} {meth : Method} {c : Code} {H H0 : Heap} {locs : List Loc} {cells slots : Nat} {Q : State → Prop} {ls : Array Slot}
def em (ad : Nat → Nat) (v : Value) : Value := match v with | .ref k => .ref (ad k) | v => v
theorem em_cat (ad : Nat → Nat) (v : Value) : (em ad v).category = v.category := by cases v <;> rfl
def lm (ad : Nat → Nat) (lc : LC) : LC := lc.map (fun q => (q.1, em ad q.2))
def wAll : List Cond := lw_tbl.filter goodWord
theorem wA {w : Cond} (h : w ∈ lw_tbl) (g : goodWord w = true) : w ∈ wAll := List.mem_filter.mpr ⟨h, g⟩
theorem lm_get {ad : Nat → Nat} {nL i : Nat} {lc : LC} {v : Value} (h : lv_has ls nL (lm ad lc)) (hg : lget lc i = some v) : ls[i]? = some (.val (em ad v)) := by
  unfold lget at hg
  cases hf : lc.find? (fun q => q.1 == i) with
  | none => rw [hf] at hg; cases hg
  | some q =>
    rw [hf] at hg
    have e1 : q.2 = v := Option.some.inj hg
    have hi : q.1 = i := by simpa using List.find?_some hf
    have hm : q ∈ lc := List.mem_of_find?_eq_some hf
    subst e1; subst hi
    exact h.2.2 (q.1, em ad q.2) (List.mem_map.mpr ⟨q, hm, rfl⟩)
theorem lm_set1 (ad : Nat → Nat) (lc : LC) (i : Nat) (v : Value) : (i, em ad v) :: (lm ad lc).filter (fun q => !(q.1 == i) && !(q.1 + 1 == i && q.2.category == 2)) = lm ad (lset1 lc i v) := by
  unfold lm lset1
  rw [List.map_cons, List.filter_map]
  simp only [Function.comp_def, em_cat]
theorem lm_set2 (ad : Nat → Nat) (lc : LC) (i : Nat) (v : Value) : (i, em ad v) :: (lm ad lc).filter (fun q => !(q.1 == i) && (!(q.1 == i + 1) && !(q.1 + 1 == i && q.2.category == 2))) = lm ad (lset2 lc i v) := by
  unfold lm lset2
  rw [List.map_cons, List.filter_map]
  simp only [Function.comp_def, em_cat]
theorem any2 {α : Type} {l : List α} {f : α → Bool} (h : l.any f = true) : ∃ q, q ∈ l ∧ f q = true := by simpa using h
theorem kP_word {o i : Nat} {v : Value} (h : kP.any (fun q => Nat.beq q.1 o && Nat.beq q.2.1 i && decide (q.2.2.1 = v)) = true) : kW o i v ∈ lw_tbl := by
  obtain ⟨q, hq, hb⟩ := any2 h
  simp only [Bool.and_eq_true, decide_eq_true_eq] at hb
  obtain ⟨⟨h1, h2⟩, h3⟩ := hb
  have h4 := tb_in _ _ (kP_ok q hq)
  rw [Nat.eq_of_beq_eq_true h1, Nat.eq_of_beq_eq_true h2, h3] at h4
  exact h4

set_option maxHeartbeats 4000000 in
theorem sA {ad : Nat → Nat} {mi pc nx r1 r2 r3 : Nat} {ins : Instr} {v : Value} {st st' : List Value} (hx : p.tables.exec = Jvm.exec) (hb : c.code = cB mi) (hown : s.vm.findClass (oN (cO mi)) = some m.cls) (hts : ∀ w ∈ wAll, w.before args s = true)
    (hw : wfE mi pc (0, ins, nx, r1, r2, r3, v) = true) (hs : stA ins v st = some st') (k : W p l e R s m args below meth c H locs cells slots Q (F0 m nx ls (st'.map (em ad)))) : W p l e R s m args below meth c H locs cells slots Q (F0 m pc ls (st.map (em ad))) := by
  have hw9 : (decide (decode (cB mi) pc = .ok (ins, nx - pc)) && Nat.ble pc nx && (Nat.beq nx (pc + lenI ins) && wfA (cO mi) ins v)) = true := hw
  clear hw
  simp only [Bool.and_eq_true, decide_eq_true_eq] at hw9
  obtain ⟨⟨hdg0, -⟩, hnx0, h3⟩ := hw9
  have hnx := Nat.eq_of_beq_eq_true hnx0
  have hdg : decode (cB mi) pc = .ok (ins, lenI ins) := by rw [hdg0, hnx, Nat.add_sub_cancel_left]
  clear hdg0 hnx0
  subst hnx
  cases ins <;> simp only [stA, reduceCtorEq] at hs
  case iconst a =>
    have hv : v = .int (Int32.ofInt a) := of_decide_eq_true h3
    cases hs
    subst hv
    exact lv_iconst hx hb hdg rfl k
  case bipush a =>
    have hv : v = .int ((Int8.ofInt a).toInt32) := of_decide_eq_true h3
    cases hs
    subst hv
    exact lv_bipush hx hb hdg rfl k
  case sipush a =>
    have hv : v = .int ((Int16.ofInt a).toInt32) := of_decide_eq_true h3
    cases hs
    subst hv
    exact lv_sipush hx hb hdg rfl k
  case lconst a =>
    have hv : v = .long (Int64.ofNat (a : Nat)) := of_decide_eq_true h3
    cases hs
    subst hv
    exact lv_lconst hx hb hdg rfl k
  case fconst a =>
    have hv : a = 0 ∧ v = .float FP.fconst0 ∨ a = 1 ∧ v = .float FP.fconst1 ∨ a = 2 ∧ v = .float FP.fconst2 := of_decide_eq_true h3
    cases hs
    rcases hv with ⟨rfl, rfl⟩ | ⟨rfl, rfl⟩ | ⟨rfl, rfl⟩
    · exact lv_fconst0 hx hb hdg k
    · exact lv_fconst1 hx hb hdg k
    · exact lv_fconst2 hx hb hdg k
  case dconst a =>
    have hv : a = 0 ∧ v = .double FP.dconst0 ∨ a = 1 ∧ v = .double FP.dconst1 := of_decide_eq_true h3
    cases hs
    rcases hv with ⟨rfl, rfl⟩ | ⟨rfl, rfl⟩
    · exact lv_dconst0 hx hb hdg k
    · exact lv_dconst1 hx hb hdg k
  case ldc a =>
    simp only [wfA, Bool.and_eq_true] at h3
    obtain ⟨hz, hk0⟩ := h3
    have hk := kP_word hk0
    cases hs
    cases v <;> simp only [reduceCtorEq] at hz
    · exact lv_ldc hx hb hown (hts _ (wA hk rfl)) hdg k
    · exact lv_ldcf hx hb hown (hts _ (wA hk rfl)) hdg k
    all_goals (exact absurd hz (by decide))
  case ldc2_w a =>
    simp only [wfA, Bool.and_eq_true] at h3
    obtain ⟨hz, hk0⟩ := h3
    have hk := kP_word hk0
    cases hs
    cases v <;> simp only [reduceCtorEq] at hz
    · exact lv_ldc2 hx hb hown (hts _ (wA hk rfl)) hdg k
    · exact lv_ldc2d hx hb hown (hts _ (wA hk rfl)) hdg k
    all_goals (exact absurd hz (by decide))
  case iadd =>
    split at hs
    · cases hs
      simp only [List.map_cons, em] at k ⊢
      exact lv_iadd hx hb hdg k
    · cases hs
  case isub =>
    split at hs
    · cases hs
      simp only [List.map_cons, em] at k ⊢
      exact lv_isub hx hb hdg k
    · cases hs
  case imul =>
    split at hs
    · cases hs
      simp only [List.map_cons, em] at k ⊢
      exact lv_imul hx hb hdg k
    · cases hs
  case iand =>
    split at hs
    · cases hs
      simp only [List.map_cons, em] at k ⊢
      exact lv_iand hx hb hdg k
    · cases hs
  case ior =>
    split at hs
    · cases hs
      simp only [List.map_cons, em] at k ⊢
      exact lv_ior hx hb hdg k
    · cases hs
  case ixor =>
    split at hs
    · cases hs
      simp only [List.map_cons, em] at k ⊢
      exact lv_ixor hx hb hdg k
    · cases hs
  case ishl =>
    split at hs
    · cases hs
      simp only [List.map_cons, em] at k ⊢
      exact lv_ishl hx hb hdg k
    · cases hs
  case ishr =>
    split at hs
    · cases hs
      simp only [List.map_cons, em] at k ⊢
      exact lv_ishr hx hb hdg k
    · cases hs
  case ladd =>
    split at hs
    · cases hs
      simp only [List.map_cons, em] at k ⊢
      exact lv_ladd hx hb hdg k
    · cases hs
  case lmul =>
    split at hs
    · cases hs
      simp only [List.map_cons, em] at k ⊢
      exact lv_lmul hx hb hdg k
    · cases hs
  case lor =>
    split at hs
    · cases hs
      simp only [List.map_cons, em] at k ⊢
      exact lv_lor hx hb hdg k
    · cases hs
  case i2f =>
    split at hs
    · cases hs
      simp only [List.map_cons, em] at k ⊢
      exact lv_i2f hx hb hdg k
    · cases hs
  case i2d =>
    split at hs
    · cases hs
      simp only [List.map_cons, em] at k ⊢
      exact lv_i2d hx hb hdg k
    · cases hs
  case f2i =>
    split at hs
    · cases hs
      simp only [List.map_cons, em] at k ⊢
      exact lv_f2i hx hb hdg k
    · cases hs
  case d2l =>
    split at hs
    · cases hs
      simp only [List.map_cons, em] at k ⊢
      exact lv_d2l hx hb hdg k
    · cases hs
  case ineg =>
    split at hs
    · cases hs
      simp only [List.map_cons, em] at k ⊢
      exact lv_ineg hx hb hdg k
    · cases hs
  case lcmp =>
    split at hs
    · cases hs
      simp only [List.map_cons, em] at k ⊢
      exact W.lcmp hx hb hdg k
    · cases hs
  case lshl =>
    split at hs
    · cases hs
      simp only [List.map_cons, em] at k ⊢
      exact lv_lshl hx hb hdg rfl k
    · cases hs
  case i2l =>
    split at hs
    · cases hs
      simp only [List.map_cons, em] at k ⊢
      exact lv_i2l hx hb hdg rfl k
    · cases hs
  case i2c =>
    split at hs
    · cases hs
      simp only [List.map_cons, em] at k ⊢
      exact lv_i2c hx hb hdg rfl k
    · cases hs
  case fcmp op =>
    split at hs
    · cases hs
      simp only [List.map_cons, em] at k ⊢
      exact lv_fcmp hx hb hdg k
    · cases hs
  case dcmp op =>
    split at hs
    · cases hs
      simp only [List.map_cons, em] at k ⊢
      exact lv_dcmp hx hb hdg k
    · cases hs
  case idiv =>
    split at hs
    · split at hs
      · cases hs
      · next hne =>
        cases hs
        simp only [List.map_cons, em] at k ⊢
        exact lv_idiv hx hb hdg hne k
    · cases hs
  case irem =>
    split at hs
    · split at hs
      · cases hs
      · next hne =>
        cases hs
        simp only [List.map_cons, em] at k ⊢
        exact lv_irem hx hb hdg hne k
    · cases hs
  case f2d =>
    split at hs
    · split at hs
      · next hne =>
        cases hs
        simp only [List.map_cons, em] at k ⊢
        exact lv_f2d hx hb hdg hne k
      · cases hs
    · cases hs
  case fadd =>
    split at hs
    · split at hs
      · next hne =>
        cases hs
        simp only [List.map_cons, em] at k ⊢
        exact lv_fadd hx hb hdg hne k
      · cases hs
    · cases hs
  case fsub =>
    split at hs
    · split at hs
      · next hne =>
        cases hs
        simp only [List.map_cons, em] at k ⊢
        exact lv_fsub hx hb hdg hne k
      · cases hs
    · cases hs
  case fmul =>
    split at hs
    · split at hs
      · next hne =>
        cases hs
        simp only [List.map_cons, em] at k ⊢
        exact lv_fmul hx hb hdg hne k
      · cases hs
    · cases hs
  case fdiv =>
    split at hs
    · split at hs
      · next hne =>
        cases hs
        simp only [List.map_cons, em] at k ⊢
        exact lv_fdiv hx hb hdg hne k
      · cases hs
    · cases hs
  case dadd =>
    split at hs
    · split at hs
      · next hne =>
        cases hs
        simp only [List.map_cons, em] at k ⊢
        exact lv_dadd hx hb hdg hne k
      · cases hs
    · cases hs
  case dsub =>
    split at hs
    · split at hs
      · next hne =>
        cases hs
        simp only [List.map_cons, em] at k ⊢
        exact lv_dsub hx hb hdg hne k
      · cases hs
    · cases hs
  case dmul =>
    split at hs
    · split at hs
      · next hne =>
        cases hs
        simp only [List.map_cons, em] at k ⊢
        exact lv_dmul hx hb hdg hne k
      · cases hs
    · cases hs
  case ddiv =>
    split at hs
    · split at hs
      · next hne =>
        cases hs
        simp only [List.map_cons, em] at k ⊢
        exact lv_ddiv hx hb hdg hne k
      · cases hs
    · cases hs
  case dup =>
    split at hs
    · cases hs
      simp only [List.map_cons, em] at k ⊢
      exact lv_dup hx hb hdg rfl k
    · cases hs
      simp only [List.map_cons, em] at k ⊢
      exact lv_dup hx hb hdg rfl k
    · cases hs
  case dup2 =>
    split at hs
    · cases hs
      simp only [List.map_cons, em] at k ⊢
      exact lv_dup2_11 hx hb hdg rfl rfl k
    · cases hs
  case dup_x1 =>
    split at hs
    · cases hs
      simp only [List.map_cons, em] at k ⊢
      exact lv_dup_x1 hx hb hdg rfl rfl k
    · cases hs
  case pop =>
    split at hs
    · cases hs
      simp only [List.map_cons, em] at k ⊢
      exact lv_pop hx hb hdg rfl k
    · cases hs
      simp only [List.map_cons, em] at k ⊢
      exact lv_pop hx hb hdg rfl k
    · cases hs
      simp only [List.map_cons, em] at k ⊢
      exact lv_pop hx hb hdg rfl k
    · cases hs
set_option maxHeartbeats 4000000 in
theorem sL {ad : Nat → Nat} {mi pc nx r1 r2 r3 : Nat} {ins : Instr} {v : Value} {lc : LC} {st : List Value} {q : LC × List Value} (hx : p.tables.exec = Jvm.exec) (hb : c.code = cB mi) (hl : lv_has ls (cM mi) (lm ad lc))
    (hw : wfE mi pc (1, ins, nx, r1, r2, r3, v) = true) (hs : stL ins v lc st = some q) (k : ∀ ls' : Array Slot, lv_has ls' (cM mi) (lm ad q.1) → W p l e R s m args below meth c H locs cells slots Q (F0 m nx ls' (q.2.map (em ad)))) : W p l e R s m args below meth c H locs cells slots Q (F0 m pc ls (st.map (em ad))) := by
  have hw9 : (decide (decode (cB mi) pc = .ok (ins, nx - pc)) && Nat.ble pc nx && (Nat.beq nx (pc + lenI ins) && wfL (cM mi) ins v)) = true := hw
  clear hw
  simp only [Bool.and_eq_true, decide_eq_true_eq] at hw9
  obtain ⟨⟨hdg0, -⟩, hnx0, h3⟩ := hw9
  have hnx := Nat.eq_of_beq_eq_true hnx0
  have hdg : decode (cB mi) pc = .ok (ins, lenI ins) := by rw [hdg0, hnx, Nat.add_sub_cancel_left]
  clear hdg0 hnx0
  subst hnx
  cases ins <;> simp only [stL, reduceCtorEq] at hs
  case iload i =>
    split at hs
    · next hg =>
      cases hs
      exact lv_iload hx hb hdg (lm_get hl hg) (k ls hl)
    · cases hs
  case istore i =>
    split at hs
    · cases hs
      have hn : (i : Nat) < cM mi := of_decide_eq_true h3
      exact lv_istore (lv' := lm ad (lset1 lc i (.int _))) hx hb hdg hl hn (lm_set1 ad lc i (.int _)) (fun ls' h' => k ls' h')
    · cases hs
  case iload_n i =>
    split at hs
    · next hg =>
      cases hs
      exact lv_iload_n hx hb hdg rfl (lm_get hl hg) (k ls hl)
    · cases hs
  case istore_n i =>
    split at hs
    · cases hs
      have hn : (i : Nat) < cM mi := of_decide_eq_true h3
      exact lv_istore_n (lv' := lm ad (lset1 lc i (.int _))) hx hb hdg rfl hl hn (lm_set1 ad lc i (.int _)) (fun ls' h' => k ls' h')
    · cases hs
  case aload i =>
    split at hs
    · next hg =>
      cases hs
      exact lv_aload hx hb hdg (lm_get hl hg) (k ls hl)
    · cases hs
  case astore i =>
    split at hs
    · cases hs
      have hn : (i : Nat) < cM mi := of_decide_eq_true h3
      exact lv_astore (lv' := lm ad (lset1 lc i (.ref _))) hx hb hdg hl hn (lm_set1 ad lc i (.ref _)) (fun ls' h' => k ls' h')
    · cases hs
  case aload_n i =>
    split at hs
    · next hg =>
      cases hs
      exact lv_aload_n hx hb hdg rfl (lm_get hl hg) (k ls hl)
    · cases hs
  case astore_n i =>
    split at hs
    · cases hs
      have hn : (i : Nat) < cM mi := of_decide_eq_true h3
      exact lv_astore_n (lv' := lm ad (lset1 lc i (.ref _))) hx hb hdg rfl hl hn (lm_set1 ad lc i (.ref _)) (fun ls' h' => k ls' h')
    · cases hs
  case fload i =>
    split at hs
    · next hg =>
      cases hs
      exact lv_fload hx hb hdg (lm_get hl hg) (k ls hl)
    · cases hs
  case fstore i =>
    split at hs
    · cases hs
      have hn : (i : Nat) < cM mi := of_decide_eq_true h3
      exact lv_fstore (lv' := lm ad (lset1 lc i (.float _))) hx hb hdg hl hn (lm_set1 ad lc i (.float _)) (fun ls' h' => k ls' h')
    · cases hs
  case fload_n i =>
    split at hs
    · next hg =>
      cases hs
      exact lv_fload_n hx hb hdg rfl (lm_get hl hg) (k ls hl)
    · cases hs
  case fstore_n i =>
    split at hs
    · cases hs
      have hn : (i : Nat) < cM mi := of_decide_eq_true h3
      exact lv_fstore_n (lv' := lm ad (lset1 lc i (.float _))) hx hb hdg rfl hl hn (lm_set1 ad lc i (.float _)) (fun ls' h' => k ls' h')
    · cases hs
  case lload i =>
    split at hs
    · next hg =>
      cases hs
      exact lv_lload hx hb hdg (lm_get hl hg) (k ls hl)
    · cases hs
  case lstore i =>
    split at hs
    · cases hs
      have hn : (i : Nat) + 1 < cM mi := of_decide_eq_true h3
      exact lv_lstore (lv' := lm ad (lset2 lc i (.long _))) hx hb hdg hl hn (lm_set2 ad lc i (.long _)) (fun ls' h' => k ls' h')
    · cases hs
  case lload_n i =>
    split at hs
    · next hg =>
      cases hs
      exact lv_lload_n hx hb hdg rfl (lm_get hl hg) (k ls hl)
    · cases hs
  case lstore_n i =>
    split at hs
    · cases hs
      have hn : (i : Nat) + 1 < cM mi := of_decide_eq_true h3
      exact lv_lstore_n (lv' := lm ad (lset2 lc i (.long _))) hx hb hdg rfl hl hn (lm_set2 ad lc i (.long _)) (fun ls' h' => k ls' h')
    · cases hs
  case dload i =>
    split at hs
    · next hg =>
      cases hs
      exact lv_dload hx hb hdg (lm_get hl hg) (k ls hl)
    · cases hs
  case dstore i =>
    split at hs
    · cases hs
      have hn : (i : Nat) + 1 < cM mi := of_decide_eq_true h3
      exact lv_dstore (lv' := lm ad (lset2 lc i (.double _))) hx hb hdg hl hn (lm_set2 ad lc i (.double _)) (fun ls' h' => k ls' h')
    · cases hs
  case dload_n i =>
    split at hs
    · next hg =>
      cases hs
      exact lv_dload_n hx hb hdg rfl (lm_get hl hg) (k ls hl)
    · cases hs
  case dstore_n i =>
    split at hs
    · cases hs
      have hn : (i : Nat) + 1 < cM mi := of_decide_eq_true h3
      exact lv_dstore_n (lv' := lm ad (lset2 lc i (.double _))) hx hb hdg rfl hl hn (lm_set2 ad lc i (.double _)) (fun ls' h' => k ls' h')
    · cases hs
  case iinc i n =>
    have h3 : i < cM mi ∧ v = .int (Int32.ofInt n) := of_decide_eq_true h3
    obtain ⟨hn, rfl⟩ := h3
    simp only [] at hs
    split at hs
    · next x hg =>
      cases hs
      have hg2 := hg
      unfold lget at hg2
      cases hf : lc.find? (fun q => q.1 == i) with
      | none => rw [hf] at hg2; cases hg2
      | some q =>
        rw [hf] at hg2
        have e1 : q.2 = .int x := Option.some.inj hg2
        have hi : q.1 = i := by simpa using List.find?_some hf
        have hm : q ∈ lc := List.mem_of_find?_eq_some hf
        obtain ⟨kk, hkk⟩ := List.getElem?_of_mem hm
        have hkk2 : (lm ad lc)[kk]? = some (i, .int x) := by
          unfold lm
          rw [List.getElem?_map, hkk]
          show some (q.1, em ad q.2) = _
          rw [e1, hi]
          rfl
        exact lv_iinc (v := x + Int32.ofInt n) (lv' := lm ad (lset1 lc i (.int (x + Int32.ofInt n)))) hx hb hdg hl hkk2 rfl hn (lm_set1 ad lc i (.int _)) (fun ls' h' => k ls' h')
    · cases hs
set_option maxHeartbeats 4000000 in
theorem sB {ad : Nat → Nat} {mi pc nx r1 r2 r3 : Nat} {ins : Instr} {v : Value} {st : List Value} {q : Bool × List Value} (hx : p.tables.exec = Jvm.exec) (hb : c.code = cB mi)
    (hw : wfE mi pc (2, ins, nx, r1, r2, r3, v) = true) (hs : stB ins st = some q) (k : W p l e R s m args below meth c H locs cells slots Q (F0 m (if q.1 = true then r1 else nx) ls (q.2.map (em ad)))) : W p l e R s m args below meth c H locs cells slots Q (F0 m pc ls (st.map (em ad))) := by
  have hw9 : (decide (decode (cB mi) pc = .ok (ins, nx - pc)) && Nat.ble pc nx && (Nat.beq nx (pc + lenI ins) && wfB pc ins r1)) = true := hw
  clear hw
  simp only [Bool.and_eq_true, decide_eq_true_eq] at hw9
  obtain ⟨⟨hdg0, -⟩, hnx0, h3⟩ := hw9
  have hnx := Nat.eq_of_beq_eq_true hnx0
  have hdg : decode (cB mi) pc = .ok (ins, lenI ins) := by rw [hdg0, hnx, Nat.add_sub_cancel_left]
  clear hdg0 hnx0
  subst hnx
  cases ins
  case goto f =>
    cases hs
    exact lv_goto hx hb hdg (of_decide_eq_true h3) k
  case ifnull f =>
    simp only [stB] at hs
    split at hs
    · cases hs
      exact lv_ifnull hx hb hdg k
    · cases hs
  case ifnonnull f =>
    simp only [stB] at hs
    split at hs
    · cases hs
      exact lv_ifnonnull hx hb hdg (of_decide_eq_true h3) k
    · cases hs
  case ifCond cd f =>
    cases cd
    case eq =>
      simp only [stB] at hs
      split at hs
      · cases hs
        refine lv_if_eq hx hb hdg (of_decide_eq_true h3) (fun hc => ?_) (fun hc => ?_)
        · rw [if_pos (by simpa using hc)] at k; exact k
        · rw [if_neg (by simpa using hc)] at k; exact k
      · cases hs
    case ne =>
      simp only [stB] at hs
      split at hs
      · cases hs
        refine lv_if_ne hx hb hdg (of_decide_eq_true h3) (fun hc => ?_) (fun hc => ?_)
        · rw [if_pos (by simpa using hc)] at k; exact k
        · rw [if_neg (by simpa using hc)] at k; exact k
      · cases hs
    case lt =>
      simp only [stB] at hs
      split at hs
      · cases hs
        refine lv_if_lt hx hb hdg (of_decide_eq_true h3) (fun hc => ?_) (fun hc => ?_)
        · rw [if_pos (by simpa using hc)] at k; exact k
        · rw [if_neg (by simpa using hc)] at k; exact k
      · cases hs
    case ge =>
      simp only [stB] at hs
      split at hs
      · cases hs
        refine lv_if_ge hx hb hdg (of_decide_eq_true h3) (fun hc => ?_) (fun hc => ?_)
        · rw [if_pos (by simpa using hc)] at k; exact k
        · rw [if_neg (by simpa using hc)] at k; exact k
      · cases hs
    case gt =>
      simp only [stB] at hs
      split at hs
      · cases hs
        refine lv_if_gt hx hb hdg (of_decide_eq_true h3) (fun hc => ?_) (fun hc => ?_)
        · rw [if_pos (by simpa using hc)] at k; exact k
        · rw [if_neg (by simpa using hc)] at k; exact k
      · cases hs
    case le =>
      simp only [stB] at hs
      split at hs
      · cases hs
        refine lv_if_le hx hb hdg (of_decide_eq_true h3) (fun hc => ?_) (fun hc => ?_)
        · rw [if_pos (by simpa using hc)] at k; exact k
        · rw [if_neg (by simpa using hc)] at k; exact k
      · cases hs
  case if_icmp cd f =>
    cases cd
    case eq =>
      simp only [stB] at hs
      split at hs
      · cases hs
        refine lv_icmp_eq hx hb hdg (of_decide_eq_true h3) (fun hc => ?_) (fun hc => ?_)
        · rw [if_pos (by simpa using hc)] at k; exact k
        · rw [if_neg (by simpa using hc)] at k; exact k
      · cases hs
    case ne =>
      simp only [stB] at hs
      split at hs
      · cases hs
        refine lv_icmp_ne hx hb hdg (of_decide_eq_true h3) (fun hc => ?_) (fun hc => ?_)
        · rw [if_pos (by simpa using hc)] at k; exact k
        · rw [if_neg (by simpa using hc)] at k; exact k
      · cases hs
    case lt =>
      simp only [stB] at hs
      split at hs
      · cases hs
        refine lv_icmp_lt hx hb hdg (of_decide_eq_true h3) (fun hc => ?_) (fun hc => ?_)
        · rw [if_pos (by simpa using hc)] at k; exact k
        · rw [if_neg (by simpa using hc)] at k; exact k
      · cases hs
    case ge =>
      simp only [stB] at hs
      split at hs
      · cases hs
        refine lv_icmp_ge hx hb hdg (of_decide_eq_true h3) (fun hc => ?_) (fun hc => ?_)
        · rw [if_pos (by simpa using hc)] at k; exact k
        · rw [if_neg (by simpa using hc)] at k; exact k
      · cases hs
    case gt =>
      simp only [stB] at hs
      split at hs
      · cases hs
        refine lv_icmp_gt hx hb hdg (of_decide_eq_true h3) (fun hc => ?_) (fun hc => ?_)
        · rw [if_pos (by simpa using hc)] at k; exact k
        · rw [if_neg (by simpa using hc)] at k; exact k
      · cases hs
    case le =>
      simp only [stB] at hs
      split at hs
      · cases hs
        refine lv_icmp_le hx hb hdg (of_decide_eq_true h3) (fun hc => ?_) (fun hc => ?_)
        · rw [if_pos (by simpa using hc)] at k; exact k
        · rw [if_neg (by simpa using hc)] at k; exact k
      · cases hs
  all_goals (simp only [stB, reduceCtorEq] at hs)
end
