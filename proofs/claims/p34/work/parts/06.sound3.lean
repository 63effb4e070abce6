noncomputable section
variable {p : Program} {l : Launch} {e : Env} {R : Room} {s : State} {m : MethodId} {args : Array Value} {below : List Frame} {meth : Method} {c : Code} {H H0 : Heap} {locs : List Loc} {cells slots : Nat} {Q : State → Prop} {ls : Array Slot} {D : va_G} {ca : Nat → ClassId} {ad : Nat → Nat} {base : Nat → Prop}
theorem em_cats (ad : Nat → Nat) (st : List Value) : ((st.map (em ad)).map fun v => v.category).sum = (st.map fun v => v.category).sum := by
  rw [List.map_map]
  congr 1
  apply List.map_congr_left
  intro v _
  exact em_cat ad v
theorem cat_le2 (v : Value) : v.category ≤ 2 := by cases v <;> simp [Value.category]
theorem pP_word {o i r3 : Nat} (h : pP.any (fun q => Nat.beq q.1 o && Nat.beq q.2.1 i && Nat.beq q.2.2.1 r3) = true) : Cond.methodLink (oN o) i (pW r3) ∈ lw_tbl := by
  obtain ⟨q, hq, hb⟩ := any2 h
  simp only [Bool.and_eq_true] at hb
  obtain ⟨⟨h1, h2⟩, h3⟩ := hb
  have h5 := tb_in _ _ (pP_ok q hq)
  rw [Nat.eq_of_beq_eq_true h1, Nat.eq_of_beq_eq_true h2, Nat.eq_of_beq_eq_true h3] at h5
  exact h5
theorem w_maxS : Cond.static Lib.Math.max.name ∈ lw_tbl := tb_in 3 94 (by decide +kernel)
theorem w_minS : Cond.static Lib.Math.min.name ∈ lw_tbl := tb_in 2 68 (by decide +kernel)
theorem w_mathI : Cond.initialized "java/lang/Math" ∈ lw_tbl := tb_in 1 18 (by decide +kernel)
theorem w_maxC : Cond.code Lib.Math.max.name Lib.Math.max.code 2 (some .int) ∈ lw_tbl := tb_in 3 95 rfl
theorem w_minC : Cond.code Lib.Math.min.name Lib.Math.min.code 2 (some .int) ∈ lw_tbl := tb_in 2 69 rfl
theorem w_cpS : Cond.static arraycopyName ∈ lw_tbl := tb_in 2 71 (by decide +kernel)
theorem w_cpN : Cond.native arraycopyName ∈ lw_tbl := tb_in 2 72 (by decide +kernel)
theorem w_cpI : Cond.initialized "java/lang/System" ∈ lw_tbl := tb_in 1 19 (by decide +kernel)
theorem w_fS : Cond.static ⟨"java/lang/Float", "intBitsToFloat", "(I)F"⟩ ∈ lw_tbl := tb_in 5 179 (by decide +kernel)
theorem w_fN : Cond.native ⟨"java/lang/Float", "intBitsToFloat", "(I)F"⟩ ∈ lw_tbl := tb_in 5 180 (by decide +kernel)
theorem w_fI : Cond.initialized "java/lang/Float" ∈ lw_tbl := tb_in 1 29 (by decide +kernel)
theorem w_dS : Cond.static ⟨"java/lang/Double", "doubleToRawLongBits", "(D)J"⟩ ∈ lw_tbl := tb_in 6 5 (by decide +kernel)
theorem w_dN : Cond.native ⟨"java/lang/Double", "doubleToRawLongBits", "(D)J"⟩ ∈ lw_tbl := tb_in 6 6 (by decide +kernel)
theorem w_dI : Cond.initialized "java/lang/Double" ∈ lw_tbl := tb_in 1 31 (by decide +kernel)
set_option maxHeartbeats 4000000 in
theorem sPr {mi pc nx r1 r2 r3 : Nat} {ins : Instr} {v : Value} {st : List Value} {h : AH} {q : List Value × AH} (hx : p.tables.exec = Jvm.exec) (hb : c.code = cB mi) (hml : c.maxLocals = ls.size) (hown : s.vm.findClass (oN (cO mi)) = some m.cls) (hts : ∀ w ∈ wAll, w.before args s = true)
    (hK : va_K D vcls (tysOf ca) s) (hA : AdOk base ad) (hP : va_P D vcls (wsOf ca ad h) H) (hS : va_S (fun q : Nat => base q) H0 H locs) (hRf : 1 ≤ R.frames) (hRl : 60 ≤ R.locals) (hc : cells ≤ R.cells) (hsl : slots ≤ R.slots)
    (hw : wfE mi pc (5, ins, nx, r1, r2, r3, v) = true) (h8 : ((st.drop 2).map fun v => v.category).sum ≤ 8) (hs : stP r3 st h = some q)
    (k : ∀ (H1 : Heap) (locs1 : List Loc), va_P D vcls (wsOf ca ad q.2) H1 → va_S (fun q : Nat => base q) H0 H1 locs1 → W p l e R s m args below meth c H1 locs1 cells slots Q (F0 m nx ls (q.1.map (em ad)))) : W p l e R s m args below meth c H locs cells slots Q (F0 m pc ls (st.map (em ad))) := by
  have hw9 : (decide (decode (cB mi) pc = .ok (ins, nx - pc)) && Nat.ble pc nx && (Nat.beq nx (pc + lenI ins) && wfP (cO mi) ins r3)) = true := hw
  clear hw
  simp only [Bool.and_eq_true, decide_eq_true_eq] at hw9
  obtain ⟨⟨hdg0, -⟩, hnx0, h3⟩ := hw9
  have hnx := Nat.eq_of_beq_eq_true hnx0
  have hdg : decode (cB mi) pc = .ok (ins, lenI ins) := by rw [hdg0, hnx, Nat.add_sub_cancel_left]
  clear hdg0 hnx0
  subst hnx
  have hDw := ws_D (ca := ca) hA h
  obtain ⟨i, rfl⟩ : ∃ i, ins = .invokestatic i := by
    cases ins <;> simp only [wfP, reduceCtorEq] at h3
    exact ⟨_, rfl⟩
  have hlk := pP_word h3
  unfold stP at hs
  split at hs
  · split at hs
    · next y x r =>
      cases hs
      have h9 : ((r.map (em ad)).map fun v => v.category).sum ≤ 8 := by rw [em_cats]; exact h8
      exact va_mmax hx hb hml hown (hts _ (wA hlk rfl)) (hts _ (wA w_maxS rfl)) (hts _ (wA w_mathI rfl)) (hts _ (wA w_maxC rfl)) hRf (by omega) hc hsl hdg (k _ _ hP hS)
    · cases hs
  · split at hs
    · next y x r =>
      cases hs
      have h9 : ((r.map (em ad)).map fun v => v.category).sum ≤ 8 := by rw [em_cats]; exact h8
      exact va_mmin hx hb hml hown (hts _ (wA hlk rfl)) (hts _ (wA w_minS rfl)) (hts _ (wA w_mathI rfl)) (hts _ (wA w_minC rfl)) hRf (by omega) hc hsl hdg (k _ _ hP hS)
    · cases hs
  · split at hs
    · next b r =>
      split at hs
      case isFalse => cases hs
      rename_i hv
      cases hs
      have h9 : ((r.map (em ad)).map fun v => v.category).sum ≤ 10 := by
        rw [em_cats]
        cases r with
        | nil => simp
        | cons z r =>
          have h8 : (r.map fun v => v.category).sum ≤ 8 := h8
          have := cat_le2 z
          simp only [List.map_cons, List.sum_cons]
          omega
      exact vn_i2f hx hb hml hown (hts _ (wA hlk rfl)) (hts _ (wA w_fN rfl)) (hts _ (wA w_fS rfl)) (hts _ (wA w_fI rfl)) hv hRf (by omega) hdg (k _ _ hP hS)
    · cases hs
  · split at hs
    · next b r =>
      cases hs
      have h9 : ((r.map (em ad)).map fun v => v.category).sum ≤ 10 := by
        rw [em_cats]
        cases r with
        | nil => simp
        | cons z r =>
          have h8 : (r.map fun v => v.category).sum ≤ 8 := h8
          have := cat_le2 z
          simp only [List.map_cons, List.sum_cons]
          omega
      exact vn_d2l hx hb hml hown (hts _ (wA hlk rfl)) (hts _ (wA w_dN rfl)) (hts _ (wA w_dS rfl)) (hts _ (wA w_dI rfl)) hRf (by omega) hdg (k _ _ hP hS)
    · cases hs
  · split at hs
    · next n dp a sp a0 r =>
      have h9 : ((r.map (em ad)).map fun v => v.category).sum ≤ 8 := by
        rw [em_cats]
        have h8 : (((.ref a :: .int sp :: .ref a0 :: r : List Value)).map fun v => v.category).sum ≤ 8 := h8
        simp only [List.map_cons, List.sum_cons] at h8
        omega
      have hnw : nativeFrameWords "java/lang/System" "arraycopy" 5 ≤ 40 := by decide +kernel
      split at hs
      · cases hs
      · next hneg =>
        have n1 : ¬ sp < 0 := fun q => hneg (Or.inl q)
        have n2 : ¬ dp < 0 := fun q => hneg (Or.inr (Or.inl q))
        have n3 : ¬ n < 0 := fun q => hneg (Or.inr (Or.inr q))
        split at hs
        · next n0 s0 n1' s1 hl0 hl1 =>
          split at hs
          · next hle =>
            cases hs
            obtain ⟨hk0, -⟩ := lay_in hl0 (by omega)
            obtain ⟨hk1, -⟩ := lay_in hl1 (by omega)
            have he0 := ws_at (ca := ca) (ad := ad) hk0 h
            rw [hl0] at he0
            have he1 := ws_at (ca := ca) (ad := ad) hk1 h
            rw [hl1] at he1
            refine va_copyi (ty := .int) hx hb hml hown (hts _ (wA hlk rfl)) (hts _ (wA w_cpN rfl)) (hts _ (wA w_cpS rfl)) (hts _ (wA w_cpI rfl)) hK hP hDw hS (a0 - 31) (a - 31) 0 0 he0 he1 rfl rfl rfl n1 n2 n3 hle.1 hle.2 (fun _ _ => rfl) hRf (by omega) hdg (fun H1 locs1 hP1 _ hS1 => ?_)
            have hu : (hIr h a (va_cpy (h.1 a0) (h.1 a) sp.toNatClampNeg dp.toNatClampNeg n.toNatClampNeg)).1 a = va_cpy (h.1 a0) (h.1 a) sp.toNatClampNeg dp.toNatClampNeg n.toNatClampNeg := by funext j; simp [hIr]
            have hset : (wsOf ca ad h).set (a - 31) (ad a, .inl (ca 1, n1', .inl ((hIr h a (va_cpy (h.1 a0) (h.1 a) sp.toNatClampNeg dp.toNatClampNeg n.toNatClampNeg)).1 a))) = wsOf ca ad (hIr h a (va_cpy (h.1 a0) (h.1 a) sp.toNatClampNeg dp.toNatClampNeg n.toNatClampNeg)) := ws_set hk1 (by rw [hl1]; rfl) (fun b hb => ⟨by funext j; simp [hIr, hb], rfl, rfl, rfl⟩)
            rw [hu] at hset
            rw [hset] at hP1
            exact k _ _ hP1 hS1
          · cases hs
        · next n0 s0 n1' s1 hl0 hl1 =>
          split at hs
          · next hle =>
            cases hs
            obtain ⟨hk0, -⟩ := lay_in hl0 (by omega)
            obtain ⟨hk1, -⟩ := lay_in hl1 (by omega)
            have he0 := ws_at (ca := ca) (ad := ad) hk0 h
            rw [hl0] at he0
            have he1 := ws_at (ca := ca) (ad := ad) hk1 h
            rw [hl1] at he1
            refine va_copyf (ty := .float) hx hb hml hown (hts _ (wA hlk rfl)) (hts _ (wA w_cpN rfl)) (hts _ (wA w_cpS rfl)) (hts _ (wA w_cpI rfl)) hK hP hDw hS (a0 - 31) (a - 31) 2 2 he0 he1 rfl rfl rfl n1 n2 n3 hle.1 hle.2 (fun _ _ => rfl) hRf (by omega) hdg (fun H1 locs1 hP1 _ hS1 => ?_)
            have hu : (hFr h a (va_cpy (h.2.1 a0) (h.2.1 a) sp.toNatClampNeg dp.toNatClampNeg n.toNatClampNeg)).2.1 a = va_cpy (h.2.1 a0) (h.2.1 a) sp.toNatClampNeg dp.toNatClampNeg n.toNatClampNeg := by funext j; simp [hFr]
            have hset : (wsOf ca ad h).set (a - 31) (ad a, .inl (ca 4, n1', .inr (.inr (.inl ((hFr h a (va_cpy (h.2.1 a0) (h.2.1 a) sp.toNatClampNeg dp.toNatClampNeg n.toNatClampNeg)).2.1 a))))) = wsOf ca ad (hFr h a (va_cpy (h.2.1 a0) (h.2.1 a) sp.toNatClampNeg dp.toNatClampNeg n.toNatClampNeg)) := ws_set hk1 (by rw [hl1]; rfl) (fun b hb => ⟨rfl, by funext j; simp [hFr, hb], rfl, rfl⟩)
            rw [hu] at hset
            rw [hset] at hP1
            exact k _ _ hP1 hS1
          · cases hs
        · cases hs
    · cases hs
  · cases hs
theorem lkp_none {d x : Int} : ∀ (l : List (Int × Int)), (∀ a ∈ l, a.1 ≠ x) → Op.lookupswitch.offset l d x = d
  | [], _ => rfl
  | (a, o) :: r, h => by
    rw [Op.lookupswitch.offset_cons, if_neg]
    · exact lkp_none r (fun b hb => h b (List.mem_cons_of_mem _ hb))
    · intro q
      exact h (a, o) List.mem_cons_self q
set_option maxHeartbeats 4000000 in
theorem sS {mi pc nx r1 r2 r3 : Nat} {ins : Instr} {v : Value} {r : List Value} {x : Int32} (hx : p.tables.exec = Jvm.exec) (hb : c.code = cB mi)
    (hw : wfE mi pc (6, ins, nx, r1, r2, r3, v) = true) (k : W p l e R s m args below meth c H locs cells slots Q (F0 m (swt (cSw mi pc) x) ls (r.map (em ad)))) : W p l e R s m args below meth c H locs cells slots Q (F0 m pc ls ((Value.int x :: r).map (em ad))) := by
  have hw9 : (decide (decode (cB mi) pc = .ok (ins, nx - pc)) && Nat.ble pc nx && wfS pc ins (cSw mi pc)) = true := hw
  clear hw
  simp only [Bool.and_eq_true, decide_eq_true_eq] at hw9
  obtain ⟨⟨hdg, -⟩, h3⟩ := hw9
  generalize cSw mi pc = t at h3 k
  obtain ⟨l9, d9⟩ := t
  unfold swt at k
  cases ins <;> simp only [wfS, Bool.and_eq_true, decide_eq_true_eq, reduceCtorEq] at h3
  case tableswitch d lo hi offs =>
    obtain ⟨⟨hd, hall⟩, hcov⟩ := h3
    cases hf : l9.find? (fun e => e.1 == x) with
    | none =>
      rw [hf] at k
      refine lv_tableOut hx hb hdg ?_ hd k
      have hnf : ∀ a ∈ l9, ¬ a.1 = x := by simpa using hf
      rcases Int.lt_or_le x.toInt lo with q1 | q1
      · exact Or.inl q1
      · rcases Int.lt_or_le hi x.toInt with q2 | q2
        · exact Or.inr q2
        · exfalso
          have h4 := List.all_eq_true.mp hcov (x.toInt - lo).toNat (List.mem_range.mpr (by omega))
          obtain ⟨a, ha, hb9⟩ := any2 h4
          have h5 : a.1.toInt = lo + (((x.toInt - lo).toNat : Nat) : Int) := of_decide_eq_true hb9
          exact hnf a ha (Int32.toInt_inj.mp (by omega))
    | some a =>
      rw [hf] at k
      have hm : a ∈ l9 := List.mem_of_find?_eq_some hf
      have ha : a.1 = x := by simpa using List.find?_some hf
      have h4 := of_decide_eq_true (List.all_eq_true.mp hall a hm)
      rw [ha] at h4
      obtain ⟨h5, h6, h7⟩ := h4
      cases ho : offs[(x.toInt - lo).toNat]? with
      | none => rw [ho] at h7; cases h7
      | some f =>
        rw [ho] at h7
        exact lv_tableIn hx hb hdg (by omega) (by omega) ho (Option.some.inj h7) k
  case lookupswitch d ps =>
    obtain ⟨⟨⟨hd, hsrt⟩, hall⟩, hcov⟩ := h3
    cases hf : l9.find? (fun e => e.1 == x) with
    | none =>
      rw [hf] at k
      have hnf : ∀ a ∈ l9, ¬ a.1 = x := by simpa using hf
      refine lv_lookup hx hb hdg hsrt (lkp_none _ (fun a ha hax => ?_)) hd k
      obtain ⟨b, hb1, hb2⟩ := any2 (List.all_eq_true.mp hcov a ha)
      have h5 : b.1.toInt = a.1 := of_decide_eq_true hb2
      exact hnf b hb1 (Int32.toInt_inj.mp (by omega))
    | some a =>
      rw [hf] at k
      have hm : a ∈ l9 := List.mem_of_find?_eq_some hf
      have ha : a.1 = x := by simpa using List.find?_some hf
      have h4 := of_decide_eq_true (List.all_eq_true.mp hall a hm)
      rw [ha] at h4
      exact lv_lookup hx hb hdg hsrt rfl h4 k
theorem rk_fit {rt : Option FieldType} {x : Int32} (h : kOk (rKind rt) x = true) : ∃ ty, rt = some ty ∧ narrow ty (.int x) = .int x := by
  cases rt with
  | none => exact absurd h (by simp [rKind, kOk])
  | some ty =>
    cases ty with
    | int => exact ⟨_, rfl, rfl⟩
    | boolean => exact ⟨_, rfl, (zk_fit h).1⟩
    | char => exact ⟨_, rfl, (ck_fit h).1⟩
    | _ => exact absurd h (by simp [rKind, kOk])
set_option maxHeartbeats 4000000 in
theorem sR {mj pc : Nat} {st : List Value} {v : Option Value} {Qc : Array Value → State → Outcome → State → Prop} {free : Addr → Prop} (hL : ¬ mj = mL_law) (hrv : retv mj pc st = some v) (hx : p.tables.exec = Jvm.exec) (hb : c.code = cB mj) (hr : meth.sig.returnType = cR mj) (hlocks : meth.locks = false)
    (hq : ∀ t : State, t.heap = H → s.WarmedH t.vm → Qc args s (.returned (v.map (em ad))) t) (hf : ∀ q ∈ locs, free q.base) : W p l e R s m args below meth c H locs cells slots (MQ below Qc args s cells slots free) (F0 m pc ls (st.map (em ad))) := by
  unfold retv at hrv
  have wf9 : ∀ (ins : Instr) (z : Nat × Nat × Nat × Nat × Value), cdT mj pc = some (9, ins, z) → decode (cB mj) pc = .ok (ins, 1) ∧ wfR ins (cR mj) = true := by
    intro ins z hcd
    obtain ⟨nx, r1, r2, r3, vv⟩ := z
    have hw := (cdT_wf hL hcd).1
    have hw9 : (decide (decode (cB mj) pc = .ok (ins, nx - pc)) && Nat.ble pc nx && (Nat.beq nx (pc + 1) && wfR ins (cR mj))) = true := hw
    simp only [Bool.and_eq_true, decide_eq_true_eq] at hw9
    obtain ⟨⟨hdg, -⟩, hnx0, h3⟩ := hw9
    have hnx := Nat.eq_of_beq_eq_true hnx0
    exact ⟨by rw [hdg, hnx, Nat.add_sub_cancel_left], h3⟩
  split at hrv
  · next z hcd =>
    obtain ⟨hdg, h3⟩ := wf9 _ _ hcd
    split at hrv
    · split at hrv
      · next hok =>
        cases hrv
        obtain ⟨ty, h1, h2⟩ := rk_fit hok
        exact W.zret hx hb (hr.trans h1) h2 hq hf hdg hlocks
      · cases hrv
    · cases hrv
  · next z hcd =>
    obtain ⟨hdg, h3⟩ := wf9 _ _ hcd
    split at hrv
    · cases hrv
      exact W.fret hx hb (hr.trans (of_decide_eq_true h3)) hq hf hdg hlocks
    · cases hrv
  · next z hcd =>
    obtain ⟨hdg, h3⟩ := wf9 _ _ hcd
    split at hrv
    · cases hrv
      exact W.dret hx hb (hr.trans (of_decide_eq_true h3)) hq hf hdg hlocks
    · cases hrv
  · next z hcd =>
    obtain ⟨hdg, h3⟩ := wf9 _ _ hcd
    split at hrv
    · cases hrv
      exact W.lret hx hb (hr.trans (of_decide_eq_true h3)) hq hf hdg hlocks
    · cases hrv
  · next z hcd =>
    obtain ⟨hdg, h3⟩ := wf9 _ _ hcd
    split at hrv
    · cases hrv
      exact W.vret hx hb (hr.trans (of_decide_eq_true h3)) hq hf hdg hlocks
    · cases hrv
  · cases hrv
end
