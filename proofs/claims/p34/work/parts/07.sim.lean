noncomputable section
variable {p : Program} {l : Launch} {e : Env} {R : Room} {s : State} {m : MethodId} {args : Array Value} {below : List Frame} {meth : Method} {c : Code} {H H0 : Heap} {locs : List Loc} {cells slots : Nat} {Q : State → Prop} {ls : Array Slot} {D : va_G} {ca : Nat → ClassId} {ad : Nat → Nat} {base : Nat → Prop}
def PcX (D : va_G) (ca : Nat → ClassId) (ad : Nat → Nat) (av : List Value) (h : AH) : Array Value → State → Prop := va_Pc (av.map (em ad)) (fun U => va_P D vcls (wsOf ca ad h) U.heap ∧ va_K D vcls (tysOf ca) U)
def QcX (D : va_G) (ca : Nat → ClassId) (ad : Nat → Nat) (base : Nat → Prop) (v : Option Value) (h' : AH) : Array Value → State → Outcome → State → Prop := fun _ st o t => (o = .returned (v.map (em ad)) ∧ va_P D vcls (wsOf ca ad h') t.heap) ∧ va_F (fun q : Nat => base q) st t
def wsM (mj : Nat) : List Cond := Cond.code (cY mj) (cB mj) (cM mj) (cR mj) :: wAll
def rmX (d : Nat) : Room := { frames := d + 1, cells := 0, slots := 0, locals := 60 * (d + 1) }
theorem gAll {ws : List Cond} (h : ∀ w ∈ ws, w ∈ wAll) : GoodIn wAll ws := fun w hw => ⟨h w hw, good_of_word (List.mem_filter.mp (h w hw)).2⟩
theorem PcX_blind {av : List Value} {h : AH} : FrameBlind (PcX D ca ad av h) := fun a U g mk q => ⟨q.1, q.2.1, va_K.moved (u := U) (U := U.calling g mk a) (Vm.Alike.refl U.vm) q.2.2⟩
theorem callX {pc : Nat} {st0 rest : List Value} {a : Array Value} {rv : Option Value} {h' : AH} (hr : va_Run p l e R s m args below meth c H locs cells slots 0 0 (F0 m pc ls st0) (rest.map (em ad)) (QcX D ca ad base rv h' a) (fun q : Nat => base q)) {A0 : Nat → Prop} (hA0 : ∀ q, base q → A0 q) (hS : va_S A0 H0 H locs)
    (k : ∀ (H1 : Heap) (locs1 : List Loc), va_P D vcls (wsOf ca ad h') H1 → va_S (fun q : Nat => base q) H H1 [] → va_S A0 H0 H1 locs1 → W p l e R s m args below meth c H1 locs1 cells slots Q (F0 m (pc + 3) ls ((rv.toList ++ rest).map (em ad)))) : W p l e R s m args below meth c H locs cells slots Q (F0 m pc ls st0) := by
  intro T hT X
  obtain ⟨v9, st₀, t, T', L, h0, X', hL, e1, e2, ⟨⟨hv, hp⟩, hz, hk⟩, st⟩ := hr T hT X
  have hv : v9 = rv.map (em ad) := by cases hv; rfl
  subst hv
  rw [h0] at hz hk
  obtain ⟨t2, a1, b1⟩ := k T'.heap (locs ++ L) (by rw [e1]; exact hp) ⟨by rw [e1]; exact hz, fun q h1 h2 => by rw [e1]; exact hk q h1 h2, fun _ h => (by cases h)⟩
    ⟨Nat.le_trans hS.1 (by rw [e1]; exact hz), fun q h1 h2 => by rw [e1, hk q (Nat.lt_of_lt_of_le h1 hS.1) (fun z => h2 (hA0 q z))]; exact hS.2.1 q h1 h2, fun q hq => by
      rcases List.mem_append.mp hq with h | h
      · exact hS.2.2 q h
      · exact hA0 _ (hL q h)⟩ T' rfl X'
  refine ⟨t2, st t2 ?_, b1⟩
  have e9 : (rv.map (em ad)).toList ++ rest.map (em ad) = (rv.toList ++ rest).map (em ad) := by cases rv <;> simp
  show Steps p.tables e below (T'.setTop { F0 m pc ls st0 with pc := pc + 3, stack := (rv.map (em ad)).toList ++ rest.map (em ad) }) t2
  rw [e9]
  exact a1
set_option maxHeartbeats 4000000 in
theorem sC {mi pc nx mj na kd d' : Nat} {ins : Instr} {v : Value} {st : List Value} {q : List Value × List Value} {rv : Option Value} {h h' : AH} (hx : p.tables.exec = Jvm.exec) (hb : c.code = cB mi) (hml : c.maxLocals = cM mi) (hown : s.vm.findClass (oN (cO mi)) = some m.cls) (hts : ∀ w ∈ wAll, w.before args s = true)
    (hK : va_K D vcls (tysOf ca) s) (hP : va_P D vcls (wsOf ca ad h) H) {A0 : Nat → Prop} (hA0 : ∀ q, base q → A0 q) (hS : va_S A0 H0 H locs) (hl : ls.size = cM mi) (hRf : d' + 2 ≤ R.frames) (hRl : 60 * (d' + 2) ≤ R.locals) (hc : cells ≤ R.cells) (hsl : slots ≤ R.slots)
    (hw : wfE mi pc (4, ins, nx, mj, na, kd, v) = true) (ha : cArgs kd na mj st = some q) (h8 : (q.2.map fun v => v.category).sum ≤ 8)
    (hM : Met l (cY mj) (wsM mj) (rmX d') (PcX D ca ad q.1 h) (QcX D ca ad base rv h') 0 0 (fun a : Nat => base a))
    (k : ∀ (H1 : Heap) (locs1 : List Loc), va_P D vcls (wsOf ca ad h') H1 → va_S (fun q : Nat => base q) H H1 [] → va_S A0 H0 H1 locs1 → W p l e R s m args below meth c H1 locs1 cells slots Q (F0 m nx ls ((rv.toList ++ q.2).map (em ad)))) : W p l e R s m args below meth c H locs cells slots Q (F0 m pc ls (st.map (em ad))) := by
  have hw9 : (decide (decode (cB mi) pc = .ok (ins, nx - pc)) && Nat.ble pc nx && (Nat.beq nx (pc + lenI ins) && wfC (cO mi) ins mj na kd)) = true := hw
  clear hw
  simp only [Bool.and_eq_true, decide_eq_true_eq] at hw9
  obtain ⟨⟨hdg0, -⟩, hnx0, h3⟩ := hw9
  have hnx := Nat.eq_of_beq_eq_true hnx0
  have hdg : decode (cB mi) pc = .ok (ins, lenI ins) := by rw [hdg0, hnx, Nat.add_sub_cancel_left]
  clear hdg0 hnx0
  subst hnx
  unfold wfC at h3
  simp only [Bool.and_eq_true, decide_eq_true_eq] at h3
  obtain ⟨⟨⟨⟨⟨⟨⟨⟨hmp, hkd⟩, hnl⟩, hmh⟩, hnp⟩, hcd⟩, hmn⟩, hpa⟩, hm16⟩ := h3
  have hm16 : cM mj ≤ 16 := Nat.le_of_ble_eq_true hm16
  have hmn : mj < nMeth := Nat.le_of_ble_eq_true hmn
  have hcls : (cY mj).cls = oN (cO mj) := oN_ok mj (List.mem_range.mpr hmn)
  have hini : Cond.initialized (cY mj).cls ∈ wAll := by
    obtain ⟨z, hz, hb9⟩ := any2 hnp
    have h5 := tb_in _ _ (nP_ok z hz)
    rw [Nat.eq_of_beq_eq_true hb9, ← hcls] at h5
    exact wA h5 rfl
  have hcode : Cond.code (cY mj) (cB mj) (cM mj) (cR mj) ∈ wAll := by
    obtain ⟨z, hz, hb9⟩ := any2 hcd
    have := Nat.eq_of_beq_eq_true hb9
    subst this
    exact wA (cdd_ok z hz) rfl
  have hwsM : ∀ w ∈ wsM mj, w ∈ wAll := fun w hw => by
    rcases List.mem_cons.mp hw with h | h
    · rw [h]; exact hcode
    · exact h
  obtain ⟨zm, hzm, hbm⟩ := any2 hmp
  simp only [Bool.and_eq_true] at hbm
  obtain ⟨⟨hm1, hm2⟩, hm3⟩ := hbm
  have hml9 := tb_in _ _ (mP_ok zm hzm)
  rw [Nat.eq_of_beq_eq_true hm1, Nat.eq_of_beq_eq_true hm3] at hml9
  unfold cArgs at ha
  split at ha
  case isFalse => cases ha
  rename_i hna
  have hlen : (((st.take na).reverse).map (em ad)).length = na := by simp; omega
  have hroom : (rmX d').frames + 1 ≤ R.frames ∧ 8 + (cM mj + 11) + (rmX d').locals ≤ R.locals := ⟨hRf, by show 8 + (cM mj + 11) + 60 * (d' + 1) ≤ _; omega⟩
  cases ins <;> simp only [reduceCtorEq, Bool.false_eq_true, Bool.and_eq_true, decide_eq_true_eq] at hkd
  case invokevirtual i =>
    obtain ⟨⟨⟨⟨hk0, hko⟩, hkc⟩, hip⟩, hsp⟩ := hkd
    have hk0 := Nat.eq_of_beq_eq_true hk0
    subst hk0
    have hko : kOf (cO mj) < 9 := Nat.le_of_ble_eq_true hko
    rw [Nat.eq_of_beq_eq_true hm2] at hml9
    have hinst : Cond.instanceMethod (cY mj) ∈ wAll := by
      obtain ⟨z, hz, hb9⟩ := any2 hip
      have h5 := tb_in _ _ (iP_ok z hz)
      rw [Nat.eq_of_beq_eq_true hb9] at h5
      exact wA h5 rfl
    have hsel : Cond.selects (cY mj).cls (cY mj) (cY mj) ∈ wAll := by
      obtain ⟨z, hz, hb9⟩ := any2 hsp
      have h5 := tb_in _ _ (sP_ok z hz)
      rw [Nat.eq_of_beq_eq_true hb9] at h5
      exact wA h5 rfl
    split at ha
    · next hz => cases hz
    · split at ha
      case h_2 => cases ha
      rename_i b r hdrop
      split at ha
      case h_2 => cases ha
      rename_i ci sl hlay
      split at ha
      case isFalse => cases ha
      rename_i hci
      cases ha
      subst hci
      obtain ⟨hkb, -⟩ := lay_in hlay (by omega)
      have he := ws_at (ca := ca) (ad := ad) hkb h
      rw [hlay] at he
      have hst : st.map (em ad) = (((st.take na).reverse).map (em ad)).reverse ++ .ref (ad b) :: r.map (em ad) := by
        rw [← List.map_reverse, List.reverse_reverse]
        conv => lhs; rw [← List.take_append_drop na st, hdrop]
        rw [List.map_append]
        rfl
      have hrecv := va_recv hK hP (vcls_at _ hko) he
      refine callX (rest := r) (va_runV (As := ((st.take na).reverse).map (em ad)) (Ts := wAll) (C := (cY mj).cls) ⟨hx, hb, hml, hown, hts⟩ hM
        (cwV na hts (gAll (fun w hw => ?_)) rfl rfl rfl ⟨rfl, hmh.1, hmh.2, hpa⟩ hroom)
        ⟨PcX_blind, (by rw [← hkc]; exact hrecv), fun U hU hW => ⟨rfl, by rw [hU]; exact hP, va_K.moved hW.alike hK⟩⟩ rfl hlen hl hst (lv_room (by rw [em_cats]; exact h8)) hdg ⟨hc, hsl⟩) hA0 hS k
      unfold wsV at hw
      rcases List.mem_append.mp hw with h | h
      · simp only [List.mem_cons, List.not_mem_nil, or_false] at h
        rcases h with h | h | h | h <;> rw [h]
        · exact wA hml9 rfl
        · exact hinst
        · exact hsel
        · exact hini
      · exact hwsM w h
  case invokestatic i =>
    obtain ⟨hk0, htp⟩ := hkd
    have hk0 := Nat.eq_of_beq_eq_true hk0
    subst hk0
    rw [Nat.eq_of_beq_eq_true hm2] at hml9
    have hstat : Cond.static (cY mj) ∈ wAll := by
      obtain ⟨z, hz, hb9⟩ := any2 htp
      have h5 := tb_in _ _ (tP_ok z hz)
      rw [Nat.eq_of_beq_eq_true hb9] at h5
      exact wA h5 rfl
    simp only [] at ha
    cases ha
    have hst : st.map (em ad) = (((st.take na).reverse).map (em ad)).reverse ++ (st.drop na).map (em ad) := by
      rw [← List.map_reverse, List.reverse_reverse]
      conv => lhs; rw [← List.take_append_drop na st]
      rw [List.map_append]
    refine callX (rest := st.drop na) (va_runS (As := ((st.take na).reverse).map (em ad)) (Ts := wAll) ⟨hx, hb, hml, hown, hts⟩ hM
      (va_cwS na hts (gAll (fun w hw => ?_)) rfl rfl rfl ⟨hmh.1, hmh.2, hpa⟩ hroom)
      ⟨PcX_blind, fun U hU hW => ⟨rfl, by rw [hU]; exact hP, va_K.moved hW.alike hK⟩⟩ rfl hlen hl hst (lv_room (by rw [em_cats]; exact h8)) hdg ⟨hc, hsl⟩) hA0 hS k
    unfold va_wsS at hw
    rcases List.mem_append.mp hw with h | h
    · simp only [List.mem_cons, List.not_mem_nil, or_false] at h
      rcases h with h | h | h <;> rw [h]
      · exact wA hml9 rfl
      · exact hstat
      · exact hini
    · exact hwsM w h
/-- THE SIMULATION: what run does, the machine does, in any frame of one of the methods -/
def Sim (l : Launch) (D : va_G) (ca : Nat → ClassId) (ad : Nat → Nat) (base : Nat → Prop) (n : Nat) : Prop := ∀ (d mi pc : Nat) (lc : LC) (st : List Value) (h : AH) (cf : Cf), run n d mi pc lc st h = some cf → ¬ mi = mL_law →
  ∀ (p : Program) (e : Env) (R : Room) (s : State) (m : MethodId) (args : Array Value) (below : List Frame) (meth : Method) (c : Code) (H0 H : Heap) (locs : List Loc) (cells slots : Nat) (Q : State → Prop) (ls : Array Slot),
    p.tables.exec = Jvm.exec → c.code = cB mi → c.maxLocals = cM mi → s.vm.findClass (oN (cO mi)) = some m.cls → (∀ w ∈ wAll, w.before args s = true) → va_K D vcls (tysOf ca) s → AdOk base ad → d + 1 ≤ R.frames → 60 * (d + 1) ≤ R.locals → cells ≤ R.cells → slots ≤ R.slots →
    va_P D vcls (wsOf ca ad h) H → va_S (fun q : Nat => base q) H0 H locs → lv_has ls (cM mi) (lm ad lc) →
    (∀ (H1 : Heap) (locs1 : List Loc) (ls1 : Array Slot), va_P D vcls (wsOf ca ad cf.2.2.2) H1 → va_S (fun q : Nat => base q) H0 H1 locs1 → lv_has ls1 (cM mi) (lm ad cf.2.1) → W p l e R s m args below meth c H1 locs1 cells slots Q (F0 m cf.1 ls1 (cf.2.2.1.map (em ad)))) →
    W p l e R s m args below meth c H locs cells slots Q (F0 m pc ls (st.map (em ad)))
theorem sl_len (vs : List Value) : (lg_sl vs).length = (vs.map fun v => v.category).sum := by
  induction vs with
  | nil => rfl
  | cons v t ih =>
    unfold lg_sl at ih ⊢
    rw [List.flatMap_cons, List.length_append, ih, List.map_cons, List.sum_cons]
    cases v <;> rfl
theorem args_em (ad : Nat → Nat) : ∀ (vs : List Value) (i : Nat), lv_args i (vs.map (em ad)) = lm ad (lv_args i vs)
  | [], _ => rfl
  | v :: t, i => by
    rw [List.map_cons]
    unfold lv_args
    rw [em_cat, args_em ad t]
    rfl
/-- as the kit's Met.ofW, for a method none of whose natives stands ahead of it -/
theorem ofWF {y : MethodName} {ws ws' : List Cond} {rm : Room} {Pc : Array Value → State → Prop} {Qc : Array Value → State → Outcome → State → Prop} {mc ms : Nat} {free : Addr → Prop} {cc : ByteArray} {maxL : Nat} {ret : Option FieldType}
    (hy : plainFor y = true) (hw : ws = Cond.code y cc maxL ret :: ws')
    (body : ∀ p e s m args below meth c s₁, BodyLoose p l y (headSpec ws rm) cc maxL ret e s m args below meth c s₁ → c.maxLocals = maxL → Pc args s →
      W p l e (headSpec ws rm).room s m args below meth c s.heap [] 0 0 (MQ below Qc args s mc ms free) (entryFrame m args maxL)) : Met l y ws rm Pc Qc mc ms free := by
  refine MetFree.of_bodySF (code := cc) (maxLocals := maxL) (ret := ret) hy ?_ ?_
  · intro args s m h hn
    obtain ⟨meth, c, h1, h2, h3, h4, h5, h6, -, -⟩ := Cond.code_spec hn (atoms_spec (ws := ws) h _ (by rw [hw]; exact List.mem_cons_self))
    exact ⟨meth, c, h1, h2, h3, h4, h5, h6⟩
  · intro p e s m args below meth c s₁ B hml hP _
    have hh0 : s₁.heap = s.heap := by rw [B.state]; rfl
    obtain ⟨t, a1, o, b1, b2, b3⟩ := body p e s m args below meth c s₁ B hml hP s₁ hh0 (Stand.of_body B)
    exact ⟨t, o, a1, b1, b2, ⟨b3.1, b3.2⟩⟩
set_option maxRecDepth 100000 in
theorem pf_ok : ∀ mj ∈ cdd, plainFor (cY mj) = true := by decide +kernel
set_option maxHeartbeats 4000000 in
theorem metOf {n d mj : Nat} (hSim : Sim l D ca ad base n) (hL : ¬ mj = mL_law) (hmj : mj < nMeth) (hpl : plainFor (cY mj) = true) {av : List Value} {h : AH} {cf : Cf} {v : Option Value} (hcat : (av.map fun v => v.category).sum ≤ cM mj) (hrun : run n d mj 0 (lv_args 0 av) [] h = some cf) (hrv : retv mj cf.1 cf.2.2.1 = some v) (hA : AdOk base ad) :
    Met l (cY mj) (wsM mj) (rmX d) (PcX D ca ad av h) (QcX D ca ad base v cf.2.2.2) 0 0 (fun a : Nat => base a) := by
  refine ofWF (cc := cB mj) (maxL := cM mj) (ret := cR mj) hpl rfl ?_
  intro p e s m args below meth c s₁ B hml hv
  obtain ⟨rfl, hP, hK⟩ := hv
  have hts := atoms_spec (ws := wsM mj) B.pre
  have hown : s.vm.findClass (oN (cO mj)) = some m.cls := by rw [← oN_ok mj (List.mem_range.mpr hmj)]; exact findClass_of_methodNamed B.named
  have hl := lv_entry (av.map (em ad)) (n := cM mj) (by rw [sl_len, em_cats]; exact hcat)
  rw [lg_entry_eq]
  generalize (lg_sl (av.map (em ad)) ++ List.replicate (cM mj - (lg_sl (av.map (em ad))).length) Slot.unset).toArray = ls at hl ⊢
  rw [args_em] at hl
  refine hSim d mj 0 _ [] h cf hrun hL p e (rmX d) s m _ below meth c s.heap s.heap [] 0 0 _ ls B.exec B.bytes hml hown (fun w hw => hts w (List.mem_cons_of_mem _ hw)) hK hA (Nat.le_refl _) (Nat.le_refl _) (Nat.zero_le _) (Nat.zero_le _) hP va_S.rf hl (fun H1 locs1 ls1 hP1 hS1 hl1 => ?_)
  exact sR hL hrv B.exec B.bytes B.returns B.notSynchronized (fun t ht hW => ⟨⟨rfl, by rw [ht]; exact hP1⟩, hS1.F ht⟩) hS1.2.2
set_option maxHeartbeats 4000000 in
theorem sim (n : Nat) : Sim l D ca ad base n := by
  induction n with
  | zero =>
    intro d mi pc lc st h cf hrun
    cases hrun
  | succ n ih =>
    intro d mi pc lc st h cf hrun hL p e R s m args below meth c H0 H locs cells slots Q ls hx hb hml hown hts hK hA hRf hRl hc hsl hP hS hl k
    unfold run at hrun
    split at hrun
    · cases hrun
    · next ins nx r1 r2 r3 v hcd =>
      split at hrun
      · next q hq =>
        exact sB hx hb (cdT_wf hL hcd).1 hq (ih d mi _ lc q.2 h cf hrun hL p e R s m args below meth c H0 H locs cells slots Q ls hx hb hml hown hts hK hA hRf hRl hc hsl hP hS hl k)
      · cases hrun
    · next ins nx mj na kd v hcd =>
      split at hrun
      · cases hrun
      · next d' =>
        split at hrun
        · cases hrun
        · next q hq =>
          split at hrun
          · next h8 =>
            split at hrun
            · cases hrun
            · next c2 hc2 =>
              split at hrun
              · cases hrun
              · next rv hrv =>
                have hw := (cdT_wf hL hcd).1
                have hw9 : (decide (decode (cB mi) pc = .ok (ins, nx - pc)) && Nat.ble pc nx && (Nat.beq nx (pc + lenI ins) && wfC (cO mi) ins mj na kd)) = true := hw
                unfold wfC at hw9
                simp only [Bool.and_eq_true, decide_eq_true_eq] at hw9
                obtain ⟨-, -, ⟨⟨⟨⟨⟨⟨⟨⟨hmp, hkd⟩, hnl⟩, hmh⟩, hnp⟩, hcd9⟩, hmn⟩, hpa⟩, hm16⟩⟩ := hw9
                have hpl : plainFor (cY mj) = true := by
                  obtain ⟨z, hz, hb9⟩ := any2 hcd9
                  rw [← Nat.eq_of_beq_eq_true hb9]
                  exact pf_ok z hz
                have hnl : ¬ mj = mL_law := fun q => by subst q; exact absurd hnl (by decide)
                have hM := metOf (l := l) (D := D) (ca := ca) (ad := ad) (base := base) ih hnl (Nat.le_of_ble_eq_true hmn) hpl h8.2 hc2 hrv hA
                exact sC (A0 := fun q : Nat => base q) (d' := d') hx hb hml hown hts hK hP (fun q z => z) hS hl.1 hRf hRl hc hsl hw hq h8.1 hM (fun H1 locs1 hP1 _ hS1 => ih (d' + 1) mi _ lc _ _ cf hrun hL p e R s m args below meth c H0 H1 locs1 cells slots Q ls hx hb hml hown hts hK hA hRf hRl hc hsl hP1 hS1 hl k)
          · cases hrun
    · cases hrun
      exact k H locs ls hP hS hl
    · cases hrun
      exact k H locs ls hP hS hl
    · next en hn2 hn4 hn7 hn9 hcd =>
      split at hrun
      · cases hrun
      · next c2 hc2 =>
        have ih2 : ∀ (H1 : Heap) (locs1 : List Loc) (ls1 : Array Slot), va_P D vcls (wsOf ca ad c2.2.2.2) H1 → va_S (fun q : Nat => base q) H0 H1 locs1 → lv_has ls1 (cM mi) (lm ad c2.2.1) → W p l e R s m args below meth c H1 locs1 cells slots Q (F0 m c2.1 ls1 (c2.2.2.1.map (em ad))) :=
          fun H1 locs1 ls1 hP1 hS1 hl1 => ih d mi c2.1 c2.2.1 c2.2.2.1 c2.2.2.2 cf hrun hL p e R s m args below meth c H0 H1 locs1 cells slots Q ls1 hx hb hml hown hts hK hA hRf hRl hc hsl hP1 hS1 hl1 k
        have hw := (cdT_wf hL hcd).1
        unfold stp at hc2
        rw [hcd] at hc2
        split at hc2
        · next ins nx r1 r2 r3 v he =>
          cases he
          split at hc2
          · next st' hst =>
            cases hc2
            exact sA hx hb hown hts hw hst (ih2 H locs ls hP hS hl)
          · cases hc2
        · next ins nx r1 r2 r3 v he =>
          cases he
          split at hc2
          · next lc' st' hst =>
            cases hc2
            exact sL hx hb hl hw hst (fun ls' hl' => ih2 H locs ls' hP hS hl')
          · cases hc2
        · next ins nx r1 r2 r3 v he =>
          cases he
          split at hc2
          · next st' h' hst =>
            cases hc2
            exact sH hx hb hown hts hK hA hP hS hw hst (fun H1 locs1 hP1 hS1 => ih2 H1 locs1 ls hP1 hS1 hl)
          · cases hc2
        · next ins nx r1 r2 r3 v he =>
          cases he
          split at hc2
          · next h8 =>
            split at hc2
            · next st' h' hst =>
              cases hc2
              exact sPr hx hb (hml.trans hl.1.symm) hown hts hK hA hP hS (by omega) (by omega) hc hsl hw h8 hst (fun H1 locs1 hP1 hS1 => ih2 H1 locs1 ls hP1 hS1 hl)
            · cases hc2
          · cases hc2
        · next ins nx r1 r2 r3 v he =>
          cases he
          split at hc2
          · cases hc2
            exact sS hx hb hw (ih2 H locs ls hP hS hl)
          · cases hc2
        · cases hc2
end
