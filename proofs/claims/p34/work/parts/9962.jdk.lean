-- needs: 9968
noncomputable section
theorem wML {o i mj : Nat} (h : mP.any (fun q => Nat.beq q.1 o && Nat.beq q.2.1 i && Nat.beq q.2.2.1 mj) = true) : Cond.methodLink (oN o) i (cY mj) ∈ wAll := by
  obtain ⟨q, hq, hb⟩ := any2 h
  simp only [Bool.and_eq_true] at hb
  obtain ⟨⟨h1, h2⟩, h3⟩ := hb
  have h5 := tb_in _ _ (mP_ok q hq)
  rw [Nat.eq_of_beq_eq_true h1, Nat.eq_of_beq_eq_true h2, Nat.eq_of_beq_eq_true h3] at h5
  exact wA h5 rfl
theorem wIM {mj : Nat} (h : iP.any (fun q => Nat.beq q.1 mj) = true) : Cond.instanceMethod (cY mj) ∈ wAll := by
  obtain ⟨q, hq, hb⟩ := any2 h
  have h5 := tb_in _ _ (iP_ok q hq)
  rw [Nat.eq_of_beq_eq_true hb] at h5
  exact wA h5 rfl
theorem wSE {mj : Nat} (h : sP.any (fun q => Nat.beq q.1 mj) = true) : Cond.selects (cY mj).cls (cY mj) (cY mj) ∈ wAll := by
  obtain ⟨q, hq, hb⟩ := any2 h
  have h5 := tb_in _ _ (sP_ok q hq)
  rw [Nat.eq_of_beq_eq_true hb] at h5
  exact wA h5 rfl
theorem wST {mj : Nat} (h : tP.any (fun q => Nat.beq q.1 mj) = true) : Cond.static (cY mj) ∈ wAll := by
  obtain ⟨q, hq, hb⟩ := any2 h
  have h5 := tb_in _ _ (tP_ok q hq)
  rw [Nat.eq_of_beq_eq_true hb] at h5
  exact wA h5 rfl
theorem wIN {o : Nat} (h : nP.any (fun q => Nat.beq q.1 o) = true) : Cond.initialized (oN o) ∈ wAll := by
  obtain ⟨q, hq, hb⟩ := any2 h
  have h5 := tb_in _ _ (nP_ok q hq)
  rw [Nat.eq_of_beq_eq_true hb] at h5
  exact wA h5 rfl
variable {p : Program} {l : Launch} {e : Env} {R : Room} {s : State} {m : MethodId} {args : Array Value} {below : List Frame} {meth : Method} {c : Code} {H H0 : Heap} {locs : List Loc} {cells slots : Nat} {Q : State → Prop} {ls : Array Slot}
theorem em_id (v : Value) : em id v = v := by cases v <;> rfl
theorem map_em (st : List Value) : st.map (em id) = st := by
  rw [show em id = id from funext em_id]
  exact List.map_id st
section
variable {mi pc nx r1 r2 r3 : Nat} {ins : Instr} {v : Value} {lc : LC} {st st' : List Value}
theorem jL {q : LC × List Value} (hx : p.tables.exec = Jvm.exec) (hb : c.code = cB mi) (hl : lv_has ls (cM mi) (lm id lc)) (hL : ¬ mi = mL_law) (hc : cdT mi pc = some (1, ins, nx, r1, r2, r3, v)) (hs : stL ins v lc st = some q) (k : ∀ ls' : Array Slot, lv_has ls' (cM mi) (lm id q.1) → W p l e R s m args below meth c H locs cells slots Q (F0 m nx ls' q.2)) : W p l e R s m args below meth c H locs cells slots Q (F0 m pc ls st) := by
  have z := sL (ad := id) (st := st) (Q := Q) (R := R) (l := l) (p := p) (e := e) (s := s) (args := args) (below := below) (meth := meth) (H := H) (locs := locs) (cells := cells) (slots := slots) (m := m) hx hb hl (cdT_wf hL hc).1 hs (fun ls' h' => by rw [map_em]; exact k ls' h')
  rw [map_em] at z
  exact z
theorem jA (hx : p.tables.exec = Jvm.exec) (hb : c.code = cB mi) (hown : s.vm.findClass (oN (cO mi)) = some m.cls) (hts : ∀ w ∈ wAll, w.before args s = true) (hL : ¬ mi = mL_law) (hc : cdT mi pc = some (0, ins, nx, r1, r2, r3, v)) (hs : stA ins v st = some st') (k : W p l e R s m args below meth c H locs cells slots Q (F0 m nx ls st')) : W p l e R s m args below meth c H locs cells slots Q (F0 m pc ls st) := by
  have z := sA (ad := id) (st := st) (Q := Q) (R := R) (l := l) (p := p) (e := e) (s := s) (args := args) (below := below) (meth := meth) (H := H) (locs := locs) (cells := cells) (slots := slots) (m := m) (ls := ls) hx hb hown hts (cdT_wf hL hc).1 hs (by rw [map_em]; exact k)
  rw [map_em] at z
  exact z
theorem jB {q : Bool × List Value} (hx : p.tables.exec = Jvm.exec) (hb : c.code = cB mi) (hL : ¬ mi = mL_law) (hc : cdT mi pc = some (2, ins, nx, r1, r2, r3, v)) (hs : stB ins st = some q) (k : W p l e R s m args below meth c H locs cells slots Q (F0 m (if q.1 = true then r1 else nx) ls q.2)) : W p l e R s m args below meth c H locs cells slots Q (F0 m pc ls st) := by
  have z := sB (ad := id) (st := st) (Q := Q) (R := R) (l := l) (p := p) (e := e) (s := s) (args := args) (below := below) (meth := meth) (H := H) (locs := locs) (cells := cells) (slots := slots) (m := m) (ls := ls) hx hb (cdT_wf hL hc).1 hs (by rw [map_em]; exact k)
  rw [map_em] at z
  exact z
end
/-- a method that only answers -/
def QJ (rv : Option Value) : Array Value → State → Outcome → State → Prop := fun _ st o t => o = .returned rv ∧ va_F (fun _ => False) st t
theorem jR {mj pc : Nat} {st : List Value} {rv : Option Value} (hL : ¬ mj = mL_law) (hrv : retv mj pc st = some rv) (hx : p.tables.exec = Jvm.exec) (hb : c.code = cB mj) (hr : meth.sig.returnType = cR mj) (hlocks : meth.locks = false) (hS : va_S (fun _ => False) s.heap H locs) (hrv2 : rv.map (em id) = rv) : W p l e R s m args below meth c H locs cells slots (MQ below (QJ rv) args s cells slots (fun _ => False)) (F0 m pc ls st) := by
  have z := sR (ad := id) (st := st) (Qc := QJ rv) (free := fun _ => False) (R := R) (l := l) (p := p) (e := e) (s := s) (args := args) (below := below) (meth := meth) (H := H) (locs := locs) (cells := cells) (slots := slots) (m := m) (ls := ls) hL hrv hx hb hr hlocks (fun t ht hW => ⟨by rw [hrv2], hS.F ht⟩) hS.2.2
  rw [map_em] at z
  exact z
theorem callJ {pc : Nat} {st0 rest : List Value} {a : Array Value} {rv : Option Value} (hr : va_Run p l e R s m args below meth c H locs cells slots 0 0 (F0 m pc ls st0) rest (QJ rv a) (fun _ => False))
    (k : ∀ (H1 : Heap) (locs1 : List Loc), va_S (fun _ => False) H H1 [] → (∀ q ∈ locs1, q ∈ locs) → W p l e R s m args below meth c H1 locs1 cells slots Q (F0 m (pc + 3) ls (rv.toList ++ rest))) : W p l e R s m args below meth c H locs cells slots Q (F0 m pc ls st0) := by
  intro T hT X
  obtain ⟨v9, st₀, t, T', L, h0, X', hL, e1, e2, ⟨hv, hz, hk⟩, st⟩ := hr T hT X
  have hv : v9 = rv := by cases hv; rfl
  subst hv
  rw [h0] at hz hk
  obtain ⟨t2, a1, b1⟩ := k T'.heap (locs ++ L) ⟨by rw [e1]; exact hz, fun q h1 h2 => by rw [e1]; exact hk q h1 h2, fun _ h => by cases h⟩ (fun q hq => by
      rcases List.mem_append.mp hq with h | h
      · exact h
      · exact absurd (hL q h) (fun z => z)) T' rfl X'
  exact ⟨t2, st t2 a1, b1⟩
theorem jM {mj d : Nat} {av : List Value} {B : State → Prop} {rv : Option Value} (hpl : plainFor (cY mj) = true) (hmj : mj < nMeth) (hcat : (av.map fun v => v.category).sum ≤ cM mj)
    (body : ∀ (p : Program) (e : Env) (s : State) (m : MethodId) (below : List Frame) (meth : Method) (c : Code), p.tables.exec = Jvm.exec → c.code = cB mj → meth.sig.returnType = cR mj → meth.locks = false → c.maxLocals = cM mj → s.vm.findClass (oN (cO mj)) = some m.cls → (∀ w ∈ wAll, w.before av.toArray s = true) → B s → ∀ ls : Array Slot, lv_has ls (cM mj) (lm id (lv_args 0 av)) → W p l e (rmX d) s m av.toArray below meth c s.heap [] 0 0 (MQ below (QJ rv) av.toArray s 0 0 (fun _ => False)) (F0 m 0 ls [])) : Met l (cY mj) (wsM mj) (rmX d) (va_Pc av B) (QJ rv) 0 0 (fun _ => False) := by
  refine ofWF (cc := cB mj) (maxL := cM mj) (ret := cR mj) hpl rfl ?_
  intro p e s m args below meth c s₁ Bd hml hv
  obtain ⟨rfl, hB⟩ := hv
  have hts := atoms_spec (ws := wsM mj) Bd.pre
  have hown : s.vm.findClass (oN (cO mj)) = some m.cls := by rw [← oN_ok mj (List.mem_range.mpr hmj)]; exact findClass_of_methodNamed Bd.named
  have hl := lv_entry av (n := cM mj) (by rw [sl_len]; exact hcat)
  rw [lg_entry_eq]
  generalize (lg_sl av ++ List.replicate (cM mj - (lg_sl av).length) Slot.unset).toArray = ls at hl ⊢
  rw [← map_em av, args_em] at hl
  exact body p e s m below meth c Bd.exec Bd.bytes Bd.returns Bd.notSynchronized hml hown (fun w hw => hts w (List.mem_cons_of_mem _ hw)) hB ls hl
theorem jS {mi mj na d' i pc : Nat} {own : String} (hx : p.tables.exec = Jvm.exec) (hb : c.code = cB mi) (hml : c.maxLocals = cM mi) (hown : s.vm.findClass own = some m.cls) (hts : ∀ w ∈ wAll, w.before args s = true) (hl : ls.size = cM mi) (hR : (rmX d').frames + 1 ≤ R.frames ∧ 8 + (cM mj + 11) + (rmX d').locals ≤ R.locals) (hc : cells ≤ R.cells ∧ slots ≤ R.slots)
    (w1 : Cond.methodLink own i (cY mj) ∈ wAll) (w2 : Cond.static (cY mj) ∈ wAll) (w3 : Cond.initialized (cY mj).cls ∈ wAll) (w4 : Cond.code (cY mj) (cB mj) (cM mj) (cR mj) ∈ wAll) (hmh : (cY mj).cls ≠ "java/lang/invoke/MethodHandle" ∧ (cY mj).cls ≠ "java/lang/invoke/VarHandle" ∧ (parseMethodDescriptor (cY mj).desc).map (fun d => d.parameters.length) = some na) (hdg : decode (cB mi) pc = .ok (.invokestatic i, 3))
    {As rest st : List Value} (hst : st = As.reverse ++ rest) (hlen : As.length = na) (h8 : (rest.map fun v => v.category).sum ≤ 8) {Pc : Array Value → State → Prop} {Qc : Array Value → State → Outcome → State → Prop} {free : Addr → Prop} (hM : Met l (cY mj) (wsM mj) (rmX d') Pc Qc 0 0 free) (hp : PreS s H Pc As) : va_Run p l e R s m args below meth c H locs cells slots 0 0 (F0 m pc ls st) rest (Qc As.toArray) free := by
  refine va_runS (As := As) (Ts := wAll) ⟨hx, hb, hml, hown, hts⟩ hM (va_cwS na hts (gAll (fun w hw => ?_)) rfl rfl rfl hmh hR) hp rfl hlen hl hst (lv_room h8) hdg hc
  unfold va_wsS at hw
  rcases List.mem_append.mp hw with h | h
  · simp only [List.mem_cons, List.not_mem_nil, or_false] at h
    rcases h with h | h | h <;> rw [h]
    · exact w1
    · exact w2
    · exact w3
  · rcases List.mem_cons.mp h with h | h
    · rw [h]; exact w4
    · exact h
theorem jV {mi mj na d' i pc : Nat} {own : String} (hx : p.tables.exec = Jvm.exec) (hb : c.code = cB mi) (hml : c.maxLocals = cM mi) (hown : s.vm.findClass own = some m.cls) (hts : ∀ w ∈ wAll, w.before args s = true) (hl : ls.size = cM mi) (hR : (rmX d').frames + 1 ≤ R.frames ∧ 8 + (cM mj + 11) + (rmX d').locals ≤ R.locals) (hc : cells ≤ R.cells ∧ slots ≤ R.slots)
    (w1 : Cond.methodLink own i (cY mj) ∈ wAll) (w2 : Cond.instanceMethod (cY mj) ∈ wAll) (w5 : Cond.selects (cY mj).cls (cY mj) (cY mj) ∈ wAll) (w3 : Cond.initialized (cY mj).cls ∈ wAll) (w4 : Cond.code (cY mj) (cB mj) (cM mj) (cR mj) ∈ wAll) (hmh : (cY mj).cls ≠ "java/lang/invoke/MethodHandle" ∧ (cY mj).cls ≠ "java/lang/invoke/VarHandle" ∧ (parseMethodDescriptor (cY mj).desc).map (fun d => d.parameters.length) = some na) (hdg : decode (cB mi) pc = .ok (.invokevirtual i, 3))
    {b : Nat} {As rest st : List Value} (hst : st = As.reverse ++ .ref b :: rest) (hlen : As.length = na) (h8 : (rest.map fun v => v.category).sum ≤ 8) {Pc : Array Value → State → Prop} {Qc : Array Value → State → Outcome → State → Prop} {free : Addr → Prop} (hM : Met l (cY mj) (wsM mj) (rmX d') Pc Qc 0 0 free) (hp : PreV s H (cY mj).cls b Pc As) : va_Run p l e R s m args below meth c H locs cells slots 0 0 (F0 m pc ls st) rest (Qc (Value.ref b :: As).toArray) free := by
  refine va_runV (As := As) (Ts := wAll) (C := (cY mj).cls) ⟨hx, hb, hml, hown, hts⟩ hM (cwV na hts (gAll (fun w hw => ?_)) rfl rfl rfl ⟨rfl, hmh.1, hmh.2.1, hmh.2.2⟩ hR) hp rfl hlen hl hst (lv_room h8) hdg hc
  unfold wsV at hw
  rcases List.mem_append.mp hw with h | h
  · simp only [List.mem_cons, List.not_mem_nil, or_false] at h
    rcases h with h | h | h | h <;> rw [h]
    · exact w1
    · exact w2
    · exact w5
    · exact w3
  · rcases List.mem_cons.mp h with h | h
    · rw [h]; exact w4
    · exact h
theorem va_S0 {H0 H : Heap} {locs : List Loc} (h : va_S (fun _ => False) H0 H locs) : locs = [] := by
  cases locs with
  | nil => rfl
  | cons a t => exact absurd (h.2.2 a List.mem_cons_self) (fun z => z)
theorem va_S1 {H0 H H1 : Heap} {locs locs1 : List Loc} (h : va_S (fun _ => False) H0 H locs) (h1 : va_S (fun _ => False) H H1 []) (hl : ∀ q ∈ locs1, q ∈ locs) : va_S (fun _ => False) H0 H1 locs1 := ⟨Nat.le_trans h.1 h1.1, fun q a b => (h1.2.1 q (Nat.lt_of_lt_of_le a h.1) b).trans (h.2.1 q a b), fun q hq => h.2.2 q (hl q hq)⟩
/-- Preconditions.checkIndex -/
theorem met_J3 {i n : Nat} (hi : i < n) (hn : n < 2 ^ 31) (v9 : Value) (h9 : v9.category = 1) : Met l (cY mJ3_checkIndex_8e157) (wsM mJ3_checkIndex_8e157) (rmX 0) (va_Pc [.int (nI i), .int (nI n), v9] (fun _ => True)) (QJ (some (.int (nI i)))) 0 0 (fun _ => False) := by
  refine jM (pf_ok _ (by decide)) (by decide) (by show 1 + (1 + (v9.category + 0)) ≤ 3; rw [h9]; decide) (fun p e s m below meth c hx hb hr hlk hml hown hts _ ls hl => ?_)
  have hL : ¬ mJ3_checkIndex_8e157 = mL_law := by decide
  have e1 : lv_args 0 [.int (nI i), .int (nI n), v9] = [(0, .int (nI i)), (1, .int (nI n)), (2, v9)] := rfl
  rw [e1] at hl
  refine jL hx hb hl hL rfl rfl (fun ls1 hl1 => ?_)
  refine jB hx hb hL rfl rfl ?_
  rw [if_neg (show ¬ (decide (nI i < 0) = true) by rw [decide_eq_false (nI_pos (by omega))]; decide)]
  refine jL hx hb hl1 hL rfl rfl (fun ls2 hl2 => ?_)
  refine jL hx hb hl2 hL rfl rfl (fun ls3 hl3 => ?_)
  refine jB hx hb hL rfl rfl ?_
  rw [if_pos (show decide (nI i < nI n) = true from decide_eq_true (nI_lt hi hn))]
  refine jL hx hb hl3 hL rfl rfl (fun ls4 hl4 => ?_)
  exact jR hL rfl hx hb hr hlk va_S.rf rfl
end
