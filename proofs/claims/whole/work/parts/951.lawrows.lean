-- needs: 95
-- the head of the kit's skeleton, as it is given for pasting, then my own rows
def R_law : String := "SawnIceLaw"
def lw_P (b : Addr) (xs : List Int32) (args : Array Value) (s : State) : Prop := args = #[.ref b] ∧ s.IntsAt b xs ∧ xs.length ≤ 2048 ∧ (Jvm.Cond.and given_1 narrow_1).before args s = true
/-- what a walk over the start with the record d0 says of its end, said of the start itself -/
theorem lw_closed {s t : State} {o : Outcome} {d0 : Drawn} {L : List Loc} {k n : Nat} (hd0 : s.drawn.sameBut d0 lw_cs) (hv : ∃ v, o = .returned v) (hW : (s.setDrawn d0).WarmedH t.vm) (hs : (s.setDrawn d0).sameButNew ({ t with vm := s.vm } : State) L k n) : State.butDraws s t lw_cs (fun t1 => Framed s o t1 L k n) := by
  have h2 : t.drawn = d0 := congrArg State.drawn hs.1
  refine ⟨⟨hv, hW, State.sameButNew.setDrawn hs s.drawn⟩, ?_, by decide⟩
  rw [h2]
  exact hd0
def lw_Q (_ : Array Value) (s : State) (o : Outcome) (t : State) : Prop := o = .returned (some (.int 1)) ∧ State.butDraws s t lw_cs (fun t1 => Framed s o t1 [] 603072 7227498)
def lw_Z (below : List Frame) (a : Array Value) (s : State) : State → Prop := fun t => ∃ o, t.status = .running ∧ Ended t below o ∧ lw_Q a s o t
/-- the law's own end, with 1 on the stack, nothing written that was there before, its room as the claim has it; d0: the record of draws at this point (at the entry s.drawn: begin with 'refine W.base ?_' and 'have hd0 := Drawn.sameBut.refl s.drawn lw_cs') -/
theorem lw_ret {p : Program} {l : Launch} {e : Env} {s : State} {m : MethodId} {below : List Frame} {meth : Method} {c : Code} {b : Nat} {d0 : Drawn} (hd0 : s.drawn.sameBut d0 lw_cs) (hx : p.tables.exec = Jvm.exec) (hb : c.code = code) (hr : meth.sig.returnType = ret) (hlocks : meth.locks = false) {pc : Nat} {H : Heap} {ls : Array Slot} (hdg : decode code pc = .ok (.ireturn, 1)) : W p l e room_1 (s.setDrawn d0) m #[Value.ref b] below meth c H [] 603072 7227498 (lw_Z below #[Value.ref b] s) (F0 m pc ls [.int 1]) := by
  intro T hT X
  obtain ⟨fs, hret, hrun, hended, hW, hframe⟩ := X.leave (v := some (.int 1)) (hlocks := hlocks) (fun h => by rw [hr] at h; cases h)
  have hmeth' : T.vm.method? m = some meth := X.method'
  refine ⟨T.setFrames fs, ?_, .returned (some (.int 1)), hrun, hended, rfl, lw_closed hd0 ⟨_, rfl⟩ hW hframe⟩
  jvm_step X.here [X.here.top, hx, hb, hdg, hmeth', hr, ret, narrow_b1]
  (try refine ⟨rfl, ?_⟩); (try refine ⟨rfl, ?_⟩)
  first | (intro acts; rw [hret _ acts rfl rfl rfl]) | rw [hret _ _ rfl rfl rfl]
  exact Steps.refl _
/-- what holds at the law's entry: the machine, the code, the tables' words (any of lw_tbl by 'hts w (by decide +kernel)'), the script of L ints xs at the cell b, what the Statement gives of the start (any of its parts by flat_of_before) -/
def lw_At (p : Program) (s : State) (m : MethodId) (meth : Method) (c : Code) (b L : Nat) (xs : Nat → Int32) : Prop :=
  p.tables.exec = Jvm.exec ∧ c.code = code ∧ meth.sig.returnType = ret ∧ c.maxLocals = 9 ∧ s.vm.findClass R_law = some m.cls ∧ (∀ w ∈ lw_tbl, w.before #[Value.ref b] s = true) ∧ va_X b L xs s s.heap ∧ b < s.heap.size ∧ meth.locks = false ∧ (Jvm.Cond.and given_1 narrow_1).before #[Value.ref b] s = true
noncomputable section
def lwMs : List Nat := [240, 241, 242, 243, 244, 245, 246, 247, 248, 249, 250, 251, 252, 253, 254, 255, 256, 257, 258, 259, 260, 261, 262, 263, 264, 265, 266, 267]
def lwI (mi : Nat) : Nat := bif Nat.blt mi 254 then (bif Nat.blt mi 247 then (bif Nat.blt mi 243 then (bif Nat.blt mi 241 then (bif Nat.beq mi 240 then 120 else 0) else (bif Nat.blt mi 242 then (bif Nat.beq mi 241 then 129 else 0) else (bif Nat.beq mi 242 then 133 else 0))) else (bif Nat.blt mi 245 then (bif Nat.blt mi 244 then (bif Nat.beq mi 243 then 137 else 0) else (bif Nat.beq mi 244 then 140 else 0)) else (bif Nat.blt mi 246 then (bif Nat.beq mi 245 then 143 else 0) else (bif Nat.beq mi 246 then 146 else 0)))) else (bif Nat.blt mi 250 then (bif Nat.blt mi 248 then (bif Nat.beq mi 247 then 149 else 0) else (bif Nat.blt mi 249 then (bif Nat.beq mi 248 then 153 else 0) else (bif Nat.beq mi 249 then 157 else 0))) else (bif Nat.blt mi 252 then (bif Nat.blt mi 251 then (bif Nat.beq mi 250 then 160 else 0) else (bif Nat.beq mi 251 then 163 else 0)) else (bif Nat.blt mi 253 then (bif Nat.beq mi 252 then 166 else 0) else (bif Nat.beq mi 253 then 169 else 0))))) else (bif Nat.blt mi 261 then (bif Nat.blt mi 257 then (bif Nat.blt mi 255 then (bif Nat.beq mi 254 then 172 else 0) else (bif Nat.blt mi 256 then (bif Nat.beq mi 255 then 175 else 0) else (bif Nat.beq mi 256 then 178 else 0))) else (bif Nat.blt mi 259 then (bif Nat.blt mi 258 then (bif Nat.beq mi 257 then 182 else 0) else (bif Nat.beq mi 258 then 185 else 0)) else (bif Nat.blt mi 260 then (bif Nat.beq mi 259 then 188 else 0) else (bif Nat.beq mi 260 then 191 else 0)))) else (bif Nat.blt mi 264 then (bif Nat.blt mi 262 then (bif Nat.beq mi 261 then 194 else 0) else (bif Nat.blt mi 263 then (bif Nat.beq mi 262 then 198 else 0) else (bif Nat.beq mi 263 then 205 else 0))) else (bif Nat.blt mi 266 then (bif Nat.blt mi 265 then (bif Nat.beq mi 264 then 209 else 0) else (bif Nat.beq mi 265 then 217 else 0)) else (bif Nat.blt mi 267 then (bif Nat.beq mi 266 then 220 else 0) else (bif Nat.beq mi 267 then 227 else 0)))))
def lwH (mi : Nat) : List (Nat × Nat × Nat × Nat) := bif Nat.blt mi 254 then (bif Nat.blt mi 247 then (bif Nat.blt mi 243 then (bif Nat.blt mi 241 then (bif Nat.beq mi 240 then [(0, 10, 13, 13), (0, 10, 17, 15)] else []) else (bif Nat.blt mi 242 then (bif Nat.beq mi 241 then [(0, 9, 12, 15)] else []) else (bif Nat.beq mi 242 then [(0, 12, 15, 13), (0, 12, 19, 15), (0, 12, 23, 25)] else []))) else (bif Nat.blt mi 245 then (bif Nat.blt mi 244 then (bif Nat.beq mi 243 then [(0, 12, 15, 13), (0, 12, 19, 25)] else []) else (bif Nat.beq mi 244 then [(0, 9, 12, 13), (0, 9, 15, 25)] else [])) else (bif Nat.blt mi 246 then (bif Nat.beq mi 245 then [(0, 9, 12, 15)] else []) else (bif Nat.beq mi 246 then [(0, 10, 13, 13), (0, 10, 17, 15)] else [])))) else (bif Nat.blt mi 250 then (bif Nat.blt mi 248 then (bif Nat.beq mi 247 then [(0, 9, 12, 13), (0, 9, 15, 43)] else []) else (bif Nat.blt mi 249 then (bif Nat.beq mi 248 then [(0, 10, 13, 13), (0, 10, 17, 43)] else []) else (bif Nat.beq mi 249 then [(0, 9, 12, 13), (0, 9, 15, 43)] else []))) else (bif Nat.blt mi 252 then (bif Nat.blt mi 251 then (bif Nat.beq mi 250 then [(0, 10, 13, 13)] else []) else (bif Nat.beq mi 251 then [(0, 9, 12, 13)] else [])) else (bif Nat.blt mi 253 then (bif Nat.beq mi 252 then [(0, 17, 20, 13), (0, 17, 24, 43)] else []) else (bif Nat.beq mi 253 then [(0, 9, 12, 13)] else []))))) else (bif Nat.blt mi 261 then (bif Nat.blt mi 257 then (bif Nat.blt mi 255 then (bif Nat.beq mi 254 then [(0, 10, 13, 13), (0, 10, 17, 15)] else []) else (bif Nat.blt mi 256 then (bif Nat.beq mi 255 then [(0, 10, 13, 13)] else []) else (bif Nat.beq mi 256 then [(0, 8, 11, 43)] else []))) else (bif Nat.blt mi 259 then (bif Nat.blt mi 258 then (bif Nat.beq mi 257 then [(0, 8, 11, 43)] else []) else (bif Nat.beq mi 258 then [(0, 10, 13, 13), (0, 10, 17, 15)] else [])) else (bif Nat.blt mi 260 then (bif Nat.beq mi 259 then [(0, 8, 11, 43)] else []) else (bif Nat.beq mi 260 then [(0, 9, 12, 15)] else [])))) else (bif Nat.blt mi 264 then (bif Nat.blt mi 262 then (bif Nat.beq mi 261 then [(0, 9, 12, 92)] else []) else (bif Nat.blt mi 263 then (bif Nat.beq mi 262 then [(0, 8, 11, 15), (0, 8, 14, 25)] else []) else (bif Nat.beq mi 263 then [(0, 9, 12, 43)] else []))) else (bif Nat.blt mi 266 then (bif Nat.blt mi 265 then (bif Nat.beq mi 264 then [(0, 9, 12, 15)] else []) else (bif Nat.beq mi 265 then [(0, 7, 10, 108)] else [])) else (bif Nat.blt mi 267 then (bif Nat.beq mi 266 then [(0, 8, 11, 92)] else []) else (bif Nat.beq mi 267 then [(0, 8, 11, 92)] else [])))))
def lwP (mi : Nat) : (Nat × Nat) × (Nat × Nat) × (Nat × Nat) := bif Nat.blt mi 254 then (bif Nat.blt mi 247 then (bif Nat.blt mi 243 then (bif Nat.blt mi 241 then (bif Nat.beq mi 240 then ((2, 156), (2, 157), (2, 158)) else ((0, 0), (0, 0), (0, 0))) else (bif Nat.blt mi 242 then (bif Nat.beq mi 241 then ((4, 1), (4, 2), (4, 3)) else ((0, 0), (0, 0), (0, 0))) else (bif Nat.beq mi 242 then ((4, 8), (4, 9), (4, 10)) else ((0, 0), (0, 0), (0, 0))))) else (bif Nat.blt mi 245 then (bif Nat.blt mi 244 then (bif Nat.beq mi 243 then ((4, 16), (4, 17), (4, 18)) else ((0, 0), (0, 0), (0, 0))) else (bif Nat.beq mi 244 then ((4, 23), (4, 24), (4, 25)) else ((0, 0), (0, 0), (0, 0)))) else (bif Nat.blt mi 246 then (bif Nat.beq mi 245 then ((4, 30), (4, 31), (4, 32)) else ((0, 0), (0, 0), (0, 0))) else (bif Nat.beq mi 246 then ((4, 37), (4, 38), (4, 39)) else ((0, 0), (0, 0), (0, 0)))))) else (bif Nat.blt mi 250 then (bif Nat.blt mi 248 then (bif Nat.beq mi 247 then ((4, 50), (4, 51), (4, 52)) else ((0, 0), (0, 0), (0, 0))) else (bif Nat.blt mi 249 then (bif Nat.beq mi 248 then ((4, 78), (4, 79), (4, 80)) else ((0, 0), (0, 0), (0, 0))) else (bif Nat.beq mi 249 then ((4, 97), (4, 98), (4, 99)) else ((0, 0), (0, 0), (0, 0))))) else (bif Nat.blt mi 252 then (bif Nat.blt mi 251 then (bif Nat.beq mi 250 then ((4, 105), (4, 106), (4, 107)) else ((0, 0), (0, 0), (0, 0))) else (bif Nat.beq mi 251 then ((4, 115), (4, 116), (4, 117)) else ((0, 0), (0, 0), (0, 0)))) else (bif Nat.blt mi 253 then (bif Nat.beq mi 252 then ((4, 123), (4, 124), (4, 125)) else ((0, 0), (0, 0), (0, 0))) else (bif Nat.beq mi 253 then ((4, 133), (4, 134), (4, 135)) else ((0, 0), (0, 0), (0, 0))))))) else (bif Nat.blt mi 261 then (bif Nat.blt mi 257 then (bif Nat.blt mi 255 then (bif Nat.beq mi 254 then ((4, 145), (4, 146), (4, 147)) else ((0, 0), (0, 0), (0, 0))) else (bif Nat.blt mi 256 then (bif Nat.beq mi 255 then ((4, 155), (4, 156), (4, 157)) else ((0, 0), (0, 0), (0, 0))) else (bif Nat.beq mi 256 then ((4, 167), (4, 168), (4, 169)) else ((0, 0), (0, 0), (0, 0))))) else (bif Nat.blt mi 259 then (bif Nat.blt mi 258 then (bif Nat.beq mi 257 then ((4, 178), (4, 179), (4, 180)) else ((0, 0), (0, 0), (0, 0))) else (bif Nat.beq mi 258 then ((4, 191), (4, 192), (4, 193)) else ((0, 0), (0, 0), (0, 0)))) else (bif Nat.blt mi 260 then (bif Nat.beq mi 259 then ((4, 209), (4, 210), (4, 211)) else ((0, 0), (0, 0), (0, 0))) else (bif Nat.beq mi 260 then ((4, 222), (4, 223), (4, 224)) else ((0, 0), (0, 0), (0, 0)))))) else (bif Nat.blt mi 264 then (bif Nat.blt mi 262 then (bif Nat.beq mi 261 then ((4, 234), (4, 235), (4, 236)) else ((0, 0), (0, 0), (0, 0))) else (bif Nat.blt mi 263 then (bif Nat.beq mi 262 then ((5, 29), (5, 30), (5, 31)) else ((0, 0), (0, 0), (0, 0))) else (bif Nat.beq mi 263 then ((5, 97), (5, 98), (5, 99)) else ((0, 0), (0, 0), (0, 0))))) else (bif Nat.blt mi 266 then (bif Nat.blt mi 265 then (bif Nat.beq mi 264 then ((5, 104), (5, 105), (5, 106)) else ((0, 0), (0, 0), (0, 0))) else (bif Nat.beq mi 265 then ((5, 130), (5, 131), (5, 132)) else ((0, 0), (0, 0), (0, 0)))) else (bif Nat.blt mi 267 then (bif Nat.beq mi 266 then ((5, 168), (5, 169), (5, 170)) else ((0, 0), (0, 0), (0, 0))) else (bif Nat.beq mi 267 then ((5, 180), (5, 181), (5, 182)) else ((0, 0), (0, 0), (0, 0)))))))
def lwN : Nat × Nat := (1, 0)
set_option maxRecDepth 100000 in
theorem lwP_ok : ∀ mi ∈ lwMs, (tb (lwP mi).1.1)[(lwP mi).1.2]? = some (Cond.methodLink RL (lwI mi) (cY mi)) ∧ (tb (lwP mi).2.1.1)[(lwP mi).2.1.2]? = some (Cond.static (cY mi)) ∧ (tb (lwP mi).2.2.1)[(lwP mi).2.2.2]? = some (Cond.codeWith (cY mi) (cB mi) (cM mi) (cR mi) (lwH mi)) := by decide +kernel
theorem lwN_ok : (tb lwN.1)[lwN.2]? = some (Cond.initialized RL) := by decide +kernel
theorem lwG_ok : ∀ mi ∈ lwMs, ¬ mi = mL_law ∧ mi < nMeth ∧ plainName (cY mi).cls = true ∧ oN (cO mi) = RL ∧ cR mi = some .int ∧ cM mi ≤ 16 ∧ ((cY mi).cls ≠ "java/lang/invoke/MethodHandle" ∧ (cY mi).cls ≠ "java/lang/invoke/VarHandle") ∧ (cY mi).cls = RL := by decide +kernel
/-- the law calls one of its own here -/
def lwB (mi i pc na : Nat) : Bool := decide (mi ∈ lwMs) && Nat.beq (lwI mi) i && decide (decode (cB mL_law) pc = .ok (.invokestatic i, 3)) && decide ((parseMethodDescriptor (cY mi).desc).map (fun d => d.parameters.length) = some na)
theorem wfE_3 {mi pc nx r1 r2 r3 : Nat} {ins : Instr} {v : Value} (h : wfE mi pc (3, ins, nx, r1, r2, r3, v) = true) (hn : lenI ins = 1) : decode (cB mi) pc = .ok (ins, 1) ∧ nx = pc + 1 := by
  have hw9 : (decide (decode (cB mi) pc = .ok (ins, nx - pc)) && Nat.ble pc nx && (Nat.beq nx (pc + lenI ins) && wfH (cO mi) ins r1 r2)) = true := h
  simp only [Bool.and_eq_true, decide_eq_true_eq] at hw9
  obtain ⟨⟨hdg, -⟩, hnx, -⟩ := hw9
  have hnx := Nat.eq_of_beq_eq_true hnx
  rw [hn] at hnx
  rw [hnx, Nat.add_sub_cancel_left] at hdg
  exact ⟨hdg, hnx⟩
theorem wfE_4 {mi pc nx mj na kd : Nat} {ins : Instr} {v : Value} (h : wfE mi pc (4, ins, nx, mj, na, kd, v) = true) : wfC (cO mi) ins mj na kd = true := by
  have hw9 : (decide (decode (cB mi) pc = .ok (ins, nx - pc)) && Nat.ble pc nx && (Nat.beq nx (pc + lenI ins) && wfC (cO mi) ins mj na kd)) = true := h
  simp only [Bool.and_eq_true] at hw9
  exact hw9.2.2
/-- one of the law's own methods: what it answers, and its heap -/
def LM (n d mi : Nat) (av0 : List Value) (h : AH) (P : Int32 → AH → Prop) : Prop := ∃ (k : Int32) (h3 : AH), P k h3 ∧ ∃ (n1 i mj na pc1 : Nat) (lc1 : LC) (st1 av rest : List Value) (o1 : Out),
  (av0.map fun v => v.category).sum ≤ cM mi ∧ run n1 (d + 1) mi 0 (lv_args 0 av0) [] h = some (pc1, lc1, st1, h) ∧ wfE mi pc1 (4, .invokevirtual i, pc1 + 3, mj, na, 0, .null) = true ∧ cArgs 0 na mj st1 = some (av, rest) ∧ ((rest.map fun v => v.category).sum ≤ 8 ∧ (av.map fun v => v.category).sum ≤ cM mj) ∧
  RT n d mj 0 (lv_args 0 av) [] h o1 ∧ ((∃ v h2, o1 = .inl (v, h2) ∧ EvR (d + 1) mi (pc1 + 3) lc1 (v.toList ++ rest) h2 (some (.int k)) h3) ∨ ∃ en, o1 = .inr (en, h3) ∧ hdOk mi (lwH mi) pc1 en k = true)
/-- what holds of the law's frame all along -/
def LwF (p : Program) (l : Launch) (s : State) (m : MethodId) (b : Nat) (meth : Method) (c : Code) (D : va_G) (ca : Nat → ClassId) (ad : Nat → Nat) (base L : Nat) (xs : Nat → Int32) : Prop :=
  p.tables.exec = Jvm.exec ∧ c.code = cB mL_law ∧ c.maxLocals = cM mL_law ∧ s.vm.findClass (oN (cO mL_law)) = some m.cls ∧ (∀ w ∈ wAll, w.before #[.ref b] s = true) ∧ va_K D vcls (tysOf ca) s ∧ AdOk base ad ∧ ZT base s ∧ base = s.heap.size ∧ l.stackTraces = false ∧ ad 214 = b ∧ b < base ∧ va_X b L xs s s.heap
def WL (p : Program) (l : Launch) (e : Env) (s : State) (m : MethodId) (b : Nat) (below : List Frame) (meth : Method) (c : Code) (D : va_G) (ca : Nat → ClassId) (ad : Nat → Nat) (base L : Nat) (xs : Nat → Int32) (cells slots pc : Nat) (lc : LC) (st : List Value) (h : AH) : Prop :=
  LwF p l s m b meth c D ca ad base L xs → cells ≤ 603072 → slots ≤ 7227498 → ∀ (H : Heap) (locs : List Loc) (ls : Array Slot), va_P D vcls (wsOf ca ad h) H → va_S (fun q : Nat => base ≤ q) s.heap H locs → lv_has ls (cM mL_law) (lm ad lc) → W p l e room_1 s m #[.ref b] below meth c H locs cells slots (lw_Z below #[.ref b] s) (F0 m pc ls (st.map (em ad)))
section
variable {p : Program} {l : Launch} {e : Env} {s : State} {m : MethodId} {b : Nat} {below : List Frame} {meth : Method} {c : Code} {D : va_G} {ca : Nat → ClassId} {ad : Nat → Nat} {base L : Nat} {xs : Nat → Int32} {cells slots pc pc' nx r1 r2 r3 : Nat} {lc lc' : LC} {st st' : List Value} {h h2 : AH} {ins : Instr} {w : Value}
set_option maxHeartbeats 4000000 in
theorem wl_s (hs : stp mL_law pc lc st h = some (pc', lc', st', h2)) (K : WL p l e s m b below meth c D ca ad base L xs cells slots pc' lc' st' h2) : WL p l e s m b below meth c D ca ad base L xs cells slots pc lc st h := by
  intro F hc9 hs9 H locs ls hP hS hl
  have K2 := fun H1 locs1 ls1 hP1 hS1 hl1 => K F hc9 hs9 H1 locs1 ls1 hP1 hS1 hl1
  obtain ⟨hx, hb, hml, hown, hts, hK, hA, -⟩ := F
  unfold stp at hs
  split at hs
  · next hcd =>
    have hw := cdT_wfL hcd
    split at hs
    · next st9 hst => cases hs; exact sA hx hb hown hts hw hst (K2 H locs ls hP hS hl)
    · cases hs
  · next hcd =>
    have hw := cdT_wfL hcd
    split at hs
    · next lc9 st9 hst => cases hs; exact sL hx hb hl hw hst (fun ls' hl' => K2 H locs ls' hP hS hl')
    · cases hs
  · next hcd =>
    have hw := cdT_wfL hcd
    split at hs
    · next st9 h9 hst => cases hs; exact sH hx hb hown hts hK hA hP hS hw hst (fun H1 locs1 hP1 hS1 => K2 H1 locs1 ls hP1 hS1 hl)
    · cases hs
  · next hcd =>
    have hw := cdT_wfL hcd
    split at hs
    · next h8 =>
      split at hs
      · next st9 h9 hst => cases hs; exact sPr hx hb (hml.trans hl.1.symm) hown hts hK hA hP hS (by decide) (by decide) hc9 hs9 hw h8 hst (fun H1 locs1 hP1 hS1 => K2 H1 locs1 ls hP1 hS1 hl)
      · cases hs
    · cases hs
  · next hcd =>
    have hw := cdT_wfL hcd
    split at hs
    · cases hs; exact sS hx hb hw (K2 H locs ls hP hS hl)
    · cases hs
  · cases hs
theorem wl_b {P1 : Prop} {iP : Decidable P1} (hc : cdT mL_law pc = some (2, ins, nx, r1, r2, r3, w)) (hs : stB ins st = some (@decide P1 iP, st')) (K1 : P1 → WL p l e s m b below meth c D ca ad base L xs cells slots r1 lc st' h) (K2 : ¬ P1 → WL p l e s m b below meth c D ca ad base L xs cells slots nx lc st' h) : WL p l e s m b below meth c D ca ad base L xs cells slots pc lc st h := by
  intro F hc9 hs9 H locs ls hP hS hl
  refine sB F.1 F.2.1 (cdT_wfL hc) hs ?_
  by_cases q : P1
  · simp only [q, decide_true, if_true]; exact K1 q F hc9 hs9 H locs ls hP hS hl
  · simp only [q, decide_false, Bool.false_eq_true, if_false]; exact K2 q F hc9 hs9 H locs ls hP hS hl
theorem wl_g (hc : cdT mL_law pc = some (2, ins, nx, r1, r2, r3, w)) (hs : stB ins st = some (true, st')) (K1 : WL p l e s m b below meth c D ca ad base L xs cells slots r1 lc st' h) : WL p l e s m b below meth c D ca ad base L xs cells slots pc lc st h := by
  intro F hc9 hs9 H locs ls hP hS hl
  refine sB F.1 F.2.1 (cdT_wfL hc) hs ?_
  exact K1 F hc9 hs9 H locs ls hP hS hl
theorem wl_sub (hs : SubM lc' lc) (K : WL p l e s m b below meth c D ca ad base L xs cells slots pc lc' st h) : WL p l e s m b below meth c D ca ad base L xs cells slots pc lc st h := by
  intro F hc9 hs9 H locs ls hP hS hl
  refine K F hc9 hs9 H locs ls hP hS ⟨hl.1, hl.2.1, fun q hv => ?_⟩
  unfold lm at hv
  obtain ⟨q0, hq, he⟩ := List.mem_map.mp hv
  have h1 := lget_mem (hs q0 hq)
  subst he
  exact hl.2.2 _ (List.mem_map.mpr ⟨(q0.1, q0.2), h1, rfl⟩)
theorem wl_sw {x : Int32} {tgt : Nat} {rest : List Value} (hc : cdT mL_law pc = some (6, ins, nx, r1, r2, r3, w)) (ht : swt (cSw mL_law pc) x = tgt) (K : WL p l e s m b below meth c D ca ad base L xs cells slots tgt lc rest h) : WL p l e s m b below meth c D ca ad base L xs cells slots pc lc (.int x :: rest) h := by
  refine wl_s (pc' := tgt) (lc' := lc) (st' := rest) (h2 := h) ?_ K
  unfold stp
  simp only [hc, ht]
theorem wl_ll {k n : Nat} {sl : List Nat} {i : Int32} {rest : List Value} (hc : cdT mL_law pc = some (3, .laload, nx, r1, r2, r3, w)) (hl : layAt k = (5, n, sl)) (hi : vp_in i n) (K : WL p l e s m b below meth c D ca ad base L xs cells slots nx lc (.long (h.2.2.1 k i.toNatClampNeg) :: rest) h) : WL p l e s m b below meth c D ca ad base L xs cells slots pc lc (.int i :: .ref k :: rest) h := by
  refine wl_s (pc' := nx) (lc' := lc) (st' := .long (h.2.2.1 k i.toNatClampNeg) :: rest) (h2 := h) ?_ K
  unfold stp
  simp only [hc, stH, hl]
  rw [if_neg hi]
theorem wl_dl {k n : Nat} {sl : List Nat} {i : Int32} {rest : List Value} (hc : cdT mL_law pc = some (3, .daload, nx, r1, r2, r3, w)) (hl : layAt k = (6, n, sl)) (hi : vp_in i n) (K : WL p l e s m b below meth c D ca ad base L xs cells slots nx lc (.double (h.2.2.2 k i.toNatClampNeg) :: rest) h) : WL p l e s m b below meth c D ca ad base L xs cells slots pc lc (.int i :: .ref k :: rest) h := by
  refine wl_s (pc' := nx) (lc' := lc) (st' := .double (h.2.2.2 k i.toNatClampNeg) :: rest) (h2 := h) ?_ K
  unfold stp
  simp only [hc, stH, hl]
  rw [if_neg hi]
/-- a double's operation that makes no NaN -/
abbrev nnD (r : UInt64) : Prop := r &&& 0x7fffffffffffffff ≤ 0x7ff0000000000000
theorem wl_f2d {x : UInt32} {rest : List Value} (hc : cdT mL_law pc = some (0, .f2d, nx, r1, r2, r3, w)) (hn : nnD (FP.f2d x)) (K : WL p l e s m b below meth c D ca ad base L xs cells slots nx lc (.double (FP.f2d x) :: rest) h) : WL p l e s m b below meth c D ca ad base L xs cells slots pc lc (.float x :: rest) h := by
  refine wl_s (pc' := nx) (lc' := lc) (st' := .double (FP.f2d x) :: rest) (h2 := h) ?_ K
  unfold stp
  simp only [hc, stA]
  rw [if_pos hn]
/-- the script's ints, and how many -/
theorem wl_ld {i : Int32} {rest : List Value} (hc : cdT mL_law pc = some (3, .iaload, nx, r1, r2, r3, w)) (hi : vp_in i L) (K : WL p l e s m b below meth c D ca ad base L xs cells slots nx lc (.int (xs i.toNatClampNeg) :: rest) h) : WL p l e s m b below meth c D ca ad base L xs cells slots pc lc (.int i :: .ref 214 :: rest) h := by
  intro F hc9 hs9 H locs ls hP hS hl
  obtain ⟨hdg, hnx⟩ := wfE_3 (cdT_wfL hc) rfl
  subst hnx
  have K2 := K F hc9 hs9 H locs ls hP hS hl
  obtain ⟨hx, hb, hml, hown, hts, hK, hA, hZ, hbs, hfl, had, hbl, hX⟩ := F
  have e1 : (Value.int i :: Value.ref 214 :: rest).map (em ad) = .int i :: .ref b :: rest.map (em ad) := by rw [← had]; rfl
  rw [e1]
  exact va_sld hx hb hX (by omega) (by show ¬ base ≤ b; omega) hS hi hdg K2
theorem wl_ln {rest : List Value} (hc : cdT mL_law pc = some (3, .arraylength, nx, r1, r2, r3, w)) (K : WL p l e s m b below meth c D ca ad base L xs cells slots nx lc (.int (Int32.ofNat L) :: rest) h) : WL p l e s m b below meth c D ca ad base L xs cells slots pc lc (.ref 214 :: rest) h := by
  intro F hc9 hs9 H locs ls hP hS hl
  obtain ⟨hdg, hnx⟩ := wfE_3 (cdT_wfL hc) rfl
  subst hnx
  have K2 := K F hc9 hs9 H locs ls hP hS hl
  obtain ⟨hx, hb, hml, hown, hts, hK, hA, hZ, hbs, hfl, had, hbl, hX⟩ := F
  have e1 : (Value.ref 214 :: rest).map (em ad) = .ref b :: rest.map (em ad) := by rw [← had]; rfl
  rw [e1]
  exact va_slen hx hb hX (by omega) (by show ¬ base ≤ b; omega) hS hdg K2
set_option maxHeartbeats 4000000 in
/-- a call of a method of either side -/
theorem wl_xc {mj na kd d : Nat} {av rest : List Value} {P9 : Option Value → AH → Prop} (hc : cdT mL_law pc = some (4, ins, nx, mj, na, kd, w)) (ha : cArgs kd na mj st = some (av, rest)) (h8 : (rest.map fun v => v.category).sum ≤ 8 ∧ (av.map fun v => v.category).sum ≤ cM mj) (hd : d ≤ 100)
    (hM : WM d mj av h P9) (K : ∀ rv h2, P9 rv h2 → WL p l e s m b below meth c D ca ad base L xs cells slots nx lc (rv.toList ++ rest) h2) : WL p l e s m b below meth c D ca ad base L xs cells slots pc lc st h := by
  intro F hc9 hs9 H locs ls hP hS hl
  obtain ⟨v, h2, ⟨n, pc9, lc9, st9, hrun, hrv⟩, p9⟩ := hM
  have K2 := fun H1 locs1 ls1 hP1 hS1 hl1 => K v h2 p9 F hc9 hs9 H1 locs1 ls1 hP1 hS1 hl1
  obtain ⟨hx, hb, hml, hown, hts, hK, hA, -⟩ := F
  have hw := cdT_wfL hc
  have hw9 := wfE_4 hw
  have hnl := wfC_law hw9
  unfold wfC at hw9
  simp only [Bool.and_eq_true, decide_eq_true_eq] at hw9
  obtain ⟨⟨⟨⟨⟨⟨⟨⟨hmp, hkd⟩, hnl0⟩, hmh⟩, hnp⟩, hcd9⟩, hmn⟩, hpa⟩, hm16⟩ := hw9
  have hpl : plainFor (cY mj) = true := by
    obtain ⟨z, hz, hb9⟩ := any2 hcd9
    rw [← Nat.eq_of_beq_eq_true hb9]
    exact pf_ok z hz
  have hM := metOf (l := l) (D := D) (ca := ca) (ad := ad) (base := base) (sim n) hnl (Nat.le_of_ble_eq_true hmn) hpl h8.2 hrun hrv hA
  exact sC (q := (av, rest)) (d' := d) hx hb hml hown hts hK hP hS hl.1 (by show d + 2 ≤ 2048; omega) (by show 60 * (d + 2) ≤ 94400; omega) hc9 hs9 hw ha h8.1 hM (fun H1 locs1 hP1 hS1 => K2 H1 locs1 ls hP1 hS1 hl)
set_option maxHeartbeats 4000000 in
/-- a call of one of the law's own methods -/
theorem wl_7 {n d mi i na : Nat} {z : Nat × Nat × Nat × Nat × Value} {av rest : List Value} {P9 : Int32 → AH → Prop} (hc : cdT mL_law pc = some (7, .invokestatic i, z)) (hw : lwB mi i pc na = true) (ha : cArgs 1 na mi st = some (av, rest)) (h8 : (rest.map fun v => v.category).sum ≤ 8) (hd : d ≤ 100) (hcr : cells + 2 ^ n ≤ 603072 ∧ slots + 6 * 2 ^ n ≤ 7227498)
    (hM : LM n d mi av h P9) (K : ∀ k h2, P9 k h2 → WL p l e s m b below meth c D ca ad base L xs (cells + 2 ^ n) (slots + 6 * 2 ^ n) (pc + 3) lc (.int k :: rest) h2) : WL p l e s m b below meth c D ca ad base L xs cells slots pc lc st h := by
  intro F hc9 hs9 H locs ls hP hS hl
  obtain ⟨k, h3, p9, n1, i1, mj, na1, pc1, lc1, st1, av1, rest1, o1, hcat, hrun, hw1, ha1, h81, hRT, hk⟩ := hM
  have K2 := fun H1 locs1 ls1 hP1 hS1 hl1 => K k h3 p9 F hcr.1 hcr.2 H1 locs1 ls1 hP1 hS1 hl1
  obtain ⟨hx, hb, hml, hown, hts, hK, hA, hZ, hbs, hfl, had, hbl, hX⟩ := F
  unfold lwB at hw
  simp only [Bool.and_eq_true, decide_eq_true_eq] at hw
  obtain ⟨⟨⟨hmi, hi⟩, hdg⟩, hpa⟩ := hw
  have hi := Nat.eq_of_beq_eq_true hi
  obtain ⟨g1, g2, g3, g4, g5, g6, g7, g8⟩ := lwG_ok mi hmi
  obtain ⟨w1, w2, w3⟩ := lwP_ok mi hmi
  rw [hi] at w1
  have hM := metL (l := l) (D := D) (ca := ca) (ad := ad) (base := base) (hh := lwH mi) hfl g1 g2 g3 g4 g5 hcat hrun hw1 ha1 h81 hRT hk hA
  have hown2 : s.vm.findClass RL = some m.cls := hown
  unfold cArgs at ha
  split at ha
  case isFalse => cases ha
  rename_i hna
  simp only [] at ha
  cases ha
  have hlen : (((st.take na).reverse).map (em ad)).length = na := by simp; omega
  have hst : st.map (em ad) = (((st.take na).reverse).map (em ad)).reverse ++ (st.drop na).map (em ad) := by
    rw [← List.map_reverse, List.reverse_reverse]
    conv => lhs; rw [← List.take_append_drop na st]
    rw [List.map_append]
  have hbs2 : base ≤ s.heap.size := by omega
  refine callXT (o1 := .inl (some (.int k), h3)) (rest := st.drop na) (vx_runSX (As := ((st.take na).reverse).map (em ad)) (Ts := wAll) (own := RL) (index := i) (bytes := cB mi) (maxL := cM mi) (ret := cR mi) (hh := lwH mi) (ws := wsL mi (lwH mi)) (rm := rmT (d + 1) n) (n := na) ⟨hx, hb, hml, hown2, hts⟩ hM
    (vx_cwSW na hts (gAll (fun w hw => ?_)) rfl rfl rfl ⟨g7.1, g7.2, hpa⟩ ⟨by show d + 1 + 7 + 1 ≤ 2048; omega, by show 8 + (cM mi + 11) + (60 * (d + 1 + 1) + 120) ≤ 94400; omega⟩)
    ⟨PcT_blind, fun U hU hW => ⟨rfl, ⟨by rw [hU]; exact hP, va_K.moved hW.alike hK⟩, hZ.moved hW (fun a h1 h2 => by rw [hU]; exact hS.2.1 a h1 h2), by rw [hU]; exact Nat.le_trans hbs2 hS.1⟩⟩ rfl hlen hl.1 hst (lv_room (by rw [em_cats]; exact h8)) hdg hcr) hS (fun v h2 e1 H1 locs1 hP1 hS1 => ?_) (fun en h2 e1 => by cases e1)
  · unfold va_wsS at hw
    rcases List.mem_append.mp hw with h | h
    · simp only [List.mem_cons, List.not_mem_nil, or_false] at h
      rcases h with h | h | h <;> rw [h]
      · exact wA (tb_in _ _ w1) rfl
      · exact wA (tb_in _ _ w2) rfl
      · rw [g8]; exact wA (tb_in _ _ lwN_ok) rfl
    · rcases List.mem_cons.mp h with h | h
      · rw [h]; exact wA (tb_in _ _ w3) rfl
      · exact h
  · cases e1
    exact K2 H1 locs1 ls hP1 hS1 hl
end
section
variable {d mi pc pc' nx r1 r2 r3 : Nat} {lc lc' : LC} {st st' : List Value} {h h2 h' : AH} {v : Option Value} {ins : Instr} {w : Value}
theorem er_ls {k n : Nat} {sl : List Nat} {i : Int32} {x : Int64} (hc : cdT mi pc = some (3, .lastore, nx, r1, r2, r3, w)) (hl : layAt k = (5, n, sl)) (hi : vp_in i n) (K : EvR d mi nx lc st (hL h k i.toNatClampNeg x) v h') : EvR d mi pc lc (.long x :: .int i :: .ref k :: st) h v h' := by
  refine er_s (pc' := nx) (lc' := lc) (st' := st) (h2 := hL h k i.toNatClampNeg x) ?_ K
  unfold stp
  simp only [hc, stH, hl]
  rw [if_neg hi]
theorem er_ds {k n : Nat} {sl : List Nat} {i : Int32} {x : UInt64} (hc : cdT mi pc = some (3, .dastore, nx, r1, r2, r3, w)) (hl : layAt k = (6, n, sl)) (hi : vp_in i n) (K : EvR d mi nx lc st (hD h k i.toNatClampNeg x) v h') : EvR d mi pc lc (.double x :: .int i :: .ref k :: st) h v h' := by
  refine er_s (pc' := nx) (lc' := lc) (st' := st) (h2 := hD h k i.toNatClampNeg x) ?_ K
  unfold stp
  simp only [hc, stH, hl]
  rw [if_neg hi]
theorem er_f2d {x : UInt32} (hc : cdT mi pc = some (0, .f2d, nx, r1, r2, r3, w)) (hn : nnD (FP.f2d x)) (K : EvR d mi nx lc (.double (FP.f2d x) :: st) h v h') : EvR d mi pc lc (.float x :: st) h v h' := by
  refine er_s (pc' := nx) (lc' := lc) (st' := .double (FP.f2d x) :: st) (h2 := h) ?_ K
  unfold stp
  simp only [hc, stA]
  rw [if_pos hn]
theorem er_dadd {x y : UInt64} (hc : cdT mi pc = some (0, .dadd, nx, r1, r2, r3, w)) (hn : nnD (FP.dadd x y)) (K : EvR d mi nx lc (.double (FP.dadd x y) :: st) h v h') : EvR d mi pc lc (.double y :: .double x :: st) h v h' := by
  refine er_s (pc' := nx) (lc' := lc) (st' := .double (FP.dadd x y) :: st) (h2 := h) ?_ K
  unfold stp
  simp only [hc, stA]
  rw [if_pos hn]
theorem et_dadd {n : Nat} {P : Out → Prop} {x y : UInt64} (hc : cdT mi pc = some (0, .dadd, nx, r1, r2, r3, w)) (hn : nnD (FP.dadd x y)) (K : TX n d mi nx lc (.double (FP.dadd x y) :: st) h P) : TX n d mi pc lc (.double y :: .double x :: st) h P := by
  refine et_s (pc' := nx) (lc' := lc) (st' := .double (FP.dadd x y) :: st) (h2 := h) ?_ K
  unfold stp
  simp only [hc, stA]
  rw [if_pos hn]
theorem er_dsub {x y : UInt64} (hc : cdT mi pc = some (0, .dsub, nx, r1, r2, r3, w)) (hn : nnD (FP.dsub x y)) (K : EvR d mi nx lc (.double (FP.dsub x y) :: st) h v h') : EvR d mi pc lc (.double y :: .double x :: st) h v h' := by
  refine er_s (pc' := nx) (lc' := lc) (st' := .double (FP.dsub x y) :: st) (h2 := h) ?_ K
  unfold stp
  simp only [hc, stA]
  rw [if_pos hn]
theorem et_dsub {n : Nat} {P : Out → Prop} {x y : UInt64} (hc : cdT mi pc = some (0, .dsub, nx, r1, r2, r3, w)) (hn : nnD (FP.dsub x y)) (K : TX n d mi nx lc (.double (FP.dsub x y) :: st) h P) : TX n d mi pc lc (.double y :: .double x :: st) h P := by
  refine et_s (pc' := nx) (lc' := lc) (st' := .double (FP.dsub x y) :: st) (h2 := h) ?_ K
  unfold stp
  simp only [hc, stA]
  rw [if_pos hn]
theorem er_dmul {x y : UInt64} (hc : cdT mi pc = some (0, .dmul, nx, r1, r2, r3, w)) (hn : nnD (FP.dmul x y)) (K : EvR d mi nx lc (.double (FP.dmul x y) :: st) h v h') : EvR d mi pc lc (.double y :: .double x :: st) h v h' := by
  refine er_s (pc' := nx) (lc' := lc) (st' := .double (FP.dmul x y) :: st) (h2 := h) ?_ K
  unfold stp
  simp only [hc, stA]
  rw [if_pos hn]
theorem et_dmul {n : Nat} {P : Out → Prop} {x y : UInt64} (hc : cdT mi pc = some (0, .dmul, nx, r1, r2, r3, w)) (hn : nnD (FP.dmul x y)) (K : TX n d mi nx lc (.double (FP.dmul x y) :: st) h P) : TX n d mi pc lc (.double y :: .double x :: st) h P := by
  refine et_s (pc' := nx) (lc' := lc) (st' := .double (FP.dmul x y) :: st) (h2 := h) ?_ K
  unfold stp
  simp only [hc, stA]
  rw [if_pos hn]
theorem er_ddiv {x y : UInt64} (hc : cdT mi pc = some (0, .ddiv, nx, r1, r2, r3, w)) (hn : nnD (FP.ddiv x y)) (K : EvR d mi nx lc (.double (FP.ddiv x y) :: st) h v h') : EvR d mi pc lc (.double y :: .double x :: st) h v h' := by
  refine er_s (pc' := nx) (lc' := lc) (st' := .double (FP.ddiv x y) :: st) (h2 := h) ?_ K
  unfold stp
  simp only [hc, stA]
  rw [if_pos hn]
theorem et_ddiv {n : Nat} {P : Out → Prop} {x y : UInt64} (hc : cdT mi pc = some (0, .ddiv, nx, r1, r2, r3, w)) (hn : nnD (FP.ddiv x y)) (K : TX n d mi nx lc (.double (FP.ddiv x y) :: st) h P) : TX n d mi pc lc (.double y :: .double x :: st) h P := by
  refine et_s (pc' := nx) (lc' := lc) (st' := .double (FP.ddiv x y) :: st) (h2 := h) ?_ K
  unfold stp
  simp only [hc, stA]
  rw [if_pos hn]
end
end
