noncomputable section
set_option maxRecDepth 100000 in
theorem wf_L_law_0 : ∀ q ∈ cl_L_law_0, wfE 198 q.1 q.2 = true := by decide +kernel
set_option maxRecDepth 100000 in
theorem wf_L_law_1 : ∀ q ∈ cl_L_law_1, wfE 198 q.1 q.2 = true := by decide +kernel
set_option maxRecDepth 100000 in
theorem wf_L_law_2 : ∀ q ∈ cl_L_law_2, wfE 198 q.1 q.2 = true := by decide +kernel
set_option maxRecDepth 100000 in
theorem wf_L_law_3 : ∀ q ∈ cl_L_law_3, wfE 198 q.1 q.2 = true := by decide +kernel
set_option maxRecDepth 100000 in
theorem wf_L_law_4 : ∀ q ∈ cl_L_law_4, wfE 198 q.1 q.2 = true := by decide +kernel
theorem wd_L_law (pc : Nat) : ∀ q ∈ cd_L_law pc, wfE 198 q.1 q.2 = true := tB (P := fun q : List (Nat × Ent) => ∀ x ∈ q, wfE 198 x.1 x.2 = true) (tB (P := fun q : List (Nat × Ent) => ∀ x ∈ q, wfE 198 x.1 x.2 = true) (wf_L_law_0) (wf_L_law_1)) (tB (P := fun q : List (Nat × Ent) => ∀ x ∈ q, wfE 198 x.1 x.2 = true) (wf_L_law_2) (tB (P := fun q : List (Nat × Ent) => ∀ x ∈ q, wfE 198 x.1 x.2 = true) (wf_L_law_3) (wf_L_law_4)))
theorem cdT_wfL {pc : Nat} {e : Ent} (h : cdT mL_law pc = some e) : wfE mL_law pc e = true := by
  unfold cdT at h
  have h1 : (pc, e) ∈ cdS mL_law pc := lk_mem (cdS mL_law pc) pc e h
  have h2 : cdS mL_law pc = cd_L_law pc := rfl
  rw [h2] at h1
  exact wd_L_law pc (pc, e) h1

def R_law : String := "SawnIceLaw"
def lw_P (b : Addr) (xs : List Int32) (args : Array Value) (s : State) : Prop := args = #[.ref b] ∧ s.IntsAt b xs ∧ xs.length ≤ 260 ∧ (Jvm.Cond.and given_1 narrow_1).before args s = true
/-- what a walk over the start with the record d0 says of its end, said of the start itself -/
theorem lw_closed {s t : State} {o : Outcome} {d0 : Drawn} {L : List Loc} {k n : Nat} (hd0 : s.drawn.sameBut d0 lw_cs) (hv : ∃ v, o = .returned v) (hW : (s.setDrawn d0).WarmedH t.vm) (hs : (s.setDrawn d0).sameButNew ({ t with vm := s.vm } : State) L k n) : State.butDraws s t lw_cs (fun t1 => Framed s o t1 L k n) := by
  have h2 : t.drawn = d0 := congrArg State.drawn hs.1
  refine ⟨⟨hv, hW, State.sameButNew.setDrawn hs s.drawn⟩, ?_, by decide⟩
  rw [h2]
  exact hd0
def lw_Q (_ : Array Value) (s : State) (o : Outcome) (t : State) : Prop := o = .returned (some (.int 1)) ∧ State.butDraws s t lw_cs (fun t1 => Framed s o t1 [] 600390 7292760)
def lw_Z (below : List Frame) (a : Array Value) (s : State) : State → Prop := fun t => ∃ o, t.status = .running ∧ Ended t below o ∧ lw_Q a s o t
/-- the law's own end, with 1 on the stack, nothing written that was there before, its room as the claim has it; d0: the record of draws at this point (at the entry s.drawn: begin with 'refine W.base ?_' and 'have hd0 := Drawn.sameBut.refl s.drawn lw_cs') -/
theorem lw_ret {p : Program} {l : Launch} {e : Env} {s : State} {m : MethodId} {below : List Frame} {meth : Method} {c : Code} {b : Nat} {d0 : Drawn} (hd0 : s.drawn.sameBut d0 lw_cs) (hx : p.tables.exec = Jvm.exec) (hb : c.code = code) (hr : meth.sig.returnType = ret) (hlocks : meth.locks = false) {pc : Nat} {H : Heap} {ls : Array Slot} (hdg : decode code pc = .ok (.ireturn, 1)) : W p l e room_1 (s.setDrawn d0) m #[Value.ref b] below meth c H [] 600390 7292760 (lw_Z below #[Value.ref b] s) (F0 m pc ls [.int 1]) := by
  intro T hT X
  obtain ⟨fs, hret, hrun, hended, hW, hframe⟩ := X.leave (v := some (.int 1)) (hlocks := hlocks) (fun h => by rw [hr] at h; cases h)
  have hmeth' : T.vm.method? m = some meth := X.method'
  refine ⟨T.setFrames fs, ?_, .returned (some (.int 1)), hrun, hended, rfl, lw_closed hd0 ⟨_, rfl⟩ hW hframe⟩
  jvm_step X.here [X.here.top, hx, hb, hdg, hmeth', hr, ret, narrow_b1]
  (try refine ⟨rfl, ?_⟩); (try refine ⟨rfl, ?_⟩)
  first | (intro acts; rw [hret _ acts rfl rfl rfl]) | rw [hret _ _ rfl rfl rfl]
  exact Steps.refl _
/-- what holds at the law's entry: the machine, the code, the tables' words (any of lw_tbl by 'hts w (by decide +kernel)'), the script of L ints xs at the cell b, what the Statement gives of the start (any of its parts by flat_of_before) -/
def lw_At (p : Program) (s : State) (m : MethodId) (meth : Method) (c : Code) (b L : Nat) (xs : Nat → Int32) : Prop :=
  p.tables.exec = Jvm.exec ∧ c.code = code ∧ meth.sig.returnType = ret ∧ c.maxLocals = 9 ∧ s.vm.findClass R_law = some m.cls ∧ (∀ w ∈ lw_tbl, w.before #[Value.ref b] s = true) ∧ va_X b L xs s s.heap ∧ b < s.heap.size ∧ meth.locks = false ∧ (Jvm.Cond.and given_1 narrow_1).before #[Value.ref b] s = true
theorem wl_fin {p : Program} {l : Launch} {e : Env} {s : State} {m : MethodId} {below : List Frame} {meth : Method} {c : Code} {b dR KC : Nat} {D : va_G} {ca : Nat → ClassId} {ad0 ad : Nat → Nat} {A : Nat → Prop} {E : EX} {G : Nat → Nat → Int32} {kc : Nat} {lc : LC} {h : AH} (hr : meth.sig.returnType = ret) (hA : ∀ q, A q → s.heap.size ≤ q) (hKC : KC ≤ 100000) : WL p l e room_1 s m #[.ref b] below meth c (lw_Z below #[Value.ref b] s) mL_law dR KC D ca ad0 A ad E G kc 342 lc [.int 1] h := by
  intro F hk H locs ls cells slots hc9 hs9 hP hX hS hl
  obtain ⟨⟨hx, hb, -⟩, -, -, -, -, -, hlk⟩ := F
  exact va_forget (fun q hq => hA _ (hS.2.2 q hq)) (W.widen (show cells ≤ 600390 by omega) (show slots ≤ 7292760 by omega) (W.base (lw_ret (Drawn.sameBut.refl s.drawn lw_cs) hx hb hr hlk (by decide +kernel))))
end
