-- needs: 9974
noncomputable section
section
variable {p : Program} {l : Launch} {e : Env} {R : Room} {s : State} {m : MethodId} {args : Array Value} {below : List Frame} {meth : Method} {c : Code} {H H0 : Heap} {locs : List Loc} {cells slots : Nat} {Q : State → Prop} {ls : Array Slot} {D : va_G} {ca : Nat → ClassId} {A : Nat → Prop} {tys : List (ClassId × FieldType)} {ws : va_W}
theorem w_obj : Cond.instanceMethod Lib.objectInit ∈ wAll ∧ Cond.code Lib.objectInit ⟨#[0xb1]⟩ 1 none ∈ wAll := ⟨wA (tb_in 1 38 (by decide +kernel)) rfl, wA (tb_in 1 39 (by decide +kernel)) rfl⟩
theorem jObj {mi pc idx a : Nat} {rest : List Value} (hx : p.tables.exec = Jvm.exec) (hb : c.code = cB mi) (hml : c.maxLocals = cM mi) (hown : s.vm.findClass (oN (cO mi)) = some m.cls) (hts : ∀ w ∈ wAll, w.before args s = true) (hl : ls.size = cM mi) (w1 : Cond.methodLink (oN (cO mi)) idx Lib.objectInit ∈ wAll) (h8 : (rest.map fun v => v.category).sum ≤ 8) (hR : 1 ≤ R.frames ∧ 20 ≤ R.locals) (hdg : decode (cB mi) pc = .ok (.invokespecial idx, 3)) (kk : W p l e R s m args below meth c H locs cells slots Q (F0 m (pc + 3) ls rest)) : W p l e R s m args below meth c H locs cells slots Q (F0 m pc ls (.ref a :: rest)) := by
  have z := lv_room (m := m) (pc := pc) (ls := ls) (rest := .ref a :: rest) h8
  exact W.objInit hx hb hown (hts _ w1) (hts _ w_obj.1) (hts _ w_obj.2) rfl (by rw [hml]; exact hl) rfl hdg hR.1 (by omega) kk
theorem jI {mi mj d' mc ms i pc q : Nat} {v : va_E} {Sh : va_W → Prop} {rest : List Value} (hx : p.tables.exec = Jvm.exec) (hb : c.code = cB mi) (hml : c.maxLocals = cM mi) (hown : s.vm.findClass (oN (cO mi)) = some m.cls) (hts : ∀ w ∈ wAll, w.before args s = true) (hl : ls.size = cM mi) (hR : (rmC d' mc ms).frames + 1 ≤ R.frames ∧ 8 + (cM mj + 11) + (rmC d' mc ms).locals ≤ R.locals) (hc : cells + mc ≤ R.cells ∧ slots + ms ≤ R.slots)
    (w1 : Cond.methodLink (oN (cO mi)) i (cY mj) ∈ wAll) (w2 : Cond.instanceMethod (cY mj) ∈ wAll) (w3 : Cond.initialized (cY mj).cls ∈ wAll) (w4 : Cond.code (cY mj) (cB mj) (cM mj) (cR mj) ∈ wAll) (hret : cR mj = none) (hnm : (cY mj).name = "<init>") (hmh : (cY mj).cls ≠ "java/lang/invoke/MethodHandle" ∧ (cY mj).cls ≠ "java/lang/invoke/VarHandle" ∧ (parseMethodDescriptor (cY mj).desc).map (fun d => d.parameters.length) = some 0) (hdg : decode (cB mi) pc = .ok (.invokespecial i, 3)) (h8 : (rest.map fun v => v.category).sum ≤ 8)
    (hM : Met l (cY mj) (wsM mj) (rmC d' mc ms) (va_Pc [.ref q] (CtP D ca q H.size v)) (CtQ D q H.size Sh) mc ms (AQ q H.size)) (hP : va_P D vcls (ws ++ [(q, v)]) H) (hK : va_K D vcls (tysOf ca) s) (hO : AOk s) : va_Run p l e R s m args below meth c H locs cells slots mc ms (F0 m pc ls (.ref q :: rest)) rest (CtQ D q H.size Sh #[.ref q]) (AQ q H.size) := by
  have hq : va_P D vcls [(q, v)] H := fun k x hx => by
    have a := (List.getElem?_eq_some_iff.mp hx).1
    simp only [List.length_cons, List.length_nil] at a
    rw [show k = 0 by omega] at hx
    cases hx
    exact hP ws.length _ (by rw [List.getElem?_append_right (Nat.le_refl _), Nat.sub_self]; rfl)
  exact va_runI (As := []) (Ts := wAll) (bytes := cB mj) (maxL := cM mj) ⟨hx, hb, hml, hown, hts⟩ hM (cwI 0 hts (gAll (fun w hw => by
    rcases List.mem_cons.mp hw with h | h
    · rw [h]; exact w4
    · exact h)) (by unfold wsM; rw [hret]) rfl rfl (hts _ w3) (hts _ w1) (hts _ w2) hnm hmh hR) ⟨CtP_blind, fun U hU hW => ⟨rfl, by rw [hU], by rw [hU]; exact hq, va_K.moved hW.alike hK, hO.warm hW⟩⟩ rfl rfl hl rfl (lv_room h8) hdg hc
def wLoads (ca : Nat → ClassId) (q a : Nat) : va_W := [(q, .inr (3, [.ref a])), (a, .inl (ca 4, 40, .inr (.inr (.inl (fun _ => 0)))))]
def wOutl (ca : Nat → ClassId) (q a : Nat) : va_W := [(q, .inr (5, [.ref a])), (a, .inl (ca 1, 12, .inl (fun _ => 0)))]
theorem met_X5 {q sz : Nat} : Met l (cY mX5_init) (wsM mX5_init) (rmC 1 1 40) (va_Pc [.ref q] (CtP D ca q sz (.inr (3, [.null])))) (CtQ D q sz (fun w => ∃ a, w = wLoads ca q a)) 1 40 (AQ q sz) := by
  refine jMc (by decide +kernel) (by decide) rfl (by decide) (fun p e s m below meth c hx hb hr hlk hml hown hts hin hsz hP hD hK hO ls hl => ?_)
  have hL : ¬ mX5_init = mL_law := by decide
  have hA : ∀ x, s.heap.size ≤ x → AQ q sz x := fun x h => Or.inr (by omega)
  refine jL hx hb hl hL rfl rfl (fun ls hl => ?_)
  refine jObj (idx := 3) hx hb hml hown hts hl.1 (wA (tb_in 1 150 (by decide +kernel)) rfl) (by decide) ⟨by decide, by decide⟩ (by decide +kernel) ?_
  refine jL hx hb hl hL rfl rfl (fun ls hl => ?_)
  refine jA hx hb hown hts hL rfl rfl ?_
  refine jNa (atype := .float) (t0 := 2) (cA0 := ca 4) (ty := .float) (N' := 40) (a0 := (40, .inr (.inr (.inl (fun _ => 0))))) hx hb hts (wA (tb_in 1 132 (by decide +kernel)) rfl) rfl hK rfl hP hD va_S.rf hA (fun _ => rfl) (by decide) (by decide) (by decide) (by decide) (by decide) (by decide +kernel) (fun a1 H hP hD hS => ?_)
  refine jPut (index := 9) (ci := 3) (k := 0) (q0 := 0) (fs := [.null]) hx hb hown hts hK hP hD hS rfl (by decide) (by decide) (by decide +kernel) (by decide) hin rfl rfl (by decide) (by decide +kernel) (fun H locs hP hD hS => ?_)
  exact ctRet hx hb hr hlk hsz (by decide +kernel) ⟨a1, rfl⟩ hP hD hS
end
end
