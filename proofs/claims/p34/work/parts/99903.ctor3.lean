-- needs: 9975
noncomputable section
section
variable {p : Program} {l : Launch} {e : Env} {R : Room} {s : State} {m : MethodId} {args : Array Value} {below : List Frame} {meth : Method} {c : Code} {H H0 : Heap} {locs : List Loc} {cells slots : Nat} {Q : State → Prop} {ls : Array Slot} {D : va_G} {ca : Nat → ClassId} {A : Nat → Prop} {tys : List (ClassId × FieldType)} {ws : va_W}
theorem jIN {mi mj d' mc ms i pc q : Nat} {v : va_E} {Sh : va_W → Prop} {rest : List Value} (hx : p.tables.exec = Jvm.exec) (hb : c.code = cB mi) (hml : c.maxLocals = cM mi) (hown : s.vm.findClass (oN (cO mi)) = some m.cls) (hts : ∀ w ∈ wAll, w.before args s = true) (hl : ls.size = cM mi) (hR : (rmC d' mc ms).frames + 1 ≤ R.frames ∧ 8 + (cM mj + 11) + (rmC d' mc ms).locals ≤ R.locals) (hc : cells + mc ≤ R.cells ∧ slots + ms ≤ R.slots)
    (w1 : (oN (cO mi), i, mj) ∈ nestL) (w2 : Cond.instanceMethod (cY mj) ∈ wAll) (w3 : Cond.initialized (cY mj).cls ∈ wAll) (w4 : Cond.code (cY mj) (cB mj) (cM mj) (cR mj) ∈ wAll) (hret : cR mj = none) (hnm : (cY mj).name = "<init>") (hmh : (cY mj).cls ≠ "java/lang/invoke/MethodHandle" ∧ (cY mj).cls ≠ "java/lang/invoke/VarHandle" ∧ (parseMethodDescriptor (cY mj).desc).map (fun d => d.parameters.length) = some 0) (hdg : decode (cB mi) pc = .ok (.invokespecial i, 3)) (h8 : (rest.map fun v => v.category).sum ≤ 8)
    (hM : Met l (cY mj) (wsM mj) (rmC d' mc ms) (va_Pc [.ref q] (CtP D ca q H.size v)) (CtQ D q H.size Sh) mc ms (AQ q H.size)) (hP : va_P D vcls (ws ++ [(q, v)]) H) (hK : va_K D vcls (tysOf ca) s) (hO : AOk s) : va_Run p l e R s m args below meth c H locs cells slots mc ms (F0 m pc ls (.ref q :: rest)) rest (CtQ D q H.size Sh #[.ref q]) (AQ q H.size) := by
  have hq : va_P D vcls [(q, v)] H := fun k x hx => by
    have a := (List.getElem?_eq_some_iff.mp hx).1
    simp only [List.length_cons, List.length_nil] at a
    rw [show k = 0 by omega] at hx
    cases hx
    exact hP ws.length _ (by rw [List.getElem?_append_right (Nat.le_refl _), Nat.sub_self]; rfl)
  have w1n : va_Nw (.methodLinkNest (oN (cO mi)) i (cY mj) "SawnIce") s := by
    have z := hO.2 (oN (cO mi), i, mj) w1
    dsimp only at z
    exact z
  have cn : va_CN R s args (oN (cO mi)) i (cY mj) "SawnIce" (cB mj) (cM mj) none (wsM mj) (rmC d' mc ms) mc ms 0 := by
    refine va_cnB (ws' := wAll) 0 hts (gAll ?_) ?_ rfl rfl w1n (hts _ w3) hmh hR
    · intro w hw
      rcases List.mem_cons.mp hw with h | h
      · rw [h]; exact w4
      · exact h
    · unfold wsM; rw [hret]
  have pr : PreS s H (va_Pc [.ref q] (CtP D ca q H.size v)) (.ref q :: []) := ⟨CtP_blind, fun U hU hW => ⟨rfl, by rw [hU], by rw [hU]; exact hq, va_K.moved hW.alike hK, hO.warm hW⟩⟩
  have cf : CallFix p m c (cB mi) (cM mi) s args wAll (oN (cO mi)) := ⟨hx, hb, hml, hown, hts⟩
  exact va_runIN (As := []) cf hM ⟨cn, hnm, hts _ w2⟩ pr rfl rfl hl rfl (lv_room h8) hdg hc
end
end
