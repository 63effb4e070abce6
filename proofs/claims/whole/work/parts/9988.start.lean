-- needs: 9987
noncomputable section
section
variable {p : Program} {l : Launch} {e : Env} {R : Room} {s : State} {m : MethodId} {args : Array Value} {below : List Frame} {meth : Method} {c : Code} {H H0 : Heap} {locs : List Loc} {cells slots : Nat} {Q : State → Prop} {ls : Array Slot} {D : va_G} {ca : Nat → ClassId} {A : Nat → Prop} {tys : List (ClassId × FieldType)} {ws : va_W}
theorem jIx {mi mj d' mc ms i pc q : Nat} {v : va_E} {Sh : va_W → Prop} {rest : List Value} (hx : p.tables.exec = Jvm.exec) (hb : c.code = cB mi) (hml : c.maxLocals = cM mi) (hown : s.vm.findClass (oN (cO mi)) = some m.cls) (hts : ∀ w ∈ wAll, w.before args s = true) (hl : ls.size = cM mi) (hR : (rmC d' mc ms).frames + 1 ≤ R.frames ∧ 8 + (cM mj + 11) + (rmC d' mc ms).locals ≤ R.locals) (hc : cells + mc ≤ R.cells ∧ slots + ms ≤ R.slots)
    (w1 : Cond.methodLink (oN (cO mi)) i (cY mj) ∈ wAll) (w2 : Cond.instanceMethod (cY mj) ∈ wAll) (w3 : Cond.initialized (cY mj).cls ∈ wAll) (w4 : Cond.code (cY mj) (cB mj) (cM mj) (cR mj) ∈ wAll) (hret : cR mj = none) (hnm : (cY mj).name = "<init>") (hmh : (cY mj).cls ≠ "java/lang/invoke/MethodHandle" ∧ (cY mj).cls ≠ "java/lang/invoke/VarHandle" ∧ (parseMethodDescriptor (cY mj).desc).map (fun d => d.parameters.length) = some 0) (hdg : decode (cB mi) pc = .ok (.invokespecial i, 3)) (h8 : (rest.map fun v => v.category).sum ≤ 8)
    (hM : Met l (cY mj) (wsM mj) (rmC d' mc ms) (va_Pc [.ref q] (fun U => CtP D ca q H.size v U ∧ AOA .int U ∧ AOA .float U)) (CtQ D q H.size Sh) mc ms (AQ q H.size)) (hP : va_P D vcls (ws ++ [(q, v)]) H) (hK : va_K D vcls (tysOf ca) s) (hO : AOk s) (hI : AOA .int s) (hF : AOA .float s) : va_Run p l e R s m args below meth c H locs cells slots mc ms (F0 m pc ls (.ref q :: rest)) rest (CtQ D q H.size Sh #[.ref q]) (AQ q H.size) := by
  have hq : va_P D vcls [(q, v)] H := fun k x hx => by
    have a := (List.getElem?_eq_some_iff.mp hx).1
    simp only [List.length_cons, List.length_nil] at a
    rw [show k = 0 by omega] at hx
    cases hx
    exact hP ws.length _ (by rw [List.getElem?_append_right (Nat.le_refl _), Nat.sub_self]; rfl)
  exact va_runI (As := []) (Ts := wAll) (bytes := cB mj) (maxL := cM mj) ⟨hx, hb, hml, hown, hts⟩ hM (cwI 0 hts (gAll (fun w hw => by
    rcases List.mem_cons.mp hw with h | h
    · rw [h]; exact w4
    · exact h)) (by unfold wsM; rw [hret]) rfl rfl (hts _ w3) (hts _ w1) (hts _ w2) hnm hmh hR) ⟨fun a U g mk z => ⟨z.1, (CtP_blind a U g mk ⟨z.1, z.2.1⟩).2, AOA.moved (u := U) (U := U.calling g mk a) (Vm.Alike.refl U.vm) z.2.2.1, AOA.moved (u := U) (U := U.calling g mk a) (Vm.Alike.refl U.vm) z.2.2.2⟩, fun U hU hW => ⟨rfl, ⟨by rw [hU], by rw [hU]; exact hq, va_K.moved hW.alike hK, hO.warm hW⟩, hI.moved hW.alike, hF.moved hW.alike⟩⟩ rfl rfl hl rfl (lv_room h8) hdg hc
theorem kL {pc nx r1 r2 r3 : Nat} {ins : Instr} {v : Value} {lc : LC} {st : List Value} {q : LC × List Value} (hx : p.tables.exec = Jvm.exec) (hb : c.code = cB mL_law) (hl : lv_has ls (cM mL_law) (lm id lc)) (hc : cdT mL_law pc = some (1, ins, nx, r1, r2, r3, v)) (hs : stL ins v lc st = some q) (k : ∀ ls' : Array Slot, lv_has ls' (cM mL_law) (lm id q.1) → W p l e R s m args below meth c H locs cells slots Q (F0 m nx ls' q.2)) : W p l e R s m args below meth c H locs cells slots Q (F0 m pc ls st) := by
  have z := sL (ad := id) (st := st) (Q := Q) (R := R) (l := l) (p := p) (e := e) (s := s) (args := args) (below := below) (meth := meth) (H := H) (locs := locs) (cells := cells) (slots := slots) (m := m) hx hb hl (cdT_wfL hc) hs (fun ls' h' => by rw [map_em]; exact k ls' h')
  rw [map_em] at z
  exact z
theorem kA {pc nx r1 r2 r3 : Nat} {ins : Instr} {v : Value} {st st' : List Value} (hx : p.tables.exec = Jvm.exec) (hb : c.code = cB mL_law) (hown : s.vm.findClass (oN (cO mL_law)) = some m.cls) (hts : ∀ w ∈ wAll, w.before args s = true) (hc : cdT mL_law pc = some (0, ins, nx, r1, r2, r3, v)) (hs : stA ins v st = some st') (k : W p l e R s m args below meth c H locs cells slots Q (F0 m nx ls st')) : W p l e R s m args below meth c H locs cells slots Q (F0 m pc ls st) := by
  have z := sA (ad := id) (st := st) (Q := Q) (R := R) (l := l) (p := p) (e := e) (s := s) (args := args) (below := below) (meth := meth) (H := H) (locs := locs) (cells := cells) (slots := slots) (m := m) (ls := ls) hx hb hown hts (cdT_wfL hc) hs (by rw [map_em]; exact k)
  rw [map_em] at z
  exact z
def d10 : List Value := [.null, .null, .null, .null, .null, .null, .null, .null, .null, .int 0]
def d11 : List Value := [.int 0, .null, .null, .null, .null, .null, .null, .null, .null, .null, .null, .int 0, .int 0, .int 0, .int 0, .int 0, .null, .null, .null, .int 0, .int 0, .int 0, .int 0, .int 0, .null]
theorem law_start {b base : Nat} {Sh10 Sh11 : Nat → va_W → Prop} (m10 : ∀ q sz, Met l (cY mX10_init) (wsM mX10_init) (rmC 4 180 6575) (va_Pc [.ref q] (CtP D ca q sz (.inr (8, d10)))) (CtQ D q sz (Sh10 q)) 180 6575 (AQ q sz)) (m11 : ∀ q sz, Met l (cY mX11_init) (wsM mX11_init) (rmC 2 30 5979) (va_Pc [.ref q] (fun U => CtP D ca q sz (.inr (9, d11)) U ∧ AOA .int U ∧ AOA .float U)) (CtQ D q sz (Sh11 q)) 30 5979 (AQ q sz))
    (hx : p.tables.exec = Jvm.exec) (hb : c.code = cB mL_law) (hml : c.maxLocals = cM mL_law) (hown : s.vm.findClass (oN (cO mL_law)) = some m.cls) (hts : ∀ w ∈ wAll, w.before args s = true) (hbs : base = s.heap.size) (hK : va_K D vcls (tysOf ca) s) (hO : AOk s) (hI : AOA .int s) (hF : AOA .float s) (hl : lv_has ls (cM mL_law) (lm id [(0, .ref b)]))
    (KT : ∀ (q10 q11 ql qd : Nat) (w10 w11 : va_W) (H : Heap) (locs : List Loc) (ls : Array Slot), Sh10 q10 w10 → Sh11 q11 w11 → va_P D vcls (((w10 ++ w11) ++ [(ql, .inl (ca 5, 1, .inr (.inl (fun _ => 0))))]) ++ [(qd, .inl (ca 6, 1, .inr (.inr (.inr (.inl (fun _ => 0))))))]) H → va_D (fun x : Nat => base ≤ x) (((w10 ++ w11) ++ [(ql, .inl (ca 5, 1, .inr (.inl (fun _ => 0))))]) ++ [(qd, .inl (ca 6, 1, .inr (.inr (.inr (.inl (fun _ => 0))))))]) → va_S (fun x : Nat => base ≤ x) s.heap H locs → lv_has ls (cM mL_law) (lm id [(5, .int 0), (4, .ref qd), (3, .ref ql), (2, .ref q11), (1, .ref q10), (0, .ref b)]) → W p l e room_1 s m args below meth c H locs 214 12591 Q (F0 m 28 ls [])) : W p l e room_1 s m args below meth c s.heap [] 0 0 Q (F0 m 0 ls []) := by
  have hA : ∀ x, s.heap.size ≤ x → base ≤ x := fun x h => by omega
  have hP : va_P D vcls [] s.heap := fun k x hx => by cases hx
  have hD : va_D (fun x : Nat => base ≤ x) [] := ⟨fun i j x y hi _ _ => (by cases hi), fun k x hx => (by cases hx)⟩
  refine jNew (A := fun x : Nat => base ≤ x) (i1 := 8) (ci := 8) (N := 10) (fs := d10) hx hb hown hts hK hP hD va_S.rf hA (by decide) (by decide) (wA (tb_in 1 32 (by decide +kernel)) rfl) (wA (tb_in 1 33 (by decide +kernel)) rfl) (wA (tb_in 1 1 (by decide +kernel)) rfl) (fun j hj => by rcases (show j = 0 ∨ j = 1 ∨ j = 2 ∨ j = 3 ∨ j = 4 ∨ j = 5 ∨ j = 6 ∨ j = 7 ∨ j = 8 ∨ j = 9 by omega) with rfl | rfl | rfl | rfl | rfl | rfl | rfl | rfl | rfl | rfl <;> rfl) (Nat.le_of_ble_eq_true rfl) (Nat.le_of_ble_eq_true rfl) (by decide +kernel) (fun q10 H hP hD hS => ?_)
  refine kA hx hb hown hts rfl rfl ?_
  refine ctCall (jI (mi := mL_law) (mj := mX10_init) (d' := 4) (mc := 180) (ms := 6575) (i := 116) hx hb hml hown hts hl.1 ⟨Nat.le_of_ble_eq_true rfl, Nat.le_of_ble_eq_true rfl⟩ ⟨Nat.le_of_ble_eq_true rfl, Nat.le_of_ble_eq_true rfl⟩ (wA (tb_in 1 34 (by decide +kernel)) rfl) (wA (tb_in 1 35 (by decide +kernel)) rfl) (wA (tb_in 1 1 (by decide +kernel)) rfl) (wA (tb_in 1 36 (by decide +kernel)) rfl) rfl (by decide) ⟨by decide, by decide, by decide +kernel⟩ (by decide +kernel) (Nat.le_of_ble_eq_true rfl) (m10 q10 _) hP hK hO) hP hD hS hA (fun w10 H locs sh10 hP hD hS => ?_)
  refine kL hx hb hl rfl rfl (fun ls hl => ?_)
  refine jNew (i1 := 117) (ci := 9) (N := 25) (fs := d11) hx hb hown hts hK hP hD hS hA (by decide) (by decide) (wA (tb_in 5 191 (by decide +kernel)) rfl) (wA (tb_in 5 192 (by decide +kernel)) rfl) (wA (tb_in 1 10 (by decide +kernel)) rfl) (fun j hj => by rcases (show j = 0 ∨ j = 1 ∨ j = 2 ∨ j = 3 ∨ j = 4 ∨ j = 5 ∨ j = 6 ∨ j = 7 ∨ j = 8 ∨ j = 9 ∨ j = 10 ∨ j = 11 ∨ j = 12 ∨ j = 13 ∨ j = 14 ∨ j = 15 ∨ j = 16 ∨ j = 17 ∨ j = 18 ∨ j = 19 ∨ j = 20 ∨ j = 21 ∨ j = 22 ∨ j = 23 ∨ j = 24 by omega) with rfl | rfl | rfl | rfl | rfl | rfl | rfl | rfl | rfl | rfl | rfl | rfl | rfl | rfl | rfl | rfl | rfl | rfl | rfl | rfl | rfl | rfl | rfl | rfl | rfl <;> rfl) (Nat.le_of_ble_eq_true rfl) (Nat.le_of_ble_eq_true rfl) (by decide +kernel) (fun q11 H hP hD hS => ?_)
  refine kA hx hb hown hts rfl rfl ?_
  refine ctCall (jIx (mi := mL_law) (mj := mX11_init) (d' := 2) (mc := 30) (ms := 5979) (i := 119) hx hb hml hown hts hl.1 ⟨Nat.le_of_ble_eq_true rfl, Nat.le_of_ble_eq_true rfl⟩ ⟨Nat.le_of_ble_eq_true rfl, Nat.le_of_ble_eq_true rfl⟩ (wA (tb_in 5 193 (by decide +kernel)) rfl) (wA (tb_in 5 194 (by decide +kernel)) rfl) (wA (tb_in 1 10 (by decide +kernel)) rfl) (wA (tb_in 5 195 (by decide +kernel)) rfl) rfl (by decide) ⟨by decide, by decide, by decide +kernel⟩ (by decide +kernel) (Nat.le_of_ble_eq_true rfl) (m11 q11 _) hP hK hO hI hF) hP hD hS hA (fun w11 H locs sh11 hP hD hS => ?_)
  refine kL hx hb hl rfl rfl (fun ls hl => ?_)
  refine kA hx hb hown hts rfl rfl ?_
  refine jNa (atype := .long) (t0 := 4) (cA0 := ca 5) (ty := .long) (N' := 1) (a0 := (1, .inr (.inl (fun _ => 0)))) hx hb hts (wA (tb_in 7 186 (by decide +kernel)) rfl) rfl hK rfl hP hD hS hA (fun _ => rfl) (by decide) (by decide) (by decide) (Nat.le_of_ble_eq_true rfl) (Nat.le_of_ble_eq_true rfl) (by decide +kernel) (fun ql H hP hD hS => ?_)
  refine kL hx hb hl rfl rfl (fun ls hl => ?_)
  refine kA hx hb hown hts rfl rfl ?_
  refine jNa (atype := .double) (t0 := 5) (cA0 := ca 6) (ty := .double) (N' := 1) (a0 := (1, .inr (.inr (.inr (.inl (fun _ => 0)))))) hx hb hts (wA (tb_in 7 187 (by decide +kernel)) rfl) rfl hK rfl hP hD hS hA (fun _ => rfl) (by decide) (by decide) (by decide) (Nat.le_of_ble_eq_true rfl) (Nat.le_of_ble_eq_true rfl) (by decide +kernel) (fun qd H hP hD hS => ?_)
  refine kL hx hb hl rfl rfl (fun ls hl => ?_)
  refine kA hx hb hown hts rfl rfl ?_
  refine kL hx hb hl rfl rfl (fun ls hl => ?_)
  exact KT q10 q11 ql qd w10 w11 H locs ls sh10 sh11 hP hD hS hl
end
end
