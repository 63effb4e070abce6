-- needs: 9973
noncomputable section
theorem ra_inj {U : State} {c1 c2 : ClassId} {ty : FieldType} (h1 : va_RA U c1 ty) (h2 : va_RA U c2 ty) : c1 = c2 := by
  cases ty with
  | object C =>
    obtain ⟨-, -, -, -, -, a⟩ := h1
    obtain ⟨-, -, -, -, -, b⟩ := h2
    exact Option.some.inj (a.symm.trans b)
  | _ =>
    have a : U.vm.findClass _ = some c1 := h1
    have b : U.vm.findClass _ = some c2 := h2
    exact Option.some.inj (a.symm.trans b)
def AQ (q n : Nat) : Nat → Prop := fun a => a = q ∨ n ≤ a
theorem join1 {A0 : Nat → Prop} {D : va_G} {cl : List vw_C} {ws w1 : va_W} {q : Nat} {e : va_E} {H H1 : Heap} (hP : va_P D cl (ws ++ [(q, e)]) H) (hD : va_D A0 (ws ++ [(q, e)])) (hF : ∀ a, H.size ≤ a → A0 a) (hk : ∀ a : Nat, a < H.size → ¬ AQ q H.size a → H1[a]? = H[a]?) (hP1 : va_P D cl w1 H1) (hD1 : va_D (AQ q H.size) w1) : va_P D cl (ws ++ w1) H1 ∧ va_D A0 (ws ++ w1) := by
  have hq : (ws ++ [(q, e)])[ws.length]? = some (q, e) := by rw [List.getElem?_append_right (Nat.le_refl _), Nat.sub_self]; rfl
  have hw : ∀ (k : Nat) (x : Nat × va_E), ws[k]? = some x → (ws ++ [(q, e)])[k]? = some x := fun k x hx => by
    rw [List.getElem?_append_left (List.getElem?_eq_some_iff.mp hx).1]; exact hx
  have hlt : ∀ (k : Nat) (x : Nat × va_E), ws[k]? = some x → x.1 < H.size ∧ x.1 ≠ q := fun k x hx => ⟨(hP k x (hw k x hx)).lt, fun z => by
    have := hD.1 k ws.length x (q, e) (hw k x hx) hq z
    have := (List.getElem?_eq_some_iff.mp hx).1
    omega⟩
  have hA : ∀ a, AQ q H.size a → A0 a := fun a h => by
    rcases h with h | h
    · rw [h]; exact hD.2 _ _ hq
    · exact hF a h
  have hPw : va_P D cl ws H := fun k x hx => hP k x (hw k x hx)
  have hPk : va_P D cl ws H1 := hPw.kept (fun k x hx => hk x.1 (hlt k x hx).1 (fun z => by
    rcases z with z | z
    · exact (hlt k x hx).2 z
    · have := (hlt k x hx).1; omega))
  refine ⟨hPk.app hP1, fun i j x y hi hj hxy => ?_, fun k x hx => ?_⟩
  · by_cases h1 : i < ws.length <;> by_cases h2 : j < ws.length
    · rw [List.getElem?_append_left h1] at hi
      rw [List.getElem?_append_left h2] at hj
      exact hD.1 i j x y (hw i x hi) (hw j y hj) hxy
    · rw [List.getElem?_append_left h1] at hi
      rw [List.getElem?_append_right (by omega)] at hj
      have a := hlt i x hi
      rcases hD1.2 _ _ hj with z | z
      · exact absurd (hxy.trans z) a.2
      · omega
    · rw [List.getElem?_append_right (by omega)] at hi
      rw [List.getElem?_append_left h2] at hj
      have a := hlt j y hj
      rcases hD1.2 _ _ hi with z | z
      · exact absurd (hxy.symm.trans z) a.2
      · omega
    · rw [List.getElem?_append_right (by omega)] at hi hj
      have := hD1.1 _ _ x y hi hj hxy
      omega
  · by_cases h1 : k < ws.length
    · rw [List.getElem?_append_left h1] at hx
      exact hD.2 k x (hw k x hx)
    · rw [List.getElem?_append_right (by omega)] at hx
      exact hA _ (hD1.2 _ _ hx)
/-- what a constructor is given: its new object, the classes, arrays of refs -/
def nestL : List (String × Nat × Nat) := [("SawnIce", 24, mX9_init), ("SawnIce$Works", 11, mX4_init), ("SawnIce$Hours", 11, mX5_init), ("SawnIce$Hours", 20, mX7_init), ("SawnIce", 31, mX0_init), ("SawnIce$Ahead", 20, mX4_init), ("SawnIce", 38, mX5_init), ("SawnIce", 45, mX7_init), ("SawnIce", 59, mX6_init)]
def AOk (U : State) : Prop := va_AO "SawnIce$Palace" U ∧ ∀ x ∈ nestL, va_Nw (.methodLinkNest x.1 x.2.1 (cY x.2.2) "SawnIce") U
def CtP (D : va_G) (ca : Nat → ClassId) (q sz : Nat) (e : va_E) : State → Prop := fun U => U.heap.size = sz ∧ va_P D vcls [(q, e)] U.heap ∧ va_K D vcls (tysOf ca) U ∧ AOk U
def CtQ (D : va_G) (q sz : Nat) (Sh : va_W → Prop) : Array Value → State → Outcome → State → Prop := fun _ st o t => o = .returned none ∧ (∃ w, Sh w ∧ va_P D vcls w t.heap ∧ va_D (AQ q sz) w) ∧ va_F (AQ q sz) st t
def rmC (d mc ms : Nat) : Room := { frames := d + 1, cells := mc, slots := ms, locals := 60 * (d + 1) }
section
variable {p : Program} {l : Launch} {e : Env} {R : Room} {s : State} {m : MethodId} {args : Array Value} {below : List Frame} {meth : Method} {c : Code} {H H0 : Heap} {locs : List Loc} {cells slots : Nat} {Q : State → Prop} {ls : Array Slot} {D : va_G} {ca : Nat → ClassId} {A : Nat → Prop} {tys : List (ClassId × FieldType)} {ws : va_W}
theorem AOk.warm {u U : State} (hW : u.WarmedH U.vm) (h : AOk u) : AOk U := ⟨h.1.moved hW.alike, fun x hx => (h.2 x hx).warmM hW⟩
theorem AOk.call {U : State} {g : JFrame} {mk : MethodId} {a : Array Value} (h : AOk U) : AOk (U.calling g mk a) := ⟨h.1.moved (U := U.calling g mk a) (Vm.Alike.refl U.vm), fun x hx => (h.2 x hx).same (U := U.calling g mk a) rfl rfl⟩
theorem CtP_blind {q sz : Nat} {v : va_E} {av : List Value} : FrameBlind (va_Pc av (CtP D ca q sz v)) := fun a U g mk z => ⟨z.1, z.2.1, z.2.2.1, va_K.moved (u := U) (U := U.calling g mk a) (Vm.Alike.refl U.vm) z.2.2.2.1, z.2.2.2.2.call⟩
theorem jMc {mj d mc ms q sz : Nat} {v : va_E} {Sh : va_W → Prop} (hpl : plainFor (cY mj) = true) (hmj : mj < nMeth) (hnm : (cY mj).name = "<init>") (hcat : 1 ≤ cM mj)
    (body : ∀ (p : Program) (e : Env) (s : State) (m : MethodId) (below : List Frame) (meth : Method) (c : Code), p.tables.exec = Jvm.exec → c.code = cB mj → meth.sig.returnType = cR mj → meth.locks = false → c.maxLocals = cM mj → s.vm.findClass (oN (cO mj)) = some m.cls → (∀ w ∈ wAll, w.before #[.ref q] s = true) → meth.name = "<init>" → s.heap.size = sz → va_P D vcls [(q, v)] s.heap → va_D (AQ q sz) [(q, v)] → va_K D vcls (tysOf ca) s → AOk s → ∀ ls : Array Slot, lv_has ls (cM mj) (lm id [(0, .ref q)]) → W p l e (rmC d mc ms) s m #[.ref q] below meth c s.heap [] 0 0 (MQ below (CtQ D q sz Sh) #[.ref q] s mc ms (AQ q sz)) (F0 m 0 ls [])) : Met l (cY mj) (wsM mj) (rmC d mc ms) (va_Pc [.ref q] (CtP D ca q sz v)) (CtQ D q sz Sh) mc ms (AQ q sz) := by
  refine ofWF (cc := cB mj) (maxL := cM mj) (ret := cR mj) hpl rfl ?_
  intro p e s m args below meth c s₁ Bd hml hv
  obtain ⟨rfl, hsz, hP, hK, hO⟩ := hv
  have hts := atoms_spec (ws := wsM mj) Bd.pre
  have hown : s.vm.findClass (oN (cO mj)) = some m.cls := by rw [← oN_ok mj (List.mem_range.mpr hmj)]; exact findClass_of_methodNamed Bd.named
  have hl := lv_entry [Value.ref q] (n := cM mj) (by rw [sl_len]; exact hcat)
  rw [lg_entry_eq]
  generalize (lg_sl [Value.ref q] ++ List.replicate (cM mj - (lg_sl [Value.ref q]).length) Slot.unset).toArray = ls at hl ⊢
  have hD : va_D (AQ q sz) [(q, v)] := ⟨fun i j x y hi hj _ => by
    have a := (List.getElem?_eq_some_iff.mp hi).1
    have b := (List.getElem?_eq_some_iff.mp hj).1
    simp only [List.length_cons, List.length_nil] at a b
    omega, fun k x hx => by
    have a := (List.getElem?_eq_some_iff.mp hx).1
    simp only [List.length_cons, List.length_nil] at a
    rw [show k = 0 by omega] at hx
    cases hx
    exact Or.inl rfl⟩
  exact body p e s m below meth c Bd.exec Bd.bytes Bd.returns Bd.notSynchronized hml hown (fun w hw => hts w (List.mem_cons_of_mem _ hw)) ((name_of_methodNamed Bd.named Bd.method).1.trans hnm) hsz hP hD hK hO ls hl
/-- an array of a kind of numbers -/
theorem jNa {mi pc t0 N' : Nat} {cA0 : ClassId} {ty : FieldType} {n : Int32} {a0 : vp_A} {atype : ArrayType} {rest : List Value} (hx : p.tables.exec = Jvm.exec) (hb : c.code = cB mi) (hts : ∀ w ∈ wAll, w.before args s = true) (hw : Cond.arrayClass ty ∈ wAll) (hty : newarray.typeOf atype = ty) (hK : va_K D vcls tys s) (ht : tys[t0]? = some (cA0, ty)) (hP : va_P D vcls ws H) (hD : va_D A ws) (hS : va_S A H0 H locs) (hA : ∀ q, H0.size ≤ q → A q)
    (ha : ∀ cA : ClassId, vp_cell cA a0 = arrV cA N' (fun _ => defaultValue ty)) (hn : ¬ n < 0) (hN : n.toNatClampNeg = N') (hbytes : N' * componentBytes ty ≤ 536870912) (hcells : cells + 1 ≤ R.cells) (hslots : slots + N' ≤ R.slots) (hdg : decode (cB mi) pc = .ok (.newarray atype, 2))
    (kk : ∀ (q : Nat) (H1 : Heap), va_P D vcls (ws ++ [(q, .inl (cA0, a0))]) H1 → va_D A (ws ++ [(q, .inl (cA0, a0))]) → va_S A H0 H1 locs → W p l e R s m args below meth c H1 locs (cells + 1) (slots + N') Q (F0 m (pc + 2) ls (.ref q :: rest))) : W p l e R s m args below meth c H locs cells slots Q (F0 m pc ls (.int n :: rest)) := by
  refine va_newa hx hb (by rw [hty]; exact hts _ hw) hty hK hP hD hS hA ha hn hN hbytes hcells hslots hdg (fun q cA H1 hK1 hP1 hD1 hS1 => ?_)
  have e1 : (tys ++ [(cA, ty)])[tys.length]? = some (cA, ty) := by rw [List.getElem?_append_right (Nat.le_refl _), Nat.sub_self]; rfl
  have e2 := ra_inj (hK1.2 _ _ e1).2 (hK.2 _ _ ht).2
  have e2 : cA = cA0 := e2
  subst e2
  exact kk q H1 hP1 hD1 hS1
/-- a field in a constructor -/
theorem jPut {mi ci k q0 pc index a : Nat} {fs : List Value} {v : Value} {rest : List Value} (hx : p.tables.exec = Jvm.exec) (hb : c.code = cB mi) (hown : s.vm.findClass (oN (cO mi)) = some m.cls) (hts : ∀ w ∈ wAll, w.before args s = true) (hK : va_K D vcls tys s) (hP : va_P D vcls ws H) (hD : va_D A ws) (hS : va_S A H0 H locs) (he : ws[q0]? = some (a, .inr (ci, fs))) (hc : ci < 9) (hk : k < cN ci) (hf : fP.any (fun q => Nat.beq q.1 (cO mi) && Nat.beq q.2.1 index && Nat.beq q.2.2.1 ci && Nat.beq q.2.2.2.1 k) = true) (hdecl : (cT ci k).1 = oN (cO mi)) (hin : meth.name = "<init>") (hn : narrow (cTy ci k) v = v) (hfit : fits (cTy ci k) v = true) (hl : k < fs.length) (hdg : decode (cB mi) pc = .ok (.putfield index, 3))
    (kk : ∀ (H1 : Heap) (locs1 : List Loc), va_P D vcls (ws.set q0 (a, .inr (ci, fs.set k v))) H1 → va_D A (ws.set q0 (a, .inr (ci, fs.set k v))) → va_S A H0 H1 locs1 → W p l e R s m args below meth c H1 locs1 cells slots Q (F0 m (pc + 3) ls rest)) : W p l e R s m args below meth c H locs cells slots Q (F0 m pc ls (v :: .ref a :: rest)) := by
  cases hfin : (cT ci k).2.2.2 with
  | false => exact va_put (Ts := wAll) hx hb hts (uw_ok ci hc) (cTy ci) (cty_ok ci hc) (cnm_ok ci hc) hown hK hP hD hS q0 he (vcls_at ci hc) k hk (hts _ (wA (fP_word hf) rfl)) (fun x h => h) hfin (cty_ok ci hc k hk) hn hfit hl hdg kk
  | true => exact va_putF (Ts := wAll) hx hb hts (uw_ok ci hc) (cTy ci) (cty_ok ci hc) (cnm_ok ci hc) hown hK hP hD hS q0 he (vcls_at ci hc) k hk (hts _ (wA (fP_word hf) rfl)) (fun x h => h) hfin hin hdecl (cty_ok ci hc k hk) hn hfit hl hdg kk
/-- a new object, not yet constructed -/
theorem jNew {mi ci pc i1 N : Nat} {fs rest : List Value} (hx : p.tables.exec = Jvm.exec) (hb : c.code = cB mi) (hown : s.vm.findClass (oN (cO mi)) = some m.cls) (hts : ∀ w ∈ wAll, w.before args s = true) (hK : va_K D vcls tys s) (hP : va_P D vcls ws H) (hD : va_D A ws) (hS : va_S A H0 H locs) (hA : ∀ q, H0.size ≤ q → A q) (hc : ci < 9) (hN : cN ci = N) (w1 : Cond.classLink (oN (cO mi)) i1 (cC ci) ∈ wAll) (w2 : Cond.instantiable (cC ci) N ∈ wAll) (w3 : Cond.initialized (cC ci) ∈ wAll) (hfs : ∀ j, j < N → defaultValue (cTy ci j) = vp_V fs j) (hcells : cells + 1 ≤ R.cells) (hslots : slots + N ≤ R.slots) (hdg : decode (cB mi) pc = .ok (.new i1, 3))
    (kk : ∀ (q : Nat) (H1 : Heap), va_P D vcls (ws ++ [(q, .inr (ci, fs))]) H1 → va_D A (ws ++ [(q, .inr (ci, fs))]) → va_S A H0 H1 locs → W p l e R s m args below meth c H1 locs (cells + 1) (slots + N) Q (F0 m (pc + 3) ls (.ref q :: rest))) : W p l e R s m args below meth c H locs cells slots Q (F0 m pc ls rest) := by
  subst hN
  exact va_new (Ts := wAll) hx hb hts (uw_ok ci hc) (cTy ci) (cty_ok ci hc) hown (hts _ w1) (hts _ w2) (hts _ w3) hK hP hD hS hA (vcls_at ci hc) hfs hcells hslots hdg kk
/-- behind a constructor's call -/
theorem ctCall {pc q mc ms : Nat} {v : va_E} {st0 rest : List Value} {a : Array Value} {Sh : va_W → Prop} (hr : va_Run p l e R s m args below meth c H locs cells slots mc ms (F0 m pc ls st0) rest (CtQ D q H.size Sh a) (AQ q H.size)) (hP : va_P D vcls (ws ++ [(q, v)]) H) (hD : va_D A (ws ++ [(q, v)])) (hS : va_S A H0 H locs) (hA : ∀ q, H0.size ≤ q → A q)
    (kk : ∀ (w : va_W) (H1 : Heap) (locs1 : List Loc), Sh w → va_P D vcls (ws ++ w) H1 → va_D A (ws ++ w) → va_S A H0 H1 locs1 → W p l e R s m args below meth c H1 locs1 (cells + mc) (slots + ms) Q (F0 m (pc + 3) ls rest)) : W p l e R s m args below meth c H locs cells slots Q (F0 m pc ls st0) := by
  have hq : (ws ++ [(q, v)])[ws.length]? = some (q, v) := by rw [List.getElem?_append_right (Nat.le_refl _), Nat.sub_self]; rfl
  have hAq : ∀ x, AQ q H.size x → A x := fun x h => by
    rcases h with h | h
    · rw [h]; exact hD.2 _ _ hq
    · exact hA x (Nat.le_trans hS.1 h)
  intro T hT X
  obtain ⟨v9, st₀, t, T', L, h0, X', hL, e1, e2, ⟨hv, ⟨w, sh, hp, hd⟩, hz, hk⟩, st⟩ := hr T hT X
  have hv : v9 = none := by cases hv; rfl
  subst hv
  rw [h0] at hz hk
  obtain ⟨hP1, hD1⟩ := join1 hP hD (fun x h => hA x (Nat.le_trans hS.1 h)) hk hp hd
  obtain ⟨t2, a1, b1⟩ := kk w T'.heap (locs ++ L) sh (by rw [e1]; exact hP1) hD1 ⟨Nat.le_trans hS.1 (by rw [e1]; exact hz), fun x h1 h2 => by rw [e1, hk x (Nat.lt_of_lt_of_le h1 hS.1) (fun z => h2 (hAq x z))]; exact hS.2.1 x h1 h2, fun x hx => by
    rcases List.mem_append.mp hx with h | h
    · exact hS.2.2 x h
    · exact hAq _ (hL x h)⟩ T' rfl X'
  exact ⟨t2, st t2 a1, b1⟩
/-- a constructor's end -/
theorem ctRet {mj pc q sz mc ms : Nat} {Sh : va_W → Prop} (hx : p.tables.exec = Jvm.exec) (hb : c.code = cB mj) (hr : meth.sig.returnType = none) (hlk : meth.locks = false) (hsz : s.heap.size = sz) (hdg : decode (cB mj) pc = .ok (.return_, 1)) (sh : Sh ws) (hP : va_P D vcls ws H) (hD : va_D (AQ q sz) ws) (hS : va_S (AQ q sz) s.heap H locs) : W p l e R s m args below meth c H locs mc ms (MQ below (CtQ D q sz Sh) args s mc ms (AQ q sz)) (F0 m pc ls []) :=
  W.vret hx hb hr (fun t ht hW => ⟨rfl, ⟨ws, sh, by rw [ht]; exact hP, hD⟩, hS.F ht⟩) hS.2.2 hdg hlk
end
end
