-- needs: 9977
noncomputable section
section
variable {p : Program} {l : Launch} {e : Env} {R : Room} {s : State} {m : MethodId} {args : Array Value} {below : List Frame} {meth : Method} {c : Code} {H H0 : Heap} {locs : List Loc} {cells slots : Nat} {Q : State → Prop} {ls : Array Slot} {D : va_G} {ca : Nat → ClassId} {A : Nat → Prop} {tys : List (ClassId × FieldType)} {ws : va_W}
theorem jGet {mi ci k q0 pc index a : Nat} {fs : List Value} {v : Value} {rest : List Value} (hx : p.tables.exec = Jvm.exec) (hb : c.code = cB mi) (hown : s.vm.findClass (oN (cO mi)) = some m.cls) (hts : ∀ w ∈ wAll, w.before args s = true) (hK : va_K D vcls tys s) (hP : va_P D vcls ws H) (he : ws[q0]? = some (a, .inr (ci, fs))) (hc : ci < 9) (hk : k < cN ci) (hf : fP.any (fun q => Nat.beq q.1 (cO mi) && Nat.beq q.2.1 index && Nat.beq q.2.2.1 ci && Nat.beq q.2.2.2.1 k) = true) (hv : fs[k]? = some v) (hdg : decode (cB mi) pc = .ok (.getfield index, 3))
    (kk : W p l e R s m args below meth c H locs cells slots Q (F0 m (pc + 3) ls (v :: rest))) : W p l e R s m args below meth c H locs cells slots Q (F0 m pc ls (.ref a :: rest)) :=
  va_get (Ts := wAll) hx hb hts (uw_ok ci hc) hown hK hP q0 he (vcls_at ci hc) k hk (hts _ (wA (fP_word hf) rfl)) (fun x h => h) hv hdg kk
def FlP (D : va_G) (ca : Nat → ClassId) (a sz n : Nat) (f : Nat → Int32) : State → Prop := fun U => U.heap.size = sz ∧ va_P D vcls [(a, .inl (ca 1, n, .inl f))] U.heap ∧ va_K D vcls (tysOf ca) U
def FlQ (D : va_G) (ca : Nat → ClassId) (a sz n : Nat) (f : Nat → Int32) (v : Int32) : Array Value → State → Outcome → State → Prop := fun _ st o t => o = .returned none ∧ va_P D vcls [(a, .inl (ca 1, n, .inl (fun j => if j < n then v else f j)))] t.heap ∧ va_F (AQ a sz) st t
theorem FlP_blind {a sz n : Nat} {f : Nat → Int32} {av : List Value} : FrameBlind (va_Pc av (FlP D ca a sz n f)) := fun a U g mk z => ⟨z.1, z.2.1, z.2.2.1, va_K.moved (u := U) (U := U.calling g mk a) (Vm.Alike.refl U.vm) z.2.2.2⟩
theorem fill_loop {sz a n : Nat} {v : Int32} {f : Nat → Int32} (hn : n < 2 ^ 31) (hx : p.tables.exec = Jvm.exec) (hb : c.code = cB mX8_fill) (hr : meth.sig.returnType = none) (hlk : meth.locks = false) (hown : s.vm.findClass (oN (cO mX8_fill)) = some m.cls) (hts : ∀ w ∈ wAll, w.before args s = true) (hsz : s.heap.size = sz) (hK : va_K D vcls (tysOf ca) s) : ∀ (k i : Nat) (H : Heap) (locs : List Loc) (ls : Array Slot), i + k = n → va_P D vcls [(a, .inl (ca 1, n, .inl (fun j => if j < i then v else f j)))] H → va_D (AQ a sz) [(a, .inl (ca 1, n, .inl (fun j => if j < i then v else f j)))] → va_S (AQ a sz) s.heap H locs → lv_has ls (cM mX8_fill) (lm id [(2, .int (nI i)), (0, .ref a), (1, .int v)]) → W p l e R s m args below meth c H locs 0 0 (MQ below (FlQ D ca a sz n f v) args s 0 0 (AQ a sz)) (F0 m 2 ls []) := by
  have hL : ¬ mX8_fill = mL_law := by decide
  intro k
  induction k with
  | zero =>
    intro i H locs ls hi hP hD hS hl
    have hi : i = n := by omega
    subst hi
    refine jL hx hb hl hL rfl rfl (fun ls1 hl1 => ?_)
    refine jL hx hb hl1 hL rfl rfl (fun ls2 hl2 => ?_)
    refine va_alen hx hb hK hP 0 0 rfl rfl (v := nI i) rfl (by decide +kernel) ?_
    refine jB hx hb hL rfl rfl ?_
    rw [if_pos (show decide (nI i ≤ nI i) = true from decide_eq_true (Int32.le_refl _))]
    exact W.vret hx hb hr (fun t ht hW => ⟨rfl, by rw [ht]; exact hP, hS.F ht⟩) hS.2.2 (by decide +kernel) hlk
  | succ k ih =>
    intro i H locs ls hi hP hD hS hl
    refine jL hx hb hl hL rfl rfl (fun ls1 hl1 => ?_)
    refine jL hx hb hl1 hL rfl rfl (fun ls2 hl2 => ?_)
    refine va_alen hx hb hK hP 0 0 rfl rfl (v := nI n) rfl (by decide +kernel) ?_
    refine jB hx hb hL rfl rfl ?_
    rw [if_neg (show ¬ decide (nI n ≤ nI i) = true from fun z => nI_ge (by omega) hn (of_decide_eq_true z))]
    refine jL hx hb hl2 hL rfl rfl (fun ls3 hl3 => ?_)
    refine jL hx hb hl3 hL rfl rfl (fun ls4 hl4 => ?_)
    refine jL hx hb hl4 hL rfl rfl (fun ls5 hl5 => ?_)
    refine va_iast hx hb hK hP hD hS 0 0 rfl rfl (vp_in_nI (show i < n by omega) hn) (by decide +kernel) (fun H1 locs1 hP1 hD1 hS1 => ?_)
    refine jL hx hb hl5 hL rfl rfl (fun ls6 hl6 => ?_)
    refine jB hx hb hL rfl rfl ?_
    rw [if_pos rfl]
    have e : upd (fun j => if j < i then v else f j) (nI i).toNatClampNeg v = fun j => if j < i + 1 then v else f j := by
      rw [nI_clamp (by omega)]
      funext j
      by_cases c1 : j = i
      · subst c1; rw [upd_eq, if_pos (by omega)]
      · rw [upd_ne c1]
        by_cases c2 : j < i
        · rw [if_pos c2, if_pos (by omega)]
        · rw [if_neg c2, if_neg (by omega)]
    have hP2 : va_P D vcls [(a, .inl (ca 1, n, .inl (upd (fun j => if j < i then v else f j) (nI i).toNatClampNeg v)))] H1 := hP1
    have hD2 : va_D (AQ a sz) [(a, .inl (ca 1, n, .inl (upd (fun j => if j < i then v else f j) (nI i).toNatClampNeg v)))] := hD1
    rw [e] at hP2 hD2
    have hl7 : lv_has ls6 (cM mX8_fill) (lm id [(2, .int (nI i + 1)), (0, .ref a), (1, .int v)]) := hl6
    rw [nI_1] at hl7
    exact ih (i + 1) H1 locs1 ls6 (by omega) hP2 hD2 hS1 hl7
theorem met_fill {a sz n : Nat} {f : Nat → Int32} {v : Int32} (hn : n < 2 ^ 31) : Met l (cY mX8_fill) (wsM mX8_fill) (rmX 0) (va_Pc [.ref a, .int v] (FlP D ca a sz n f)) (FlQ D ca a sz n f v) 0 0 (AQ a sz) := by
  refine ofWF (cc := cB mX8_fill) (maxL := cM mX8_fill) (ret := cR mX8_fill) (by decide +kernel) rfl ?_
  intro p e s m args below meth c s₁ Bd hml hv
  obtain ⟨rfl, hsz, hP, hK⟩ := hv
  have hts := atoms_spec (ws := wsM mX8_fill) Bd.pre
  have hown : s.vm.findClass (oN (cO mX8_fill)) = some m.cls := by rw [← oN_ok mX8_fill (List.mem_range.mpr (by decide))]; exact findClass_of_methodNamed Bd.named
  have hl := lv_entry [Value.ref a, .int v] (n := cM mX8_fill) (by rw [sl_len]; exact Nat.le_of_ble_eq_true rfl)
  rw [lg_entry_eq]
  generalize (lg_sl [Value.ref a, .int v] ++ List.replicate (cM mX8_fill - (lg_sl [Value.ref a, .int v]).length) Slot.unset).toArray = ls at hl ⊢
  have hl : lv_has ls (cM mX8_fill) (lm id [(0, .ref a), (1, .int v)]) := hl
  have hL : ¬ mX8_fill = mL_law := by decide
  have hts2 : ∀ w ∈ wAll, w.before #[.ref a, .int v] s = true := fun w hw => hts w (List.mem_cons_of_mem _ hw)
  have hD : va_D (AQ a sz) [(a, .inl (ca 1, n, .inl (fun j => if j < 0 then v else f j)))] := ⟨fun i j x y hi hj _ => by
    have a := (List.getElem?_eq_some_iff.mp hi).1
    have b := (List.getElem?_eq_some_iff.mp hj).1
    simp only [List.length_cons, List.length_nil] at a b
    omega, fun k x hx => by
    have a := (List.getElem?_eq_some_iff.mp hx).1
    simp only [List.length_cons, List.length_nil] at a
    rw [show k = 0 by omega] at hx
    cases hx
    exact Or.inl rfl⟩
  have e0 : (fun j => if j < 0 then v else f j) = f := funext (fun j => if_neg (Nat.not_lt_zero j))
  refine jA Bd.exec Bd.bytes hown hts2 hL rfl rfl ?_
  refine jL Bd.exec Bd.bytes hl hL rfl rfl (fun ls1 hl1 => ?_)
  exact fill_loop hn Bd.exec Bd.bytes Bd.returns Bd.notSynchronized hown hts2 hsz hK n 0 s.heap [] ls1 (by omega) (by rw [e0]; exact hP) hD va_S.rf hl1
/-- an array of the world is filled -/
theorem flCall {pc a q0 n : Nat} {f : Nat → Int32} {v : Int32} {st0 rest : List Value} {av : Array Value} (hr : va_Run p l e R s m args below meth c H locs cells slots 0 0 (F0 m pc ls st0) rest (FlQ D ca a H.size n f v av) (AQ a H.size)) (he : ws[q0]? = some (a, .inl (ca 1, n, .inl f))) (hP : va_P D vcls ws H) (hD : va_D A ws) (hS : va_S A H0 H locs) (hA : ∀ q, H0.size ≤ q → A q)
    (kk : ∀ (H1 : Heap) (locs1 : List Loc), va_P D vcls (ws.set q0 (a, .inl (ca 1, n, .inl (fun j => if j < n then v else f j)))) H1 → va_D A (ws.set q0 (a, .inl (ca 1, n, .inl (fun j => if j < n then v else f j)))) → va_S A H0 H1 locs1 → W p l e R s m args below meth c H1 locs1 cells slots Q (F0 m (pc + 3) ls rest)) : W p l e R s m args below meth c H locs cells slots Q (F0 m pc ls st0) := by
  have hAq : ∀ x, AQ a H.size x → A x := fun x h => by
    rcases h with h | h
    · rw [h]; exact hD.2 _ _ he
    · exact hA x (Nat.le_trans hS.1 h)
  intro T hT X
  obtain ⟨v9, st₀, t, T', L, h0, X', hL, e1, e2, ⟨hv, hp, hz, hk⟩, st⟩ := hr T hT X
  have hv : v9 = none := by cases hv; rfl
  subst hv
  rw [h0] at hz hk
  have hP1 : va_P D vcls (ws.set q0 (a, .inl (ca 1, n, .inl (fun j => if j < n then v else f j)))) T'.heap := fun k x hx => by
    rw [e1]
    by_cases c1 : q0 = k
    · subst c1
      rw [List.getElem?_set, if_pos rfl, if_pos (List.getElem?_eq_some_iff.mp he).1] at hx
      cases hx
      exact hp 0 _ rfl
    · rw [List.getElem?_set, if_neg c1] at hx
      have hne : x.1 ≠ a := fun z => c1 (hD.1 q0 k (a, .inl (ca 1, n, .inl f)) x he hx z.symm)
      have h1 : va_P D vcls [x] H := fun k9 x9 hx9 => by
        have b := (List.getElem?_eq_some_iff.mp hx9).1
        simp only [List.length_cons, List.length_nil] at b
        rw [show k9 = 0 by omega] at hx9
        cases hx9
        exact hP k x hx
      exact (h1.kept (H1 := t.heap) (fun k9 x9 hx9 => hk x9.1 ((h1 k9 x9 hx9).lt) (fun z => by
        have b := (List.getElem?_eq_some_iff.mp hx9).1
        simp only [List.length_cons, List.length_nil] at b
        have l9 := (h1 k9 x9 hx9).lt
        rw [show k9 = 0 by omega] at hx9
        cases hx9
        rcases z with z | z
        · exact hne z
        · omega))) 0 x rfl
  obtain ⟨t2, a1, b1⟩ := kk T'.heap (locs ++ L) hP1 (hD.set he) ⟨Nat.le_trans hS.1 (by rw [e1]; exact hz), fun x h1 h2 => by rw [e1, hk x (Nat.lt_of_lt_of_le h1 hS.1) (fun z => h2 (hAq x z))]; exact hS.2.1 x h1 h2, fun x hx => by
    rcases List.mem_append.mp hx with h | h
    · exact hS.2.2 x h
    · exact hAq _ (hL x h)⟩ T' rfl X'
  exact ⟨t2, st t2 a1, b1⟩
end
end
