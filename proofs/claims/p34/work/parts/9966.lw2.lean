-- rows of the law's own walk, over any of its methods
noncomputable section
section
variable {p : Program} {l : Launch} {e : Env} {R : Room} {s : State} {m : MethodId} {args : Array Value} {below : List Frame} {meth : Method} {c : Code} {H H0 : Heap} {locs : List Loc} {cells slots : Nat} {Q : State → Prop} {ls : Array Slot} {D : va_G} {ca : Nat → ClassId} {ad ad0 : Nat → Nat} {A : Nat → Prop}
theorem ZT.narrow {A B : Nat → Prop} {U : State} (h : ZT A U) (hAB : ∀ q, B q → A q) : ZT B U := ⟨h.1.narrow hAB, h.2.1.narrow hAB, h.2.2⟩
/-- numbers and lengths of arrays of the method's own -/
abbrev EX : Type := List (Nat × Nat)
def EOk (s : State) (ad : Nat → Nat) (A : Nat → Prop) (E : EX) : Prop := (∀ x ∈ E, (x.1 = 212 ∨ x.1 = 213) ∧ A (ad x.1) ∧ s.heap.size ≤ ad x.1 ∧ ∀ j, 31 ≤ j ∧ j < 212 → ad j ≠ ad x.1) ∧ ∀ x ∈ E, ∀ y ∈ E, x.1 ≠ y.1 → ad x.1 ≠ ad y.1
def XA (ca : Nat → ClassId) (ad : Nat → Nat) (E : EX) (G : Nat → Nat → Int32) (H : Heap) : Prop := ∀ x ∈ E, H[ad x.1]? = some (vp_cell (ca 1) (x.2, .inl (G x.1)))
/-- what a method of the law stands on -/
def LF (p : Program) (l : Launch) (R : Room) (s : State) (m : MethodId) (args : Array Value) (meth : Method) (c : Code) (mi dR KC : Nat) (D : va_G) (ca : Nat → ClassId) (ad0 : Nat → Nat) (A : Nat → Prop) (ad : Nat → Nat) (E : EX) : Prop :=
  (p.tables.exec = Jvm.exec ∧ c.code = cB mi ∧ c.maxLocals = cM mi ∧ s.vm.findClass (oN (cO mi)) = some m.cls ∧ oN (cO mi) = RL ∧ (∀ w ∈ wAll, w.before args s = true) ∧ ∀ pc e, cdT mi pc = some e → wfE mi pc e = true) ∧
  (va_K D vcls (tysOf ca) s ∧ AdOk A ad ∧ ZT A s ∧ HB A s ∧ l.stackTraces = false ∧ ZX A ad s) ∧ (∀ k, k ≠ 212 → k ≠ 213 → ad k = ad0 k) ∧ EOk s ad A E ∧ (dR + 7 ≤ R.frames ∧ 60 * (dR + 1) + 120 ≤ R.locals ∧ KC ≤ R.cells ∧ 64 * KC ≤ R.slots) ∧ (mi = mL_law ∨ meth.sig.returnType = cR mi) ∧ meth.locks = false
def WL (p : Program) (l : Launch) (e : Env) (R : Room) (s : State) (m : MethodId) (args : Array Value) (below : List Frame) (meth : Method) (c : Code) (Q : State → Prop) (mi dR KC : Nat) (D : va_G) (ca : Nat → ClassId) (ad0 : Nat → Nat) (A : Nat → Prop) (ad : Nat → Nat) (E : EX) (G : Nat → Nat → Int32) (kc pc : Nat) (lc : LC) (st : List Value) (h : AH) : Prop :=
  LF p l R s m args meth c mi dR KC D ca ad0 A ad E → kc ≤ KC → ∀ (H : Heap) (locs : List Loc) (ls : Array Slot) (cells slots : Nat), cells ≤ kc → slots ≤ 64 * kc → va_P D vcls (wsOf ca ad h) H → XA ca ad E G H → va_S A s.heap H locs → lv_has ls (cM mi) (lm ad lc) → W p l e R s m args below meth c H locs cells slots Q (F0 m pc ls (st.map (em ad)))
end
section
variable {p : Program} {l : Launch} {e : Env} {R : Room} {s : State} {m : MethodId} {args : Array Value} {below : List Frame} {meth : Method} {c : Code} {Q : State → Prop} {mi dR KC : Nat} {D : va_G} {ca : Nat → ClassId} {ad0 ad : Nat → Nat} {A : Nat → Prop} {E : EX} {G : Nat → Nat → Int32} {kc pc pc' nx r1 r2 r3 : Nat} {lc lc' : LC} {st st' : List Value} {h h2 : AH} {ins : Instr} {w : Value}
theorem va_S.F0 {A0 : Nat → Prop} {H0 H : Heap} {locs : List Loc} (h : va_S A0 H0 H locs) : ∀ a : Nat, a < H0.size → ¬ A0 a → H[a]? = H0[a]? := h.2.1
/-- an instruction that leaves the heap alone -/
def okK (o : Option Ent) : Bool := match o with | some (0, _) => true | some (1, _) => true | some (6, _) => true | _ => false
theorem wl_s (hs : stp mi pc lc st h = some (pc', lc', st', h)) (hq : okK (cdT mi pc) = true) (K : WL p l e R s m args below meth c Q mi dR KC D ca ad0 A ad E G kc pc' lc' st' h) : WL p l e R s m args below meth c Q mi dR KC D ca ad0 A ad E G kc pc lc st h := by
  intro F hk H locs ls cells slots hc9 hs9 hP hX hS hl
  have K2 := fun ls1 hl1 => K F hk H locs ls1 cells slots hc9 hs9 hP hX hS hl1
  obtain ⟨⟨hx, hb, hml, hown, -, hts, hwf⟩, -⟩ := F
  unfold stp at hs
  split at hs
  · next hcd =>
    have hw := hwf _ _ hcd
    split at hs
    · next st9 hst => cases hs; exact sA hx hb hown hts hw hst (K2 ls hl)
    · cases hs
  · next hcd =>
    have hw := hwf _ _ hcd
    split at hs
    · next lc9 st9 hst => cases hs; exact sL hx hb hl hw hst (fun ls' hl' => K2 ls' hl')
    · cases hs
  · next hcd => rw [hcd] at hq; cases hq
  · next hcd => rw [hcd] at hq; cases hq
  · next hcd =>
    have hw := hwf _ _ hcd
    split at hs
    · cases hs; exact sS hx hb hw (K2 ls hl)
    · cases hs
  · cases hs
theorem wl_b {P1 : Prop} {iP : Decidable P1} (hc : cdT mi pc = some (2, ins, nx, r1, r2, r3, w)) (hs : stB ins st = some (@decide P1 iP, st')) (K1 : P1 → WL p l e R s m args below meth c Q mi dR KC D ca ad0 A ad E G kc r1 lc st' h) (K2 : ¬ P1 → WL p l e R s m args below meth c Q mi dR KC D ca ad0 A ad E G kc nx lc st' h) : WL p l e R s m args below meth c Q mi dR KC D ca ad0 A ad E G kc pc lc st h := by
  intro F hk H locs ls cells slots hc9 hs9 hP hX hS hl
  refine sB F.1.1 F.1.2.1 (F.1.2.2.2.2.2.2 _ _ hc) hs ?_
  by_cases q : P1
  · simp only [q, decide_true, if_true]; exact K1 q F hk H locs ls cells slots hc9 hs9 hP hX hS hl
  · simp only [q, decide_false, Bool.false_eq_true, if_false]; exact K2 q F hk H locs ls cells slots hc9 hs9 hP hX hS hl
theorem wl_g (hc : cdT mi pc = some (2, ins, nx, r1, r2, r3, w)) (hs : stB ins st = some (true, st')) (K1 : WL p l e R s m args below meth c Q mi dR KC D ca ad0 A ad E G kc r1 lc st' h) : WL p l e R s m args below meth c Q mi dR KC D ca ad0 A ad E G kc pc lc st h := by
  intro F hk H locs ls cells slots hc9 hs9 hP hX hS hl
  refine sB F.1.1 F.1.2.1 (F.1.2.2.2.2.2.2 _ _ hc) hs ?_
  exact K1 F hk H locs ls cells slots hc9 hs9 hP hX hS hl
theorem wl_sub (hs : SubM lc' lc) (K : WL p l e R s m args below meth c Q mi dR KC D ca ad0 A ad E G kc pc lc' st h) : WL p l e R s m args below meth c Q mi dR KC D ca ad0 A ad E G kc pc lc st h := by
  intro F hk H locs ls cells slots hc9 hs9 hP hX hS hl
  refine K F hk H locs ls cells slots hc9 hs9 hP hX hS ⟨hl.1, hl.2.1, fun q hv => ?_⟩
  unfold lm at hv
  obtain ⟨q0, hq, he⟩ := List.mem_map.mp hv
  have h1 := lget_mem (hs q0 hq)
  subst he
  exact hl.2.2 _ (List.mem_map.mpr ⟨(q0.1, q0.2), h1, rfl⟩)
theorem wl_up {kc2 : Nat} (hk2 : kc ≤ kc2) (hk3 : kc2 ≤ KC) (K : WL p l e R s m args below meth c Q mi dR KC D ca ad0 A ad E G kc2 pc lc st h) : WL p l e R s m args below meth c Q mi dR KC D ca ad0 A ad E G kc pc lc st h := fun F hk H locs ls cells slots hc9 hs9 hP hX hS hl => K F hk3 H locs ls cells slots (Nat.le_trans hc9 hk2) (Nat.le_trans hs9 (Nat.mul_le_mul_left _ hk2)) hP hX hS hl
theorem wl_sw {x : Int32} {tgt : Nat} {rest : List Value} (hc : cdT mi pc = some (6, ins, nx, r1, r2, r3, w)) (ht : swt (cSw mi pc) x = tgt) (K : WL p l e R s m args below meth c Q mi dR KC D ca ad0 A ad E G kc tgt lc rest h) : WL p l e R s m args below meth c Q mi dR KC D ca ad0 A ad E G kc pc lc (.int x :: rest) h := by
  refine wl_s (pc' := tgt) (lc' := lc) (st' := rest) ?_ (by rw [hc]; rfl) K
  unfold stp
  simp only [hc, ht]
/-- Float.intBitsToFloat -/
theorem wl_i2f {x : Int32} {rest : List Value} (hc : cdT mi pc = some (5, ins, nx, r1, r2, 4, w)) (hn : vn_sni2f x = false) (h8 : ((rest.drop 1).map fun v => v.category).sum ≤ 8) (K : WL p l e R s m args below meth c Q mi dR KC D ca ad0 A ad E G kc nx lc (.float x.toUInt32 :: rest) h) : WL p l e R s m args below meth c Q mi dR KC D ca ad0 A ad E G kc pc lc (.int x :: rest) h := by
  intro F hk H locs ls cells slots hc9 hs9 hP hX hS hl
  have K2 := K F hk H locs ls cells slots hc9 hs9 hP hX hS hl
  obtain ⟨⟨hx, hb, hml, hown, -, hts, hwf⟩, -, -, -, hR⟩ := F
  have hw := hwf _ _ hc
  have hw9 : (decide (decode (cB mi) pc = .ok (ins, nx - pc)) && Nat.ble pc nx && (Nat.beq nx (pc + lenI ins) && wfP (cO mi) ins 4)) = true := hw
  simp only [Bool.and_eq_true, decide_eq_true_eq] at hw9
  obtain ⟨⟨hdg0, -⟩, hnx0, h3⟩ := hw9
  have hnx := Nat.eq_of_beq_eq_true hnx0
  have hdg : decode (cB mi) pc = .ok (ins, lenI ins) := by rw [hdg0, hnx, Nat.add_sub_cancel_left]
  subst hnx
  obtain ⟨i, rfl⟩ : ∃ i, ins = .invokestatic i := by
    cases ins <;> simp only [wfP, reduceCtorEq] at h3
    exact ⟨_, rfl⟩
  have hlk := pP_word h3
  have h9 : ((rest.map (em ad)).map fun v => v.category).sum ≤ 10 := by
    rw [em_cats]
    cases rest with
    | nil => simp
    | cons z r =>
      have h8 : (r.map fun v => v.category).sum ≤ 8 := h8
      have := cat_le2 z
      simp only [List.map_cons, List.sum_cons]
      omega
  exact vn_i2f hx hb (hml.trans hl.1.symm) hown (hts _ (wA hlk rfl)) (hts _ (wA w_fN rfl)) (hts _ (wA w_fS rfl)) (hts _ (wA w_fI rfl)) hn (by omega) (by omega) hdg K2
/-- what a callee may write -/
def exF (ad : Nat → Nat) (A : Nat → Prop) (E : EX) : Nat → Prop := fun q => A q ∧ ∀ x ∈ E, q ≠ ad x.1
theorem exF_ok {s : State} (hA : AdOk A ad) (hE : EOk s ad A E) : AdOk (exF ad A E) ad := ⟨hA.1, fun k hk => ⟨hA.2 k hk, fun x hx => (hE.1 x hx).2.2.2 k hk⟩⟩
theorem exF_hb {s : State} {H : Heap} (hB : HB A s) (hs : s.heap.size ≤ H.size) (hX : XA ca ad E G H) : ∀ q : Nat, H.size ≤ q → exF ad A E q := fun q hq => ⟨hB q (Nat.le_trans hs hq), fun x hx e9 => by
  have := (Array.getElem?_eq_some_iff.mp (hX x hx)).1
  omega⟩
theorem exF_same {s : State} {H : Heap} (hE : EOk s ad A E) (h : ∀ a : Nat, a < s.heap.size → ¬ A a → H[a]? = s.heap[a]?) : ∀ a : Nat, a < s.heap.size → ¬ exF ad A E a → H[a]? = s.heap[a]? := fun a ha hn => h a ha (fun z => hn ⟨z, fun x hx e9 => by have := (hE.1 x hx).2.2.1; omega⟩)
theorem XA.kept {H H1 : Heap} (hX : XA ca ad E G H) (hS : va_S (fun q : Nat => exF ad A E q) H H1 []) : XA ca ad E G H1 := fun x hx => by
  have h1 := hX x hx
  rw [hS.2.1 _ (Array.getElem?_eq_some_iff.mp h1).1 (fun z => z.2 x hx rfl)]
  exact h1
theorem wfE_4 {mi pc nx mj na kd : Nat} {ins : Instr} {v : Value} (h : wfE mi pc (4, ins, nx, mj, na, kd, v) = true) : wfC (cO mi) ins mj na kd = true := by
  have hw9 : (decide (decode (cB mi) pc = .ok (ins, nx - pc)) && Nat.ble pc nx && (Nat.beq nx (pc + lenI ins) && wfC (cO mi) ins mj na kd)) = true := h
  simp only [Bool.and_eq_true] at hw9
  exact hw9.2.2
/-- a call that runs to its answer within the class or the JDK -/
theorem wl_xc {mj na kd d : Nat} {av rest : List Value} {P9 : Option Value → AH → Prop} (hc : cdT mi pc = some (4, ins, nx, mj, na, kd, w)) (ha : cArgs kd na mj st = some (av, rest)) (h8 : (rest.map fun v => v.category).sum ≤ 8 ∧ (av.map fun v => v.category).sum ≤ cM mj) (hd : d + 2 ≤ dR)
    (hM : WM d mj av h P9) (K : ∀ rv h2, P9 rv h2 → WL p l e R s m args below meth c Q mi dR KC D ca ad0 A ad E G kc nx lc (rv.toList ++ rest) h2) : WL p l e R s m args below meth c Q mi dR KC D ca ad0 A ad E G kc pc lc st h := by
  intro F hk H locs ls cells slots hc9 hs9 hP hX hS hl
  obtain ⟨v, h2, ⟨n, pc9, lc9, st9, hrun, hrv⟩, p9⟩ := hM
  have K2 := fun H1 locs1 hP1 hX1 hS1 => K v h2 p9 F hk H1 locs1 ls cells slots hc9 hs9 hP1 hX1 hS1 hl
  obtain ⟨⟨hx, hb, hml, hown, -, hts, hwf⟩, ⟨hK, hA, hZ, hB, -⟩, -, hE, hR⟩ := F
  have hw := hwf _ _ hc
  have hw9 := wfE_4 hw
  have hnl := wfC_law hw9
  unfold wfC at hw9
  simp only [Bool.and_eq_true, decide_eq_true_eq] at hw9
  obtain ⟨⟨⟨⟨⟨⟨⟨⟨hmp, hkd⟩, hnl0⟩, hmh⟩, hnp⟩, hcd9⟩, hmn⟩, hpa⟩, hm16⟩ := hw9
  have hpl : plainFor (cY mj) = true := by
    obtain ⟨z, hz, hb9⟩ := any2 hcd9
    rw [← Nat.eq_of_beq_eq_true hb9]
    exact pf_ok z hz
  have hM := metOf (l := l) (D := D) (ca := ca) (ad := ad) (base := exF ad A E) (sim n) hnl (Nat.le_of_ble_eq_true hmn) hpl h8.2 hrun hrv (exF_ok hA hE)
  exact sC (A0 := fun q : Nat => A q) (q := (av, rest)) (d' := d) hx hb hml hown hts hK hP (fun q z => z.1) hS hl.1 (by omega) (by omega) (by omega) (by omega) hw ha h8.1 hM (fun H1 locs1 hP1 hS9 hS1 => K2 H1 locs1 hP1 (hX.kept hS9) hS1)
/-- a call of a method of the class that may throw, and doesn't -/
theorem wl_v {n d mj na i : Nat} {z : Instr × Nat × Nat × Nat × Nat × Value} {av rest : List Value} {P9 : Out → Prop} {Gd : Option Value → AH → Prop} (hc : cdT mi pc = some (7, z)) (hw : wfE mi pc (4, .invokevirtual i, pc + 3, mj, na, 0, .null) = true) (ha : cArgs 0 na mj st = some (av, rest)) (h8 : (rest.map fun v => v.category).sum ≤ 8 ∧ (av.map fun v => v.category).sum ≤ cM mj) (hd : d + 2 ≤ dR)
    (hM : TM n d mj av h P9) (hg : ∀ o, P9 o → ∃ v h2, o = .inl (v, h2) ∧ Gd v h2) (K : ∀ v h2, Gd v h2 → WL p l e R s m args below meth c Q mi dR KC D ca ad0 A ad E G kc (pc + 3) lc (v.toList ++ rest) h2) : WL p l e R s m args below meth c Q mi dR KC D ca ad0 A ad E G kc pc lc st h := by
  intro F hk H locs ls cells slots hc9 hs9 hP hX hS hl
  obtain ⟨o1, hRT, p9⟩ := hM
  obtain ⟨v, h2, rfl, hgd⟩ := hg o1 p9
  have K2 := fun H1 locs1 hP1 hX1 hS1 => K v h2 hgd F hk H1 locs1 ls cells slots hc9 hs9 hP1 hX1 hS1 hl
  obtain ⟨⟨hx, hb, hml, hown, -, hts, hwf⟩, ⟨hK, hA, hZ, hB, hfl, -⟩, -, hE, hR⟩ := F
  have hw9 : (decide (decode (cB mi) pc = .ok (.invokevirtual i, pc + 3 - pc)) && Nat.ble pc (pc + 3) && (Nat.beq (pc + 3) (pc + lenI (.invokevirtual i)) && wfC (cO mi) (.invokevirtual i) mj na 0)) = true := hw
  simp only [Bool.and_eq_true] at hw9
  have hnl := wfC_law hw9.2.2
  have hcd := wfC_pl hw9.2.2
  have hM2 := metT (l := l) (D := D) (ca := ca) (ad := ad) (base := exF ad A E) (o := .inl (v, h2)) (simT hfl n) hnl hcd.1 hcd.2 h8.2 hRT (exF_ok hA hE)
  refine sCT (n9 := 0) (d' := d) hx hb hml hown hts hK (hZ.narrow (fun q z => z.1)) (exF_hb hB hS.1 hX) hP (A0 := fun q : Nat => A q) (fun q z => z.1) hS (exF_same hE hS.2.1) hl.1 (by omega) (by omega) (by omega) (by omega) hw ha h8.1 hM2 (fun v9 h9 e1 H2 locs2 hP2 hS9 hS2 => ?_) (fun en h9 e1 => by cases e1)
  cases e1
  exact K2 H2 locs2 hP2 (hX.kept hS9) hS2
end
end
