noncomputable section
section
variable {p : Program} {l : Launch} {e : Env} {R : Room} {s : State} {m : MethodId} {args : Array Value} {below : List Frame} {meth : Method} {c : Code} {H H0 : Heap} {locs : List Loc} {cells slots : Nat} {Q : State → Prop} {ls : Array Slot} {D : va_G} {ca : Nat → ClassId} {ad : Nat → Nat} {base : Nat → Prop}
theorem callLQ {mc1 ms1 pc : Nat} {st0 rest : List Value} {a : Array Value} {P : Option Value → AH → Prop} (hr : vx_Run p l e R s m args below meth c H locs cells slots mc1 ms1 (F0 m pc ls st0) (rest.map (em ad)) (LQ D ca ad base P a) exitX (fun q : Nat => base q)) {A0 : Nat → Prop} (hA0 : ∀ q, base q → A0 q) (hS : va_S A0 H0 H locs)
    (k1 : ∀ (v : Option Value) (h2 : AH), P v h2 → ∀ (H1 : Heap) (locs1 : List Loc), va_P D vcls (wsOf ca ad h2) H1 → va_S (fun q : Nat => base q) H H1 [] → va_S A0 H0 H1 locs1 → W p l e R s m args below meth c H1 locs1 (cells + mc1) (slots + ms1) Q (F0 m (pc + 3) ls ((v.toList ++ rest).map (em ad)))) : W p l e R s m args below meth c H locs cells slots Q (F0 m pc ls st0) := by
  intro T hT X
  rcases hr T hT X with ⟨v9, st₀, t, T', L, h0, X', hL, e1, e2, ⟨⟨rv, h2, hpp, hv, hp⟩, hz, hk⟩, st⟩ | ⟨q9, st₀, t, T', L, E, ce, h0, X', hL, e1, e2, hq, hce, hcv, hcl, st⟩
  · have hv : v9 = rv.map (em ad) := by cases hv; rfl
    subst hv
    rw [h0] at hz hk
    obtain ⟨t2, a1, b1⟩ := k1 rv h2 hpp T'.heap (locs ++ L) (by rw [e1]; exact hp) ⟨by rw [e1]; exact hz, fun q h1 h2 => by rw [e1]; exact hk q h1 h2, fun _ h => (by cases h)⟩
      ⟨Nat.le_trans hS.1 (by rw [e1]; exact hz), fun q h1 h2 => by rw [e1, hk q (Nat.lt_of_lt_of_le h1 hS.1) (fun z => h2 (hA0 q z))]; exact hS.2.1 q h1 h2, fun q hq => by
        rcases List.mem_append.mp hq with h | h
        · exact hS.2.2 q h
        · exact hA0 _ (hL q h)⟩ T' rfl X'
    refine ⟨t2, st t2 ?_, b1⟩
    have e9 : (rv.map (em ad)).toList ++ rest.map (em ad) = (rv.toList ++ rest).map (em ad) := by cases rv <;> simp
    show Steps p.tables e below (T'.setTop { F0 m pc ls st0 with pc := pc + 3, stack := (rv.map (em ad)).toList ++ rest.map (em ad) }) t2
    rw [e9]
    exact a1
  · exact absurd hq (fun z => z)
end
/-- what a method of the law that catches does: its answer, its end -/
def LM (l : Launch) (mi : Nat) (av : List Value) (h : AH) (P : Option Value → AH → Prop) : Prop := ∃ (x : Value) (h3 : AH), P (some x) h3 ∧ ∀ (D : va_G) (ca : Nat → ClassId) (ad : Nat → Nat) (base : Nat → Prop), AdOk base ad → vx_Met l (cY mi) (wsL mi (lwH mi)) (rmT 21 1) (PcT D ca ad base av h) (QoX D ca ad base (.inl (some x, h3))) (XoX D ca ad base (.inl (some x, h3))) 1 6 (fun a : Nat => base a)
section
variable {p : Program} {l : Launch} {e : Env} {R : Room} {s : State} {m : MethodId} {args : Array Value} {below : List Frame} {meth : Method} {c : Code} {Q : State → Prop} {mi dR KC : Nat} {D : va_G} {ca : Nat → ClassId} {ad0 ad : Nat → Nat} {A : Nat → Prop} {E : EX} {G : Nat → Nat → Int32} {kc pc pc' nx r1 r2 r3 : Nat} {lc lc' : LC} {st st' : List Value} {h h2 : AH} {ins : Instr} {w : Value}
theorem cArgs1 {na mj : Nat} {st av rest : List Value} (ha : cArgs 1 na mj st = some (av, rest)) : na ≤ st.length ∧ av = (st.take na).reverse ∧ rest = st.drop na := by
  unfold cArgs at ha
  split at ha
  · next hna =>
    simp only [Option.some.injEq, Prod.mk.injEq] at ha
    exact ⟨hna, ha.1.symm, ha.2.symm⟩
  · cases ha
theorem st_cut (ad : Nat → Nat) (st : List Value) (na : Nat) : st.map (em ad) = (((st.take na).reverse).map (em ad)).reverse ++ (st.drop na).map (em ad) := by
  rw [← List.map_reverse, List.reverse_reverse]
  conv => lhs; rw [← List.take_append_drop na st]
  rw [List.map_append]
/-- a call of one of the law's methods that catch -/
theorem wl_w {mj i na : Nat} {z : Nat × Nat × Nat × Nat × Value} {av rest : List Value} {P9 : Option Value → AH → Prop} (hc : cdT mi pc = some (7, .invokestatic i, z)) (hm : mj ∈ lwMs) (hdg : decode (cB mi) pc = .ok (.invokestatic i, 3)) (w1 : mP.any (fun q => Nat.beq q.1 19 && Nat.beq q.2.1 i && Nat.beq q.2.2.1 mj) = true) (w2 : tP.any (fun q => Nat.beq q.1 mj) = true) (hpa : (parseMethodDescriptor (cY mj).desc).map (fun d => d.parameters.length) = some na)
    (ha : cArgs 1 na mj st = some (av, rest)) (h8 : (rest.map fun v => v.category).sum ≤ 8) (hd : 22 ≤ dR) (hk1 : kc + 1 ≤ KC)
    (hM : LM l mj av h P9) (K : ∀ v h2, P9 v h2 → WL p l e R s m args below meth c Q mi dR KC D ca ad0 A ad E G (kc + 1) (pc + 3) lc (v.toList ++ rest) h2) : WL p l e R s m args below meth c Q mi dR KC D ca ad0 A ad E G kc pc lc st h := by
  intro F hk H locs ls cells slots hc9 hs9 hP hX hS hl
  obtain ⟨x, h3, p9, hM⟩ := hM
  have K2 := fun H1 locs1 hP1 hX1 hS1 => K (some x) h3 p9 F hk1 H1 locs1 ls (cells + 1) (slots + 6) (by omega) (by omega) hP1 hX1 hS1 hl
  obtain ⟨⟨hx, hb, hml, hown, ho, hts, hwf⟩, ⟨hK, hA, hZ, hB, hfl, -⟩, -, hE, hR, -⟩ := F
  obtain ⟨g1, g2, g3, g4, g6, g7, g8⟩ := lwG_ok mj hm
  obtain ⟨hna, rfl, rfl⟩ := cArgs1 ha
  have hlen : (((st.take na).reverse).map (em ad)).length = na := by simp; omega
  have hM2 := hM D ca ad (exF ad A E) (exF_ok hA hE)
  refine callXT (o1 := .inl (some x, h3)) (rest := st.drop na) (vx_runSX (As := ((st.take na).reverse).map (em ad)) (Ts := wAll) (own := oN 19) (index := i) (bytes := cB mj) (maxL := cM mj) (ret := cR mj) (hh := lwH mj) (ws := wsL mj (lwH mj)) (rm := rmT 21 1) (n := na) ⟨hx, hb, hml, (by rw [← show RL = oN 19 from rfl, ← ho]; exact hown), hts⟩ hM2
    (vx_cwSW na hts (gAll (fun w hw => ?_)) rfl rfl rfl ⟨g7.1, g7.2, hpa⟩ ⟨by show 21 + 7 + 1 ≤ _; omega, by show 8 + (cM mj + 11) + (60 * (21 + 1) + 120) ≤ _; omega⟩)
    ⟨PcT_blind, fun U hU hW => ⟨rfl, ⟨by rw [hU]; exact hP, va_K.moved hW.alike hK⟩, (hZ.narrow (fun q z => z.1)).moved hW (fun a h1 h2 => by rw [hU]; exact exF_same hE hS.2.1 a h1 h2), fun q hq => exF_hb hB hS.1 hX q (by rw [← hU]; exact hq)⟩⟩ rfl hlen hl.1 (st_cut ad st na) (lv_room (by rw [em_cats]; exact h8)) hdg ⟨by omega, by omega⟩) (A0 := fun q : Nat => A q) (fun q z => z.1) hS (fun v h2 e1 H1 locs1 hP1 hS9 hS1 => ?_) (fun en h2 e1 => by cases e1)
  · unfold va_wsS at hw
    rcases List.mem_append.mp hw with h | h
    · simp only [List.mem_cons, List.not_mem_nil, or_false] at h
      rcases h with h | h | h <;> rw [h]
      · exact wML w1
      · exact wST w2
      · rw [g8]; exact wIN (o := 19) (by decide +kernel)
    · rcases List.mem_cons.mp h with h | h
      · rw [h]; exact wA (tb_in _ _ (lwP_ok mj hm)) rfl
      · exact h
  · cases e1
    exact K2 H1 locs1 hP1 (hX.kept hS9) hS1
/-- a call of another of the law's methods -/
theorem wl_c {mj d k i na : Nat} {z : Nat × Nat × Nat × Nat × Value} {av rest : List Value} {P9 : Option Value → AH → Prop} (hc : cdT mi pc = some (7, .invokestatic i, z)) (hm : mj ∈ lxMs) (hdg : decode (cB mi) pc = .ok (.invokestatic i, 3)) (w1 : mP.any (fun q => Nat.beq q.1 19 && Nat.beq q.2.1 i && Nat.beq q.2.2.1 mj) = true) (w2 : tP.any (fun q => Nat.beq q.1 mj) = true) (hpa : (parseMethodDescriptor (cY mj).desc).map (fun d => d.parameters.length) = some na)
    (ha : cArgs 1 na mj st = some (av, rest)) (h8 : (rest.map fun v => v.category).sum ≤ 8) (hd : d + 1 ≤ dR) (hk1 : kc + k ≤ KC)
    (hM : LX l mj d k av h P9) (K : ∀ v h2, P9 v h2 → WL p l e R s m args below meth c Q mi dR KC D ca ad0 A ad E G (kc + k) (pc + 3) lc (v.toList ++ rest) h2) : WL p l e R s m args below meth c Q mi dR KC D ca ad0 A ad E G kc pc lc st h := by
  intro F hk H locs ls cells slots hc9 hs9 hP hX hS hl
  have K2 := fun v h3 p9 H1 locs1 hP1 hX1 hS1 => K v h3 p9 F hk1 H1 locs1 ls (cells + k) (slots + 64 * k) (by omega) (by omega) hP1 hX1 hS1 hl
  obtain ⟨⟨hx, hb, hml, hown, ho, hts, hwf⟩, ⟨hK, hA, hZ, hB, hfl, hZX⟩, -, hE, hR, -⟩ := F
  obtain ⟨g1, g2, g3, g4, g6, g7, g8, g9⟩ := lxG_ok mj hm
  obtain ⟨hna, rfl, rfl⟩ := cArgs1 ha
  have hlen : (((st.take na).reverse).map (em ad)).length = na := by simp; omega
  have hM2 := hM D ca ad (exF ad A E) (exF_ok hA hE)
  refine callLQ (P := P9) (rest := st.drop na) (vx_runS (As := ((st.take na).reverse).map (em ad)) (Ts := wAll) (own := oN 19) (index := i) (bytes := cB mj) (maxL := cM mj) (ret := cR mj) (ws := wsM mj) (rm := rmL d k) (n := na) ⟨hx, hb, hml, (by rw [← show RL = oN 19 from rfl, ← ho]; exact hown), hts⟩ hM2
    (va_cwS na hts (gAll (fun w hw => ?_)) rfl rfl rfl ⟨g7.1, g7.2, hpa⟩ ⟨by show d + 7 + 1 ≤ _; omega, by show 8 + (cM mj + 11) + (60 * (d + 1) + 120) ≤ _; omega⟩)
    ⟨PcL_blind, fun U hU hW => ⟨rfl, ⟨by rw [hU]; exact hP, va_K.moved hW.alike hK⟩, (hZ.narrow (fun q z => z.1)).moved hW (fun a h1 h2 => by rw [hU]; exact exF_same hE hS.2.1 a h1 h2), (fun q hq => exF_hb hB hS.1 hX q (by rw [← hU]; exact hq)), (hZX.narrow (fun q z => z.1)).moved hW (fun a h1 h2 => by rw [hU]; exact exF_same hE hS.2.1 a h1 h2)⟩⟩ rfl hlen hl.1 (st_cut ad st na) (lv_room (by rw [em_cats]; exact h8)) hdg ⟨by omega, by omega⟩) (A0 := fun q : Nat => A q) (fun q z => z.1) hS (fun v h2 p9 H1 locs1 hP1 hS9 hS1 => ?_)
  · unfold va_wsS at hw
    rcases List.mem_append.mp hw with h | h
    · simp only [List.mem_cons, List.not_mem_nil, or_false] at h
      rcases h with h | h | h <;> rw [h]
      · exact wML w1
      · exact wST w2
      · rw [g8]; exact wIN (o := 19) (by decide +kernel)
    · rcases List.mem_cons.mp h with h | h
      · rw [h]; exact cdA g9
      · exact h
  · exact K2 v h2 p9 H1 locs1 hP1 (hX.kept hS9) hS1
theorem LF.ws {p : Program} {l : Launch} {R : Room} {s : State} {m : MethodId} {args : Array Value} {meth : Method} {c : Code} {h : AH} (F : LF p l R s m args meth c mi dR KC D ca ad0 A ad E) : wsOf ca ad h = wsOf ca ad0 h := ws_congr (fun k h1 h2 => F.2.2.1 k (by omega) (by omega))
/-- the end -/
theorem wl_q {P : Option Value → AH → Prop} {v : Option Value} (hL : ¬ mi = mL_law) (hrv : retv mi pc st = some v) (hv : ∀ k, v ≠ some (.ref k)) (hp : P v h) : WL p l e R s m args below meth c (vx_MQ below (LQ D ca ad0 A P) exitX args s KC (64 * KC) (fun q : Nat => A q)) mi dR KC D ca ad0 A ad E G kc pc lc st h := by
  intro F hk H locs ls cells slots hc9 hs9 hP hX hS hl
  rw [F.ws] at hP
  obtain ⟨⟨hx, hb, -⟩, -, -, -, -, hr, hlk⟩ := F
  refine vx_ret (W.widen (show cells ≤ KC by omega) (show slots ≤ 64 * KC by omega) ?_)
  have e1 : v.map (em ad) = v.map (em ad0) := by
    cases v with
    | none => rfl
    | some x => cases x <;> first | rfl | exact absurd rfl (hv _)
  exact sR hL hrv hx hb (hr.resolve_left hL) hlk (fun t ht hW => ⟨⟨v, h, hp, by rw [e1], by rw [ht]; exact hP⟩, hS.F ht⟩) hS.2.2
/-- a method of the law, out of its walk -/
theorem lc_mk {d k : Nat} {av : List Value} {P : Option Value → AH → Prop} (hfl : l.stackTraces = false) (hm : mi ∈ lxMs) (hcat : (av.map fun v => v.category).sum ≤ cM mi)
    (body : ∀ (p : Program) (e : Env) (R : Room) (s : State) (m : MethodId) (args : Array Value) (below : List Frame) (meth : Method) (c : Code) (D : va_G) (ca : Nat → ClassId) (A : Nat → Prop) (ad : Nat → Nat), WL p l e R s m args below meth c (vx_MQ below (LQ D ca ad A P) exitX args s k (64 * k) (fun q : Nat => A q)) mi d k D ca ad A ad [] (fun _ _ => 0) 0 0 (lv_args 0 av) [] h) : LX l mi d k av h P := by
  intro D ca ad A hA
  obtain ⟨g1, g2, g3, g4, g6, g7, g8, g9⟩ := lxG_ok mi hm
  refine vx_ofW (cc := cB mi) (maxL := cM mi) (ret := cR mi) g3 rfl ?_
  intro p e s m args below meth c s₁ B hml hemp hv
  obtain ⟨rfl, ⟨hP, hK⟩, hZ, hbs, hZX⟩ := hv
  have hts := atoms_spec (ws := wsM mi) B.pre
  have hown : s.vm.findClass (oN (cO mi)) = some m.cls := by rw [← oN_ok mi (List.mem_range.mpr g2)]; exact findClass_of_methodNamed B.named
  have hl := lv_entry (av.map (em ad)) (n := cM mi) (by rw [sl_len, em_cats]; exact hcat)
  rw [lg_entry_eq]
  generalize (lg_sl (av.map (em ad)) ++ List.replicate (cM mi - (lg_sl (av.map (em ad))).length) Slot.unset).toArray = ls at hl ⊢
  rw [args_em] at hl
  exact body p e (rmL d k) s m _ below meth c D ca A ad ⟨⟨B.exec, B.bytes, hml, hown, g4, fun w hw => hts w (List.mem_cons_of_mem _ hw), fun pc e9 h9 => (cdT_wf g1 h9).1⟩, ⟨hK, hA, hZ, hbs, hfl, hZX⟩, fun _ _ _ => rfl, ⟨fun x hx => (by cases hx), fun x hx => (by cases hx)⟩, ⟨Nat.le_refl _, Nat.le_refl _, Nat.le_refl _, Nat.le_refl _⟩, Or.inr B.returns, B.notSynchronized⟩ (Nat.zero_le _) s.heap [] ls 0 0 (Nat.le_refl _) (Nat.zero_le _) hP (fun x hx => (by cases hx)) va_S.rf hl
/-- a method that catches, out of its run -/
theorem lm_of {n n1 i mj na pc1 : Nat} {lc1 : LC} {st1 av0 av rest : List Value} {o1 : Out} {x : Value} {h3 : AH} {P : Option Value → AH → Prop} (hfl : l.stackTraces = false) (hm : mi ∈ lwMs) (hcat : (av0.map fun v => v.category).sum ≤ cM mi)
    (hrun : run n1 21 mi 0 (lv_args 0 av0) [] h = some (pc1, lc1, st1, h)) (hw : wfE mi pc1 (4, .invokevirtual i, pc1 + 3, mj, na, 0, .null) = true) (ha : cArgs 0 na mj st1 = some (av, rest)) (h8 : (rest.map fun v => v.category).sum ≤ 8 ∧ (av.map fun v => v.category).sum ≤ cM mj)
    (hM : RT n 20 mj 0 (lv_args 0 av) [] h o1)
    (hk : (∃ v h2, o1 = .inl (v, h2) ∧ EvR 21 mi (pc1 + 3) lc1 (v.toList ++ rest) h2 (some x) h3) ∨ ∃ en h2 q, o1 = .inr (en, h2) ∧ hdG mi (lwH mi) pc1 en = some q ∧ EvR 21 mi q [] [] h2 (some x) h3) (hp : P (some x) h3) : LM l mi av0 h P := by
  obtain ⟨g1, g2, g3, g4, g6, g7, g8⟩ := lwG_ok mi hm
  exact ⟨x, h3, hp, fun D ca ad base hA => metL hfl g1 g2 g3 g4 hcat hrun hw ha h8 hM hk hA⟩
end
end
