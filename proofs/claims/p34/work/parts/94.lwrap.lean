-- needs: 93
noncomputable section
/-- a number in the pool of what calls: the thing of this number by its name -/
def exL (en : Nat) : Nat := match en with | 0 => 17 | 1 => 19 | 2 => 29 | 3 => 44 | 4 => 62 | _ => 73
def exLP (en : Nat) : Nat × Nat := match en with | 0 => (3, 178) | 1 => (2, 80) | 2 => (3, 211) | 3 => (5, 139) | 4 => (4, 61) | _ => (5, 202)
set_option maxRecDepth 100000 in
theorem exL_ok : ∀ en, en < 6 → (tb (exLP en).1)[(exLP en).2]? = some (Cond.classLink RL (exL en) (exN en)) ∧ exL en ≠ 0 := by decide +kernel
theorem exL_all {en : Nat} (h : en < 6) : Cond.classLink RL (exL en) (exN en) ∈ wAll := wA (tb_in _ _ (exL_ok en h).1) rfl
def hdF : List ExceptionTableEntry → Nat → Nat → Option Nat
  | [], _, _ => none
  | x :: t, pc, en => bif covers x pc then (bif Nat.beq x.catchType (exL en) then some x.handlerPc else (bif (List.range 6).any (fun ek => !(Nat.beq ek en) && Nat.beq x.catchType (exL ek)) then hdF t pc en else none)) else hdF t pc en
theorem hdF_spec {en pc hp : Nat} : ∀ (T : List ExceptionTableEntry), hdF T pc en = some hp → ∃ (pre : List ExceptionTableEntry) (x : ExceptionTableEntry) (suf : List ExceptionTableEntry), T = pre ++ x :: suf ∧ x.handlerPc = hp ∧ covers x pc = true ∧ x.catchType = exL en ∧ ∀ z ∈ pre, covers z pc = false ∨ ∃ ek, ek < 6 ∧ en ≠ ek ∧ z.catchType = exL ek
  | [], h => by cases h
  | x :: t, h => by
    unfold hdF at h
    cases hc : covers x pc with
    | true =>
      rw [hc] at h
      simp only [cond_true] at h
      cases hb : Nat.beq x.catchType (exL en) with
      | true =>
        rw [hb] at h
        exact ⟨[], x, t, rfl, Option.some.inj h, hc, Nat.eq_of_beq_eq_true hb, fun z hz => absurd hz List.not_mem_nil⟩
      | false =>
        rw [hb] at h
        simp only [cond_false] at h
        cases ha : (List.range 6).any (fun ek => !(Nat.beq ek en) && Nat.beq x.catchType (exL ek)) with
        | true =>
          rw [ha] at h
          obtain ⟨pre, y, suf, e1, e2, e3, e4, e5⟩ := hdF_spec t h
          refine ⟨x :: pre, y, suf, by rw [e1]; rfl, e2, e3, e4, fun z hz => ?_⟩
          rcases List.mem_cons.mp hz with e | e
          · subst e
            obtain ⟨ek, he, hb2⟩ := List.any_eq_true.mp ha
            simp only [Bool.and_eq_true, Bool.not_eq_true'] at hb2
            exact Or.inr ⟨ek, List.mem_range.mp he, fun q => by rw [q] at hb2; rw [show Nat.beq ek ek = true from Nat.beq_refl ek] at hb2; exact absurd hb2.1 (by decide), Nat.eq_of_beq_eq_true hb2.2⟩
          · exact e5 z e
        | false => rw [ha] at h; cases h
    | false =>
      rw [hc] at h
      obtain ⟨pre, y, suf, e1, e2, e3, e4, e5⟩ := hdF_spec t h
      refine ⟨x :: pre, y, suf, by rw [e1]; rfl, e2, e3, e4, fun z hz => ?_⟩
      rcases List.mem_cons.mp hz with e | e
      · subst e; exact Or.inl hc
      · exact e5 z e
/-- behind a catch: where it goes on when what was thrown is put away -/
def hdG (mi : Nat) (hh : List (Nat × Nat × Nat × Nat)) (pc en : Nat) : Option Nat := bif Nat.blt en 6 then (match hdF (tableOf hh) pc en with
  | some hp => (match decode (cB mi) hp with
    | .ok (.astore_n j, 1) => bif Nat.blt (j : Nat) (cM mi) then some (hp + 1) else none
    | .ok (.astore j, 2) => bif Nat.blt j (cM mi) then some (hp + 2) else none
    | _ => none)
  | none => none) else none
variable {p : Program} {l : Launch} {e : Env} {R : Room} {s : State} {m : MethodId} {args : Array Value} {below : List Frame} {meth : Method} {c : Code} {H H0 : Heap} {locs : List Loc} {cells slots : Nat} {Q : State → Prop} {ls : Array Slot} {D : va_G} {ca : Nat → ClassId} {ad : Nat → Nat} {base : Nat → Prop}
theorem hdG_en {mi pc en q : Nat} {hh : List (Nat × Nat × Nat × Nat)} (h : hdG mi hh pc en = some q) : en < 6 ∧ ∃ hp, hdF (tableOf hh) pc en = some hp ∧ ((∃ j, decode (cB mi) hp = .ok (.astore_n j, 1) ∧ (j : Nat) < cM mi ∧ q = hp + 1) ∨ ∃ j, decode (cB mi) hp = .ok (.astore j, 2) ∧ j < cM mi ∧ q = hp + 2) := by
  unfold hdG at h
  cases hb : Nat.blt en 6 with
  | false => rw [hb] at h; cases h
  | true =>
    rw [hb] at h
    simp only [cond_true] at h
    refine ⟨Nat.le_of_ble_eq_true hb, ?_⟩
    split at h
    · next hp hf =>
      refine ⟨hp, hf, ?_⟩
      split at h
      · next j hd =>
        cases hc : Nat.blt (j : Nat) (cM mi) with
        | false => rw [hc] at h; cases h
        | true =>
          rw [hc] at h
          exact Or.inl ⟨j, hd, Nat.le_of_ble_eq_true hc, (Option.some.inj h).symm⟩
      · next j hd =>
        cases hc : Nat.blt j (cM mi) with
        | false => rw [hc] at h; cases h
        | true =>
          rw [hc] at h
          exact Or.inr ⟨j, hd, Nat.le_of_ble_eq_true hc, (Option.some.inj h).symm⟩
      · cases h
    · cases h
theorem hdG_run {mi hp q9 q : Nat} {lv : List (Nat × Value)} (h : (∃ j, decode (cB mi) hp = .ok (.astore_n j, 1) ∧ (j : Nat) < cM mi ∧ q = hp + 1) ∨ ∃ j, decode (cB mi) hp = .ok (.astore j, 2) ∧ j < cM mi ∧ q = hp + 2) (hx : p.tables.exec = Jvm.exec) (hb : c.code = cB mi) (hl : lv_has ls (cM mi) lv)
    (k : ∀ ls' : Array Slot, lv_has ls' (cM mi) (lm ad []) → W p l e R s m args below meth c H locs cells slots Q (F0 m q ls' [])) : W p l e R s m args below meth c H locs cells slots Q (F0 m hp ls [.ref q9]) := by
  have key : ∀ (ls' : Array Slot) (lv2 : List (Nat × Value)), lv_has ls' (cM mi) lv2 → lv_has ls' (cM mi) (lm ad []) := fun ls' lv2 h => ⟨h.1, h.2.1, fun q hq => (by cases hq)⟩
  rcases h with ⟨j, hd, hj, rfl⟩ | ⟨j, hd, hj, rfl⟩
  · exact lv_astore_n hx hb hd rfl hl hj rfl (fun ls' h' => k ls' (key ls' _ h'))
  · exact lv_astore hx hb hd hl hj rfl (fun ls' h' => k ls' (key ls' _ h'))
def wsL (mi : Nat) (hh : List (Nat × Nat × Nat × Nat)) : List Cond := Cond.codeWith (cY mi) (cB mi) (cM mi) (cR mi) hh :: wAll
set_option maxHeartbeats 4000000 in
/-- a method of the law that catches -/
theorem metL (hfl : l.stackTraces = false) {n n1 d mi i mj na pc1 : Nat} {hh : List (Nat × Nat × Nat × Nat)} {lc1 : LC} {st1 av0 av rest : List Value} {h h3 : AH} {o1 : Out} {x : Value}
    (hL : ¬ mi = mL_law) (hmi : mi < nMeth) (hpl : plainName (cY mi).cls = true) (ho : oN (cO mi) = RL) (hcat : (av0.map fun v => v.category).sum ≤ cM mi)
    (hrun : run n1 (d + 1) mi 0 (lv_args 0 av0) [] h = some (pc1, lc1, st1, h)) (hw : wfE mi pc1 (4, .invokevirtual i, pc1 + 3, mj, na, 0, .null) = true) (ha : cArgs 0 na mj st1 = some (av, rest)) (h8 : (rest.map fun v => v.category).sum ≤ 8 ∧ (av.map fun v => v.category).sum ≤ cM mj)
    (hM : RT n d mj 0 (lv_args 0 av) [] h o1)
    (hk : (∃ v h2, o1 = .inl (v, h2) ∧ EvR (d + 1) mi (pc1 + 3) lc1 (v.toList ++ rest) h2 (some x) h3) ∨ ∃ en h2 q, o1 = .inr (en, h2) ∧ hdG mi hh pc1 en = some q ∧ EvR (d + 1) mi q [] [] h2 (some x) h3) (hA : AdOk base ad) :
    vx_Met l (cY mi) (wsL mi hh) (rmT (d + 1) 1) (PcT D ca ad base av0 h) (QoX D ca ad base (.inl (some x, h3))) (XoX D ca ad base (.inl (some x, h3))) 1 6 (fun a : Nat => base a) := by
  refine vx_ofWH (cc := cB mi) (maxL := cM mi) (ret := cR mi) (hh := hh) hpl rfl ?_
  intro p e s m args below meth c s₁ B hml hv
  obtain ⟨rfl, ⟨hP, hK⟩, hZ, hbs⟩ := hv
  have hts := atoms_spec (ws := wsL mi hh) B.pre
  have htab := vx_table (x := cY mi) B (hts _ List.mem_cons_self)
  have hts2 : ∀ w ∈ wAll, w.before _ s = true := fun w hw => hts w (List.mem_cons_of_mem _ hw)
  have hown : s.vm.findClass (oN (cO mi)) = some m.cls := by rw [← oN_ok mi (List.mem_range.mpr hmi)]; exact findClass_of_methodNamed B.named
  have hl := lv_entry (av0.map (em ad)) (n := cM mi) (by rw [sl_len, em_cats]; exact hcat)
  rw [lg_entry_eq]
  generalize (lg_sl (av0.map (em ad)) ++ List.replicate (cM mi - (lg_sl (av0.map (em ad))).length) Slot.unset).toArray = ls at hl ⊢
  rw [args_em] at hl
  refine sim n1 (d + 1) mi 0 _ [] h _ hrun hL p e (rmT (d + 1) 1) s m _ below meth c s.heap s.heap [] 0 0 _ ls B.exec B.bytes hml hown hts2 hK hA (by show _ ≤ d + 1 + 7; omega) (by show _ ≤ 60 * (d + 1 + 1) + 120; omega) (Nat.zero_le _) (Nat.zero_le _) hP va_S.rf hl (fun H1 locs1 ls1 hP1 hS1 hl1 => ?_)
  have hw9 : (decide (decode (cB mi) pc1 = .ok (.invokevirtual i, pc1 + 3 - pc1)) && Nat.ble pc1 (pc1 + 3) && (Nat.beq (pc1 + 3) (pc1 + lenI (.invokevirtual i)) && wfC (cO mi) (.invokevirtual i) mj na 0)) = true := hw
  have hnl := wfC_law (show wfC (cO mi) (.invokevirtual i) mj na 0 = true by
    simp only [Bool.and_eq_true] at hw9
    exact hw9.2.2)
  have hcd := wfC_pl (show wfC (cO mi) (.invokevirtual i) mj na 0 = true by
    simp only [Bool.and_eq_true] at hw9
    exact hw9.2.2)
  have hM2 := metT (l := l) (D := D) (ca := ca) (ad := ad) (base := base) (o := o1) (simT hfl n) hnl hcd.1 hcd.2 h8.2 hM hA
  have k1 := kO_le o1
  refine sCT (n9 := kO o1) (d' := d) B.exec B.bytes hml hown hts2 hK hZ (fun q hq => hbs q (Nat.le_trans hS1.1 hq)) hP1 (A0 := fun q : Nat => base q) (fun q z => z) hS1 hS1.2.1 hl1.1 (Nat.le_refl _) (Nat.le_refl _) (by show 0 + kO o1 ≤ 1; omega) (by show 0 + 6 * kO o1 ≤ 6 * 1; omega) hw ha h8.1 hM2 (fun v h2 e1 H2 locs2 hP2 _ hS2 => ?_) (fun en h2 e1 H2 locs2 ce q9 hP2 hS2 hce hcv hcl => ?_)
  · subst e1
    rcases hk with ⟨v9, h9, e2, hk⟩ | ⟨en9, h9, q, e2, -⟩
    · cases e2
      obtain ⟨n3, pc3, lc3, st3, hr3, hrv⟩ := hk
      refine sim n3 (d + 1) mi (pc1 + 3) lc1 _ h2 _ hr3 hL p e (rmT (d + 1) 1) s m _ below meth c s.heap H2 locs2 (0 + 0) (0 + 6 * 0) _ ls1 B.exec B.bytes hml hown hts2 hK hA (by show _ ≤ d + 1 + 7; omega) (by show _ ≤ 60 * (d + 1 + 1) + 120; omega) (Nat.zero_le _) (Nat.zero_le _) hP2 hS2 hl1 (fun H3 locs3 ls3 hP3 hS3 hl3 => ?_)
      refine vx_ret (W.widen (show 0 + 0 ≤ 1 by omega) (show 0 + 6 * 0 ≤ 6 by omega) ?_)
      exact sR hL hrv B.exec B.bytes B.returns B.notSynchronized (fun t ht hW => ⟨⟨rfl, by rw [ht]; exact hP3⟩, hS3.F ht⟩) hS3.2.2
    · cases e2
  · subst e1
    rcases hk with ⟨v9, h9, e2, -⟩ | ⟨en9, h9, q, e2, hok, hk⟩
    · cases e2
    · cases e2
      obtain ⟨hen, hp, hf, hst⟩ := hdG_en hok
      obtain ⟨pre, x9, suf, f1, f2, f3, f4, f5⟩ := hdF_spec _ hf
      have hown2 : s.vm.findClass RL = some m.cls := by rw [← ho]; exact hown
      refine vx_catch (own := RL) (name := exN en) hown2 pre x9 suf (htab.trans f1) (fun z hz => ?_) f3 (by rw [f4]; exact (exL_ok en hen).2) (by rw [f4]; exact hts2 _ (exL_all hen)) (va_tabs rfl rfl (hZ.2.2.1 en hen (.castable (exN en) (exN en)) (by simp [exB]))) hce hcv hcl ?_
      · rcases f5 z hz with q | ⟨ek, g1, g2, g3⟩
        · exact Or.inl q
        · exact Or.inr ⟨by rw [g3]; exact (exL_ok ek g1).2, exN ek, by rw [g3]; exact hts2 _ (exL_all g1), hZ.2.2.2 en ek hen g1 g2⟩
      · rw [f2]
        refine hdG_run (ad := ad) hst B.exec B.bytes hl1 (fun ls4 hl4 => ?_)
        obtain ⟨n3, pc3, lc3, st3, hr3, hrv⟩ := hk
        refine sim n3 (d + 1) mi q [] [] h2 _ hr3 hL p e (rmT (d + 1) 1) s m _ below meth c s.heap H2 locs2 (0 + kO (.inr (en, h2))) (0 + 6 * kO (.inr (en, h2))) _ ls4 B.exec B.bytes hml hown hts2 hK hA (by show _ ≤ d + 1 + 7; omega) (by show _ ≤ 60 * (d + 1 + 1) + 120; omega) (Nat.le_refl _) (Nat.le_refl _) hP2 hS2 hl4 (fun H3 locs3 ls3 hP3 hS3 hl3 => ?_)
        refine vx_ret (W.widen (show 0 + 1 ≤ 1 by omega) (show 0 + 6 * 1 ≤ 6 by omega) ?_)
        exact sR hL hrv B.exec B.bytes B.returns B.notSynchronized (fun t ht hW => ⟨⟨rfl, by rw [ht]; exact hP3⟩, hS3.F ht⟩) hS3.2.2
end
