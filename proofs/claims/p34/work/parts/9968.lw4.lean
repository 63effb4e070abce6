noncomputable section
section
variable {p : Program} {l : Launch} {e : Env} {R : Room} {s : State} {m : MethodId} {args : Array Value} {below : List Frame} {meth : Method} {c : Code} {Q : State → Prop} {mi dR KC : Nat} {D : va_G} {ca : Nat → ClassId} {ad0 ad : Nat → Nat} {A : Nat → Prop} {E : EX} {G : Nat → Nat → Int32} {kc pc pc' nx r1 r2 r3 : Nat} {lc lc' : LC} {st st' : List Value} {h h2 : AH} {ins : Instr} {w : Value}
/-- no ref of this number -/
def nrV (kx : Nat) (v : Value) : Bool := match v with | .ref k => !(Nat.beq k kx) | _ => true
theorem em_nr {kx : Nat} {a1 a2 : Nat → Nat} (e : ∀ k, k ≠ kx → a1 k = a2 k) (v : Value) (h : nrV kx v = true) : em a1 v = em a2 v := by
  cases v <;> try rfl
  next k =>
  show Value.ref (a1 k) = Value.ref (a2 k)
  rw [e k (fun q => by subst q; have h : (!(Nat.beq k k)) = true := h; rw [show Nat.beq k k = true from Nat.beq_refl k] at h; cases h)]
theorem st_nr {kx : Nat} {a1 a2 : Nat → Nat} (e : ∀ k, k ≠ kx → a1 k = a2 k) (st : List Value) (h : st.all (nrV kx) = true) : st.map (em a1) = st.map (em a2) := List.map_congr_left (fun v hv => em_nr e v (List.all_eq_true.mp h v hv))
theorem lm_nr {kx : Nat} {a1 a2 : Nat → Nat} (e : ∀ k, k ≠ kx → a1 k = a2 k) (lc : LC) (h : lc.all (fun q => nrV kx q.2) = true) : lm a1 lc = lm a2 lc := by
  unfold lm
  exact List.map_congr_left (fun v hv => by rw [em_nr e v.2 (List.all_eq_true.mp h v hv)])
/-- a new row of the method's own -/
theorem wl_new {N kx : Nat} {n : Int32} (hdg : decode (cB mi) pc = .ok (.newarray .int, 2)) (hkx : kx = 212 ∨ kx = 213) (hne : ∀ x ∈ E, x.1 ≠ kx) (hn : n = nI N) (hN : N ≤ 64) (h1 : lc.all (fun q => nrV kx q.2) = true) (h2 : st.all (nrV kx) = true) (hk1 : kc + 1 ≤ KC)
    (K : ∀ ad' : Nat → Nat, WL p l e R s m args below meth c Q mi dR KC D ca ad0 A ad' ((kx, N) :: E) (fun a => if a = kx then fun _ => 0 else G a) (kc + 1) (pc + 2) lc (.ref kx :: st) h) : WL p l e R s m args below meth c Q mi dR KC D ca ad0 A ad E G kc pc lc (.int n :: st) h := by
  intro F hk H locs ls cells slots hc9 hs9 hP hX hS hl
  obtain ⟨ad', had⟩ : ∃ ad' : Nat → Nat, ad' = fun k => if k = kx then H.size else ad k := ⟨_, rfl⟩
  have e1 : ad' kx = H.size := by rw [had]; exact if_pos rfl
  have e2 : ∀ k, k ≠ kx → ad' k = ad k := fun k hk => by rw [had]; exact if_neg hk
  have e3 : wsOf ca ad' h = wsOf ca ad h := ws_congr (fun k a b => e2 k (by omega))
  have K2 := K ad'
  obtain ⟨⟨hx, hb, hml, hown, ho, hts, hwf⟩, ⟨hK, hA, hZ, hB, hfl, hZX⟩, hag, hE, hR, hrr⟩ := F
  have hwl : ∀ j, 31 ≤ j ∧ j < 212 → ad j < H.size := fun j hj => vx_lt hP (ws_at (ca := ca) (ad := ad) hj h)
  have hxl : ∀ x ∈ E, ad x.1 < H.size := fun x hx => (Array.getElem?_eq_some_iff.mp (hX x hx)).1
  have F2 : LF p l R s m args meth c mi dR KC D ca ad0 A ad' ((kx, N) :: E) := by
    refine ⟨⟨hx, hb, hml, hown, ho, hts, hwf⟩, ⟨hK, ⟨fun i j hi hj q => hA.1 i j hi hj (by rw [← e2 i (by omega), ← e2 j (by omega), q]), fun k hk => by rw [e2 k (by omega)]; exact hA.2 k hk⟩, hZ, hB, hfl, hZX.ad (fun k hk => e2 k (by omega))⟩, fun k a b => (e2 k (by omega)).trans (hag k a b), ⟨fun x hx => ?_, fun x hx y hy hxy => ?_⟩, hR, hrr⟩
    · rcases List.mem_cons.mp hx with q | q
      · subst q
        refine ⟨hkx, by rw [e1]; exact hB _ hS.1, by rw [e1]; exact hS.1, fun j hj => ?_⟩
        rw [e1, e2 j (by omega)]
        exact Nat.ne_of_lt (hwl j hj)
      · obtain ⟨a1, a2, a3, a4⟩ := hE.1 x q
        have nx := hne x q
        exact ⟨a1, by rw [e2 _ nx]; exact a2, by rw [e2 _ nx]; exact a3, fun j hj => by rw [e2 _ nx, e2 j (by omega)]; exact a4 j hj⟩
    · rcases List.mem_cons.mp hx with q | q <;> rcases List.mem_cons.mp hy with r | r
      · subst q; subst r; exact absurd rfl hxy
      · subst q
        rw [e1, e2 _ (hne y r)]
        exact fun z => by have := hxl y r; omega
      · subst r
        rw [e1, e2 _ (hne x q)]
        exact fun z => by have := hxl x q; omega
      · rw [e2 _ (hne x q), e2 _ (hne y r)]
        exact hE.2 x q y r hxy
  subst hn
  refine va_newaK (g := F0 m pc ls (.int (nI N) :: st.map (em ad))) hx hb (atype := .int) (hts _ (wA (tb_in 1 131 (show (tb 1)[131]? = some (Jvm.Cond.arrayClass Jvm.ClassFile.FieldType.int) by decide +kernel)) rfl)) rfl hdg rfl (nI_pos (by omega)) (nI_clamp (by omega)) (Nat.le_trans (Nat.mul_le_mul_right _ hN) (Nat.le_of_ble_eq_true rfl)) (by omega) (by omega) rfl (fun H1 cA z1 z2 z3 z4 z5 => ?_)
  have hca : cA = ca 1 := by
    have h9 := (hK.2 0 (ca 1, .int) rfl).2
    have h9 : s.vm.findClass ("[" ++ (FieldType.int).toString) = some (ca 1) := h9
    exact Option.some.inj (z5.symm.trans h9)
  subst hca
  have hP1 : va_P D vcls (wsOf ca ad' h) H1 := by
    rw [e3]
    exact hP.kept (fun k q hq => z3 q.1 (vx_lt hP hq))
  have hX1 : XA ca ad' ((kx, N) :: E) (fun a => if a = kx then fun _ => 0 else G a) H1 := fun x hx => by
    rcases List.mem_cons.mp hx with q | q
    · subst q
      rw [e1, z1]
      dsimp only
      rw [if_pos rfl]
      rfl
    · rw [e2 _ (hne x q), z3 _ (hxl x q)]
      dsimp only
      rw [if_neg (hne x q)]
      exact hX x q
  have hS1 : va_S A s.heap H1 locs := ⟨Nat.le_trans hS.1 (by omega), fun q a b => (z3 q (Nat.lt_of_lt_of_le a hS.1)).trans (hS.2.1 q a b), hS.2.2⟩
  have hl1 : lv_has ls (cM mi) (lm ad' lc) := by rw [lm_nr e2 lc h1]; exact hl
  have := K2 F2 hk1 H1 locs ls (cells + 1) (slots + N) (by omega) (by omega) hP1 hX1 hS1 hl1
  rw [List.map_cons, st_nr e2 st h2, show em ad' (.ref kx) = .ref H.size by rw [← e1]; rfl] at this
  exact this
/-- read out of a row of the method's own -/
theorem wl_el {kx n : Nat} {i : Int32} (hdg : decode (cB mi) pc = .ok (.iaload, 1)) (hx9 : (kx, n) ∈ E) (hi : vp_in i n) (K : WL p l e R s m args below meth c Q mi dR KC D ca ad0 A ad E G kc (pc + 1) lc (.int (G kx i.toNatClampNeg) :: st) h) : WL p l e R s m args below meth c Q mi dR KC D ca ad0 A ad E G kc pc lc (.int i :: .ref kx :: st) h := by
  intro F hk H locs ls cells slots hc9 hs9 hP hX hS hl
  have K2 := K F hk H locs ls cells slots hc9 hs9 hP hX hS hl
  obtain ⟨⟨hx, hb, -⟩, ⟨hK, -⟩, -⟩ := F
  have hP1 : va_P D vcls [(ad kx, .inl (ca 1, n, .inl (G kx)))] H := fun k q hq => by
    have a := (List.getElem?_eq_some_iff.mp hq).1
    simp only [List.length_cons, List.length_nil] at a
    rw [show k = 0 by omega] at hq
    cases hq
    exact hX _ hx9
  exact va_iald hx hb hK hP1 0 0 rfl (tys := tysOf ca) rfl hi hdg K2
/-- written into it -/
theorem wl_es {kx n : Nat} {i x : Int32} (hdg : decode (cB mi) pc = .ok (.iastore, 1)) (hx9 : (kx, n) ∈ E) (hu : ∀ y ∈ E, y.1 = kx → y = (kx, n)) (hi : vp_in i n) (K : WL p l e R s m args below meth c Q mi dR KC D ca ad0 A ad E (fun a => if a = kx then upd (G kx) i.toNatClampNeg x else G a) kc (pc + 1) lc st h) : WL p l e R s m args below meth c Q mi dR KC D ca ad0 A ad E G kc pc lc (.int x :: .int i :: .ref kx :: st) h := by
  intro F hk H locs ls cells slots hc9 hs9 hP hX hS hl
  have K2 := fun H1 locs1 hP1 hX1 hS1 => K F hk H1 locs1 ls cells slots hc9 hs9 hP1 hX1 hS1 hl
  obtain ⟨⟨hx, hb, -⟩, ⟨hK, -⟩, -, hE, -⟩ := F
  obtain ⟨a1, a2, a3, a4⟩ := hE.1 _ hx9
  have hP1 : va_P D vcls [(ad kx, .inl (ca 1, n, .inl (G kx)))] H := fun k q hq => by
    have a := (List.getElem?_eq_some_iff.mp hq).1
    simp only [List.length_cons, List.length_nil] at a
    rw [show k = 0 by omega] at hq
    cases hq
    exact hX _ hx9
  refine W.iast hx hb (hP1 0 _ rfl) ((hK.2 0 (ca 1, .int) rfl).1 n (fun j => .int (G kx j))) (fun q => by cases q) (by show ¬ (i < 0 ∨ (arrV _ _ _).slots.size ≤ _); rw [arrV_size]; exact hi) rfl rfl hdg fun H1 e z oq => ?_
  refine K2 H1 _ (hP.kept (fun k q hq => oq q.1 (fun z9 => ?_))) (fun y hy => ?_) (hS.put z oq a2)
  · have hk9 := (List.getElem?_eq_some_iff.mp hq).1
    rw [ws_len] at hk9
    have h9 := ws_at (ca := ca) (ad := ad) (k := k + 31) ⟨by omega, by omega⟩ h
    rw [Nat.add_sub_cancel] at h9
    rw [h9] at hq
    have e9 : q.1 = ad (k + 31) := by rw [← Option.some.inj hq]
    exact a4 (k + 31) ⟨by omega, by omega⟩ (e9.symm.trans z9)
  · by_cases hy9 : y.1 = kx
    · have := hu y hy hy9
      subst this
      dsimp only
      rw [if_pos rfl]
      show H1[ad kx]? = some (vp_cell _ _)
      rw [e]
      rw [vp_cell_i, vp_cell_i, arrV_store]
      congr 2
      funext q
      by_cases hq : q = i.toNatClampNeg
      · subst hq
        simp [updV, upd]
      · simp [updV, upd, hq]
    · dsimp only
      rw [if_neg hy9, oq _ (hE.2 _ hy _ hx9 hy9)]
      exact hX y hy
/-- the texts -/
theorem wl_tx (hmi : oN (cO mi) = RL) (hdg : decode (cB mi) pc = .ok (.getstatic 104, 3)) (K : WL p l e R s m args below meth c Q mi dR KC D ca ad0 A ad E G kc (pc + 3) lc (.ref 219 :: st) h) : WL p l e R s m args below meth c Q mi dR KC D ca ad0 A ad E G kc pc lc st h := by
  intro F hk H locs ls cells slots hc9 hs9 hP hX hS hl
  have K2 := K F hk H locs ls cells slots hc9 hs9 hP hX hS hl
  obtain ⟨⟨hx, hb, hml, hown, ho, hts, hwf⟩, ⟨hK, hA, hZ, hB, hfl, hZX⟩, -⟩ := F
  exact va_gets hx hb hZX.2.2.2.1 hS (own := RL) (by rw [← ho]; exact hown) (hts _ (wA (tb_in 4 188 (show (tb 4)[188]? = some (Jvm.Cond.fieldLink "SawnIceLaw" (104 : Nat) "SawnIceLaw" "TEXTS" "[Ljava/lang/String;") by decide +kernel)) rfl)) (fun x h => h) hdg K2
theorem wl_tl (hdg : decode (cB mi) pc = .ok (.arraylength, 1)) (K : WL p l e R s m args below meth c Q mi dR KC D ca ad0 A ad E G kc (pc + 1) lc (.int 12 :: st) h) : WL p l e R s m args below meth c Q mi dR KC D ca ad0 A ad E G kc pc lc (.ref 219 :: st) h := by
  intro F hk H locs ls cells slots hc9 hs9 hP hX hS hl
  have K2 := K F hk H locs ls cells slots hc9 hs9 hP hX hS hl
  obtain ⟨⟨hx, hb, hml, hown, ho, hts, hwf⟩, ⟨hK, hA, hZ, hB, hfl, hZX⟩, -⟩ := F
  exact va_tlen hx hb hZX.2.2.2.2.1 hS (v := 12) rfl hdg K2
theorem wl_ta {i : Nat} (hi : i < 12) (hdg : decode (cB mi) pc = .ok (.aaload, 1)) (K : WL p l e R s m args below meth c Q mi dR KC D ca ad0 A ad E G kc (pc + 1) lc (.ref (220 + i) :: st) h) : WL p l e R s m args below meth c Q mi dR KC D ca ad0 A ad E G kc pc lc (.int (nI i) :: .ref 219 :: st) h := by
  intro F hk H locs ls cells slots hc9 hs9 hP hX hS hl
  have K2 := K F hk H locs ls cells slots hc9 hs9 hP hX hS hl
  obtain ⟨⟨hx, hb, hml, hown, ho, hts, hwf⟩, ⟨hK, hA, hZ, hB, hfl, hZX⟩, -⟩ := F
  exact vb_tq hx hb hZX.2.2.2.2.1 hS (vp_in_nI hi (by omega)) (v := .ref (ad (220 + i))) (by rw [nI_clamp (by omega)]) hdg K2
theorem wl_rw (hdg : decode (cB mi) pc = .ok (.ldc 143, 2)) (K : WL p l e R s m args below meth c Q mi dR KC D ca ad0 A ad E G kc (pc + 2) lc (.ref 232 :: st) h) : WL p l e R s m args below meth c Q mi dR KC D ca ad0 A ad E G kc pc lc st h := by
  intro F hk H locs ls cells slots hc9 hs9 hP hX hS hl
  have K2 := K F hk H locs ls cells slots hc9 hs9 hP hX hS hl
  obtain ⟨⟨hx, hb, hml, hown, ho, hts, hwf⟩, ⟨hK, hA, hZ, hB, hfl, hZX⟩, -⟩ := F
  exact va_ldcS hx hb (own := RL) (by rw [← ho]; exact hown) hZX.2.2.2.2.2 hdg K2
/-- a question to a text -/
theorem wl_js {mj na d' i9 i : Nat} {As rest : List Value} {rv : Option Value} (hi : i < 13) (hdg : decode (cB mi) pc = .ok (.invokevirtual i9, 3)) (hM : ∀ sa va : Nat, Met l (cY mj) (wsM mj) (rmX d') (va_Pc (.ref sa :: As) (ZSp (txB.getD i []) sa va)) (QJ rv) 0 0 (fun _ => False))
    (w1 : mP.any (fun q => Nat.beq q.1 19 && Nat.beq q.2.1 i9 && Nat.beq q.2.2.1 mj) = true) (w2 : iP.any (fun q => Nat.beq q.1 mj) = true) (w3 : sP.any (fun q => Nat.beq q.1 mj) = true) (w4 : mj ∈ cdd) (w5 : (cY mj).cls = oN 15) (hmh : (cY mj).cls ≠ "java/lang/invoke/MethodHandle" ∧ (cY mj).cls ≠ "java/lang/invoke/VarHandle" ∧ (parseMethodDescriptor (cY mj).desc).map (fun d => d.parameters.length) = some na)
    (hlen : As.length = na) (h8 : (rest.map fun v => v.category).sum ≤ 8) (hd : d' + 2 ≤ dR) (hm16 : cM mj ≤ 16) (hAs : As.map (em ad) = As) (hrv : rv.map (em ad) = rv) (K : WL p l e R s m args below meth c Q mi dR KC D ca ad0 A ad E G kc (pc + 3) lc (rv.toList ++ rest) h) : WL p l e R s m args below meth c Q mi dR KC D ca ad0 A ad E G kc pc lc (As.reverse ++ .ref (220 + i) :: rest) h := by
  intro F hk H locs ls cells slots hc9 hs9 hP hX hS hl
  have K2 := fun H1 locs1 hP1 hX1 hS1 => K F hk H1 locs1 ls cells slots hc9 hs9 hP1 hX1 hS1 hl
  obtain ⟨⟨hx, hb, hml, hown, ho, hts, hwf⟩, ⟨hK, hA, hZ, hB, hfl, hZX⟩, -, -, hR, -⟩ := F
  have hZ9 := hZX.text hi
  obtain ⟨cell, r1, r2, r3⟩ := vk_recv hZ9.1 (i := 0) (by decide) hS
  have r1 : H[ad (220 + i)]? = some cell := r1
  have hZ2 : ZS (txB.getD i []) (ad (220 + i)) (ad (240 + i)) (fun _ => False) s H := (hZ9.kept hS.2.1).narrow (fun q z => absurd z (fun y => y))
  have est : (As.reverse ++ Value.ref (220 + i) :: rest).map (em ad) = As.reverse ++ .ref (ad (220 + i)) :: rest.map (em ad) := by
    rw [List.map_append, List.map_reverse, hAs]
    rfl
  rw [est]
  refine callJ (rest := rest.map (em ad)) (jV (mi := mi) (mj := mj) (na := na) (d' := d') (i := i9) (own := oN 19) (b := ad (220 + i)) (As := As) hx hb hml (by rw [← show RL = oN 19 from rfl, ← ho]; exact hown) hts hl.1 ⟨by show d' + 1 + 1 ≤ _; omega, by show 8 + (cM mj + 11) + 60 * (d' + 1) ≤ _; omega⟩ ⟨by omega, by omega⟩ (wML w1) (wIM w2) (wSE w3) (by rw [w5]; exact wIN (o := 15) (by decide +kernel)) (cdA w4) hmh hdg rfl hlen (by rw [em_cats]; exact h8) (hM _ _) ⟨ZSp_blind, ⟨cell, r1, r2, by rw [w5]; exact r3⟩, fun U hU hW => ⟨rfl, by show ZS _ _ _ _ U U.heap; rw [hU]; exact hZ2.moved hW.alike⟩⟩) (fun H3 locs3 hS3 hl9 => ?_)
  have hP3 : va_P D vcls (wsOf ca ad h) H3 := hP.kept (fun k x hx => hS3.2.1 x.1 ((hP k x hx).lt) (fun z => z))
  have hX3 : XA ca ad E G H3 := fun x hx => by rw [hS3.2.1 _ (Array.getElem?_eq_some_iff.mp (hX x hx)).1 (fun z => z)]; exact hX x hx
  have hS4 : va_S A s.heap H3 locs3 := ⟨Nat.le_trans hS.1 hS3.1, fun q a b => (hS3.2.1 q (Nat.lt_of_lt_of_le a hS.1) (fun z => z)).trans (hS.2.1 q a b), fun q hq => hS.2.2 q (hl9 q hq)⟩
  have K3 := K2 H3 locs3 hP3 hX3 hS4
  have erv : (rv.toList ++ rest).map (em ad) = rv.toList ++ rest.map (em ad) := by
    rw [List.map_append]
    cases rv with
    | none => rfl
    | some x =>
      have : em ad x = x := Option.some.inj hrv
      show [em ad x] ++ _ = _
      rw [this]
      rfl
  rw [erv] at K3
  exact K3
end
end
