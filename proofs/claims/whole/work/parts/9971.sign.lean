-- needs: 9970
noncomputable section
variable {p : Program} {l : Launch} {e : Env} {R : Room} {s : State} {m : MethodId} {args : Array Value} {below : List Frame} {meth : Method} {c : Code} {H H0 : Heap} {locs : List Loc} {cells slots : Nat} {Q : State → Prop} {ls : Array Slot} {D : va_G} {ca : Nat → ClassId} {ad : Nat → Nat} {base : Nat}
set_option maxHeartbeats 4000000 in
theorem sCv {mi pc nx mj na d' : Nat} {ins : Instr} {v : Value} {st : List Value} {q : List Value × List Value} {rv : Option Value} {h h' : AH} {Pc : Array Value → State → Prop} (hx : p.tables.exec = Jvm.exec) (hb : c.code = cB mi) (hml : c.maxLocals = cM mi) (hown : s.vm.findClass (oN (cO mi)) = some m.cls) (hts : ∀ w ∈ wAll, w.before args s = true)
    (hK : va_K D vcls (tysOf ca) s) (hP : va_P D vcls (wsOf ca ad h) H) (hS : va_S (fun q : Nat => base ≤ q) H0 H locs) (hl : ls.size = cM mi) (hRf : d' + 2 ≤ R.frames) (hRl : 60 * (d' + 2) ≤ R.locals) (hc : cells ≤ R.cells) (hsl : slots ≤ R.slots)
    (hw : wfE mi pc (4, ins, nx, mj, na, 0, v) = true) (ha : cArgs 0 na mj st = some q) (h8 : (q.2.map fun v => v.category).sum ≤ 8)
    (hM : Met l (cY mj) (wsM mj) (rmX d') Pc (QcX D ca ad base rv h') 0 0 (fun a : Nat => base ≤ a)) (hbl : FrameBlind Pc) (hpr : ∀ U : State, U.heap = H → s.WarmedH U.vm → Pc (q.1.map (em ad)).toArray U)
    (k : ∀ (H1 : Heap) (locs1 : List Loc), va_P D vcls (wsOf ca ad h') H1 → va_S (fun q : Nat => base ≤ q) H0 H1 locs1 → W p l e R s m args below meth c H1 locs1 cells slots Q (F0 m nx ls ((rv.toList ++ q.2).map (em ad)))) : W p l e R s m args below meth c H locs cells slots Q (F0 m pc ls (st.map (em ad))) := by
  have hw9 : (decide (decode (cB mi) pc = .ok (ins, nx - pc)) && Nat.ble pc nx && (Nat.beq nx (pc + lenI ins) && wfC (cO mi) ins mj na 0)) = true := hw
  clear hw
  simp only [Bool.and_eq_true, decide_eq_true_eq] at hw9
  obtain ⟨⟨hdg0, -⟩, hnx0, h3⟩ := hw9
  have hnx := Nat.eq_of_beq_eq_true hnx0
  have hdg : decode (cB mi) pc = .ok (ins, lenI ins) := by rw [hdg0, hnx, Nat.add_sub_cancel_left]
  clear hdg0 hnx0
  subst hnx
  unfold wfC at h3
  simp only [Bool.and_eq_true, decide_eq_true_eq] at h3
  obtain ⟨⟨⟨⟨⟨⟨⟨⟨hmp, hkd⟩, hnl⟩, hmh⟩, hnp⟩, hcd⟩, hmn⟩, hpa⟩, hm16⟩ := h3
  have hm16 : cM mj ≤ 16 := Nat.le_of_ble_eq_true hm16
  have hmn : mj < nMeth := Nat.le_of_ble_eq_true hmn
  have hcls : (cY mj).cls = oN (cO mj) := oN_ok mj (List.mem_range.mpr hmn)
  have hini : Cond.initialized (cY mj).cls ∈ wAll := by
    obtain ⟨z, hz, hb9⟩ := any2 hnp
    have h5 := tb_in _ _ (nP_ok z hz)
    rw [Nat.eq_of_beq_eq_true hb9, ← hcls] at h5
    exact wA h5 rfl
  have hcode : Cond.code (cY mj) (cB mj) (cM mj) (cR mj) ∈ wAll := by
    obtain ⟨z, hz, hb9⟩ := any2 hcd
    have := Nat.eq_of_beq_eq_true hb9
    subst this
    exact wA (cdd_ok z hz) rfl
  have hwsM : ∀ w ∈ wsM mj, w ∈ wAll := fun w hw => by
    rcases List.mem_cons.mp hw with h | h
    · rw [h]; exact hcode
    · exact h
  obtain ⟨zm, hzm, hbm⟩ := any2 hmp
  simp only [Bool.and_eq_true] at hbm
  obtain ⟨⟨hm1, hm2⟩, hm3⟩ := hbm
  have hml9 := tb_in _ _ (mP_ok zm hzm)
  rw [Nat.eq_of_beq_eq_true hm1, Nat.eq_of_beq_eq_true hm3] at hml9
  unfold cArgs at ha
  split at ha
  case isFalse => cases ha
  rename_i hna
  have hlen : (((st.take na).reverse).map (em ad)).length = na := by simp; omega
  have hroom : (rmX d').frames + 1 ≤ R.frames ∧ 8 + (cM mj + 11) + (rmX d').locals ≤ R.locals := ⟨hRf, by show 8 + (cM mj + 11) + 60 * (d' + 1) ≤ _; omega⟩
  cases ins <;> simp only [reduceCtorEq, Bool.false_eq_true, Bool.and_eq_true, decide_eq_true_eq] at hkd
  case invokevirtual i =>
    obtain ⟨⟨⟨⟨hk0, hko⟩, hkc⟩, hip⟩, hsp⟩ := hkd
    have hk0 := Nat.eq_of_beq_eq_true hk0
    have hko : kOf (cO mj) < 10 := Nat.le_of_ble_eq_true hko
    rw [Nat.eq_of_beq_eq_true hm2] at hml9
    have hinst : Cond.instanceMethod (cY mj) ∈ wAll := by
      obtain ⟨z, hz, hb9⟩ := any2 hip
      have h5 := tb_in _ _ (iP_ok z hz)
      rw [Nat.eq_of_beq_eq_true hb9] at h5
      exact wA h5 rfl
    have hsel : Cond.selects (cY mj).cls (cY mj) (cY mj) ∈ wAll := by
      obtain ⟨z, hz, hb9⟩ := any2 hsp
      have h5 := tb_in _ _ (sP_ok z hz)
      rw [Nat.eq_of_beq_eq_true hb9] at h5
      exact wA h5 rfl
    split at ha
    · next hz => cases hz
    · split at ha
      case h_2 => cases ha
      rename_i b r hdrop
      split at ha
      case h_2 => cases ha
      rename_i ci sl hlay
      split at ha
      case isFalse => cases ha
      rename_i hci
      cases ha
      subst hci
      obtain ⟨hkb, -⟩ := lay_in hlay (by omega)
      have he := ws_at (ca := ca) (ad := ad) hkb h
      rw [hlay] at he
      have hst : st.map (em ad) = (((st.take na).reverse).map (em ad)).reverse ++ .ref (ad b) :: r.map (em ad) := by
        rw [← List.map_reverse, List.reverse_reverse]
        conv => lhs; rw [← List.take_append_drop na st, hdrop]
        rw [List.map_append]
        rfl
      have hrecv := va_recv hK hP (vcls_at _ hko) he
      refine callX (rest := r) (va_runV (As := ((st.take na).reverse).map (em ad)) (Ts := wAll) (C := (cY mj).cls) ⟨hx, hb, hml, hown, hts⟩ hM
        (cwV na hts (gAll (fun w hw => ?_)) rfl rfl rfl ⟨rfl, hmh.1, hmh.2, hpa⟩ hroom)
        ⟨hbl, (by rw [← hkc]; exact hrecv), hpr⟩ rfl hlen hl hst (lv_room (by rw [em_cats]; exact h8)) hdg ⟨hc, hsl⟩) hS k
      unfold wsV at hw
      rcases List.mem_append.mp hw with h | h
      · simp only [List.mem_cons, List.not_mem_nil, or_false] at h
        rcases h with h | h | h | h <;> rw [h]
        · exact wA hml9 rfl
        · exact hinst
        · exact hsel
        · exact hini
      · exact hwsM w h
  case invokestatic i =>
    obtain ⟨hk0, -⟩ := hkd
    exact absurd hk0 (fun z => z)
/-- run gets there -/
def RX (d mi pc : Nat) (lc : LC) (st : List Value) (h : AH) (cf : Cf) : Prop := ∃ n, run n d mi pc lc st h = some cf
section
variable {d mi pc pc' nx r1 r2 r3 : Nat} {lc lc' : LC} {st st' : List Value} {h h2 : AH} {v : Option Value} {ins : Instr} {w : Value} {cf : Cf}
theorem rx_s (hs : stp mi pc lc st h = some (pc', lc', st', h2)) (K : RX d mi pc' lc' st' h2 cf) : RX d mi pc lc st h cf := by
  obtain ⟨n1, hr⟩ := K
  refine ⟨n1 + 1, ?_⟩
  unfold run
  have hs0 := hs
  unfold stp at hs0
  split
  · next hcd => rw [hcd] at hs0; cases hs0
  · next hcd => rw [hcd] at hs0; cases hs0
  · next hcd => rw [hcd] at hs0; cases hs0
  · next hcd => rw [hcd] at hs0; cases hs0
  · next hcd => rw [hcd] at hs0; cases hs0
  · rw [hs]; exact hr
theorem rx_b {P1 : Prop} {iP : Decidable P1} (hc : cdT mi pc = some (2, ins, nx, r1, r2, r3, w)) (hs : stB ins st = some (@decide P1 iP, st')) (K1 : P1 → RX d mi r1 lc st' h cf) (K2 : ¬ P1 → RX d mi nx lc st' h cf) : RX d mi pc lc st h cf := by
  by_cases hP : P1
  · obtain ⟨n1, hr⟩ := K1 hP
    exact ⟨n1 + 1, by
      unfold run
      simp only [hc, hs, hP, decide_true, if_true]
      exact hr⟩
  · obtain ⟨n1, hr⟩ := K2 hP
    exact ⟨n1 + 1, by
      unfold run
      simp only [hc, hs, hP, decide_false, Bool.false_eq_true, if_false]
      exact hr⟩
theorem rx_g (hc : cdT mi pc = some (2, ins, nx, r1, r2, r3, w)) (hs : stB ins st = some (true, st')) (K1 : RX d mi r1 lc st' h cf) : RX d mi pc lc st h cf := by
  obtain ⟨n1, hr⟩ := K1
  exact ⟨n1 + 1, by
    unfold run
    simp only [hc, hs, if_true]
    exact hr⟩
theorem rx_c {mj na kd : Nat} {av rest : List Value} {rv : Option Value} (hc : cdT mi pc = some (4, ins, nx, mj, na, kd, w)) (ha : cArgs kd na mj st = some (av, rest)) (h8 : (rest.map fun v => v.category).sum ≤ 8 ∧ (av.map fun v => v.category).sum ≤ cM mj)
    (hM : EvM d mj av h rv h2) (K : RX (d + 1) mi nx lc (rv.toList ++ rest) h2 cf) : RX (d + 1) mi pc lc st h cf := by
  obtain ⟨n3, pc1, lc1, st1, a1, a2⟩ := hM
  obtain ⟨n1, hr⟩ := K
  exact ⟨max n3 n1 + 1, by
    unfold run
    simp only [hc, ha]
    rw [if_pos h8, run_mono a1 (Nat.le_max_left _ _)]
    simp only [a2]
    exact run_mono hr (Nat.le_max_right _ _)⟩
end
theorem sign_pre {h : AH} {b : Nat} (hw : Wel (h.1 1)) (hb : b < CN (h.1 1)) (hs : ofB (h.1 1) b 2 = 2) : RX 20 mX11_sign 0 (lv_args 0 [.ref 0, .int (nI b)]) [] h (53, [(0, .ref 0), (1, .int (nI b))], [], hI h 0 0 0) := by
  have h40 := hw.2.1
  have c1 : 0 ≤ nI b ∧ nI b ≤ h.1 1 4 - 1 := by
    refine ⟨nI_pos' (by omega), ?_⟩
    rw [hw.1, nI_m1 (by omega)]
    exact nI_le (by omega) (by omega)
  have I := f_isBlock 18 (nI b) h
  rw [bI_t c1] at I
  have F2 : EvM 19 mX11_of [.ref 0, .int (nI b), .int 2] (hI h 0 0 0) (some (.int 2)) (hI h 0 0 0) := by
    have := f_of 19 (b := b) (x := 2) (by omega) (by decide) (hI h 0 0 0)
    rw [show (hI h 0 0 0).1 1 = h.1 1 from hI_ne (by decide), hs] at this
    exact this
  show RX _ _ 0 [(0, .ref 0), (1, .int (nI b))] [] h _
  iterate 4 refine rx_s rfl ?_
  refine rx_c rfl rfl ⟨Nat.le_of_ble_eq_true rfl, Nat.le_of_ble_eq_true rfl⟩ (I) ?_
  refine rx_b rfl rfl (fun _ => ?_) (fun q => absurd (by decide) q)
  refine rx_s rfl ?_
  refine rx_c rfl rfl ⟨Nat.le_of_ble_eq_true rfl, Nat.le_of_ble_eq_true rfl⟩ (f_failsF _ _ _) ?_
  refine rx_b rfl rfl (fun _ => ?_) (fun q => absurd rfl q)
  iterate 3 refine rx_s rfl ?_
  refine rx_c rfl rfl ⟨Nat.le_of_ble_eq_true rfl, Nat.le_of_ble_eq_true rfl⟩ (F2) ?_
  refine rx_b rfl rfl (fun _ => ?_) (fun q => absurd (by decide) q)
  iterate 3 refine rx_s rfl ?_
  refine rx_c rfl rfl ⟨Nat.le_of_ble_eq_true rfl, Nat.le_of_ble_eq_true rfl⟩ (F2) ?_
  refine rx_s rfl ?_
  refine rx_b rfl rfl (fun _ => ?_) (fun q => absurd (by decide) q)
  exact ⟨1, run7 rfl⟩
set_option maxHeartbeats 4000000 in
/-- the sign of a block that is gone -/
theorem met_sg (hA : AdOk base ad) {sa va : Nat} (h215 : ad 215 = sa) {h : AH} {b k : Nat} (hw9 : Wel (h.1 1)) (hb9 : b < CN (h.1 1)) (hs9 : ofB (h.1 1) b 2 = 2) (hk : k < 4) (h7 : ofB (h.1 1) b 7 = nI (k + 1)) :
    Met l (cY mX11_sign) (wsM mX11_sign) (rmX 20) (va_Pc ([Value.ref 0, .int (nI b)].map (em ad)) (fun U => (va_P D vcls (wsOf ca ad h) U.heap ∧ va_K D vcls (tysOf ca) U) ∧ ZS sa va (fun a : Nat => base ≤ a) U U.heap ∧ vk_R "SawnIceModel" 214 "tmbf" sa U)) (QcX D ca ad base (some (.int (sgB.getD k 0))) (hI h 0 0 0)) 0 0 (fun a : Nat => base ≤ a) := by
  refine ofWF (cc := cB mX11_sign) (maxL := cM mX11_sign) (ret := cR mX11_sign) (pf_ok _ (by decide)) rfl ?_
  intro p e s m args below meth c s₁ B hml hv
  obtain ⟨rfl, ⟨hP, hK⟩, hZ, hR⟩ := hv
  have hts := atoms_spec (ws := wsM mX11_sign) B.pre
  have hts2 : ∀ w ∈ wAll, w.before _ s = true := fun w hw => hts w (List.mem_cons_of_mem _ hw)
  have hown : s.vm.findClass (oN (cO mX11_sign)) = some m.cls := by rw [← oN_ok mX11_sign (List.mem_range.mpr (by decide))]; exact findClass_of_methodNamed B.named
  have hl := lv_entry ([Value.ref 0, .int (nI b)].map (em ad)) (n := cM mX11_sign) (by rw [sl_len, em_cats]; exact Nat.le_of_ble_eq_true rfl)
  rw [lg_entry_eq]
  generalize (lg_sl ([Value.ref 0, .int (nI b)].map (em ad)) ++ List.replicate (cM mX11_sign - (lg_sl ([Value.ref 0, .int (nI b)].map (em ad))).length) Slot.unset).toArray = ls at hl ⊢
  rw [args_em] at hl
  have hL : ¬ mX11_sign = mL_law := by decide
  obtain ⟨n, hrun⟩ := sign_pre hw9 hb9 hs9
  refine sim n 20 mX11_sign 0 _ [] h _ hrun hL p e (rmX 20) s m _ below meth c s.heap s.heap [] 0 0 _ ls B.exec B.bytes hml hown hts2 hK hA (Nat.le_refl _) (Nat.le_refl _) (Nat.zero_le _) (Nat.zero_le _) hP va_S.rf hl (fun H1 locs1 ls1 hP1 hS1 hl1 => ?_)
  have hx := B.exec
  have hb := B.bytes
  have hR2 : vk_R (oN (cO mX11_sign)) 214 "tmbf" sa s := hR
  refine va_ldcS hx hb hown hR2 (show decode (cB mX11_sign) 53 = _ by decide +kernel) ?_
  have h40 := hw9.2.1
  have e9 : (Value.ref sa :: ([] : List Value).map (em ad)) = ([Value.ref 215] : List Value).map (em ad) := by rw [← h215]; rfl
  rw [e9]
  refine sL hx hb hl1 (cdT_wf hL (pc := 55) rfl).1 rfl (fun ls2 hl2 => ?_)
  refine sL hx hb hl2 (cdT_wf hL (pc := 56) rfl).1 rfl (fun ls3 hl3 => ?_)
  refine sA hx hb hown hts2 (cdT_wf hL (pc := 57) rfl).1 rfl ?_
  have F7 : EvM 19 mX11_of [.ref 0, .int (nI b), .int 7] (hI h 0 0 0) (some (.int (nI (k + 1)))) (hI h 0 0 0) := by
    have := f_of 19 (b := b) (x := 7) (by omega) (by decide) (hI h 0 0 0)
    rw [show (hI h 0 0 0).1 1 = h.1 1 from hI_ne (by decide), h7] at this
    exact this
  obtain ⟨n7, pc7, lc7, st7, hr7, hv7⟩ := F7
  have hM7 := metOf (l := l) (D := D) (ca := ca) (ad := ad) (base := base) (sim n7) (by decide) (by decide) (pf_ok _ (by decide)) (Nat.le_of_ble_eq_true rfl) hr7 hv7 hA
  refine sC (q := ([.ref 0, .int (nI b), .int 7], [.ref 215])) (d' := 19) hx hb hml hown hts2 hK hP1 hS1 hl3.1 (by decide) (by decide) (Nat.zero_le _) (Nat.zero_le _) (cdT_wf hL (pc := 59) rfl).1 rfl (Nat.le_of_ble_eq_true rfl) hM7 (fun H2 locs2 hP2 hS2 => ?_)
  refine sA (st := [.int (nI (k + 1)), .ref 215]) hx hb hown hts2 (cdT_wf hL (pc := 62) rfl).1 rfl ?_
  refine sA (st := [.int 1, .int (nI (k + 1)), .ref 215]) hx hb hown hts2 (cdT_wf hL (pc := 63) rfl).1 rfl ?_
  have em1 : nI (k + 1) - 1 = nI k := nI_m1 (by omega)
  rw [em1]
  have hZ2 : ZS sa va (fun _ => False) s H2 := (hZ.kept hS2.2.1).narrow (fun q z => absurd z (fun y => y))
  obtain ⟨cell, r1, r2, r3⟩ := vk_recv (hZ.1) (i := 0) (by decide) hS2
  have r1 : H2[sa]? = some cell := r1
  refine callJ (rest := []) (jV (mi := mX11_sign) (mj := mJ0_charAt_5068e) (na := 1) (d' := 3) (i := 216) (own := "SawnIceModel") (b := sa) (As := [.int (nI k)]) hx hb hml hown hts2 hl3.1 ⟨by decide, by decide⟩ ⟨Nat.zero_le _, Nat.zero_le _⟩ (wA (tb_in 7 15 w7.2.2.2.2.2.2.2.2.2.2.2.2.2.2.1) rfl) (wA (tb_in 7 16 w7.2.2.2.2.2.2.2.2.2.2.2.2.2.2.2.1) rfl) (wA (tb_in 7 17 w7.2.2.2.2.2.2.2.2.2.2.2.2.2.2.2.2.1) rfl) (wA (tb_in 1 16 w1.1) rfl) (cdA (by decide)) ⟨by decide, by decide, by decide +kernel⟩ (by decide +kernel) (by rw [← h215]; rfl) rfl (by decide) (met_Jch (sa := sa) (va := va) hk) ⟨ZSp_blind, ⟨cell, r1, r2, r3⟩, fun U hU hW => ⟨rfl, by show ZS sa va _ U U.heap; rw [hU]; exact hZ2.moved hW.alike⟩⟩) (fun H3 locs3 hS3 hl9 => ?_)
  have hP3 : va_P D vcls (wsOf ca ad (hI h 0 0 0)) H3 := hP2.kept (fun k x hx => hS3.2.1 x.1 ((hP2 k x hx).lt) (fun z => z))
  have hS4 : va_S (fun q : Nat => base ≤ q) s.heap H3 locs3 := ⟨Nat.le_trans hS2.1 hS3.1, fun q a b => (hS3.2.1 q (Nat.lt_of_lt_of_le a hS2.1) (fun z => z)).trans (hS2.2.1 q a b), fun q hq => hS2.2.2 q (hl9 q hq)⟩
  exact sR (ad := ad) (st := [.int (sgB.getD k 0)]) (v := some (.int (sgB.getD k 0))) hL (by show (if kOk 2 (sgB.getD k 0) = true then some (some (Value.int (sgB.getD k 0))) else none) = _; rw [if_pos (sg_ch hk).2]) hx hb B.returns B.notSynchronized (fun t ht hW => ⟨⟨rfl, by rw [ht]; exact hP3⟩, hS4.F ht⟩) hS4.2.2
end
