-- needs: 65
noncomputable section
/-- the text is wrong; where; what its orders do -/
abbrev rdWr (I : Nat → Int32) (L : Nat) : Bool := (rdI I L (oN0 I L)).1.2
abbrev rdAt (I : Nat → Int32) (L : Nat) : Nat := (rdI I L (oN0 I L)).1.1
abbrev rdC (I : Nat → Int32) (L : Nat) (r : Nat → Int32) (w : Nat → UInt32) (s : Int32 × Int32) : CyS := cyN I L (0, r, w, s) (oN0 I L + 1)
theorem f_readW (d : Nat) {h : AH} {L K : Nat} (hL : L ≤ 60) (h19 : h.1 0 19 = nI L) (h15 : h.1 0 15 = 0) (cw : rdWr (h.1 29) L = true) : WM (d + 11) mX11_read [.ref 0] h (fun v h' => (∃ a, v = some (.int a)) ∧ RdP h h' 1 (nI (rdAt (h.1 29) L)) (h.1 0 12) (h.1 0 13) (h.1 1) (h.2.1 5) false K) := by
  have cw : (rdI (h.1 29) L (oN0 (h.1 29) L)).1.2 = true := cw
  show WX _ _ 0 [(0, _)] [] _ _
  refine ex_s rfl ?_
  refine ex_xc rfl rfl ⟨Nat.le_of_ble_eq_true rfl, Nat.le_of_ble_eq_true rfl⟩ (f_countOrders (d + 5) hL rfl h19) (fun rv9 h9 p9 => ?_)
  obtain ⟨rfl, H1, F1, N1, S1⟩ := p9
  have g22 : ∀ x, (hI h9 0 21 x).1 0 22 = 1 := fun x => by rw [hI_at, upd_ne (by decide), H1.2.2.2.2.2, cw]; rfl
  iterate 4 refine ex_s rfl ?_
  refine ex_b rfl rfl (fun q => absurd q (by rw [H1.2.2.2.2.2, cw]; decide)) (fun _ => ?_)
  iterate 2 refine ex_s rfl ?_
  rw [show fv 0 (h9.1 0 20) = Value.int (nI (rdAt (h.1 29) L)) from congrArg Value.int H1.2.2.2.1]
  refine ex_g rfl rfl ?_
  iterate 5 refine ex_s rfl ?_
  rw [show fv 1 ((hI h9 0 21 (nI (rdAt (h.1 29) L))).1 0 22) = Value.int 1 from congrArg Value.int (g22 _)]
  refine ex_c rfl rfl ⟨Nat.le_of_ble_eq_true rfl, Nat.le_of_ble_eq_true rfl⟩ (f_failsT _ _ _) ?_
  refine ex_b rfl rfl (fun q => absurd q (by decide)) (fun _ => ?_)
  iterate 4 refine ex_s rfl ?_
  refine ex_q rfl ?_
  obtain ⟨f1, f2, f3⟩ := F1
  refine ⟨⟨_, rfl⟩, ?_, ?_, ?_, ?_, ?_, ?_, ?_, ?_, ?_⟩
  · rw [hI_at, upd_ne (by decide), hI_at, upd_eq]
  · rw [hI_at, upd_eq]
  · rw [hI_at, upd_ne (by decide), hI_at, upd_ne (by decide), hI_at, upd_eq]
  · rw [hI_at, upd_ne (by decide), hI_at, upd_ne (by decide), hI_at, upd_ne (by decide)]; exact f1 12 (by decide) (by decide) (by decide)
  · rw [hI_at, upd_ne (by decide), hI_at, upd_ne (by decide), hI_at, upd_ne (by decide)]; exact f1 13 (by decide) (by decide) (by decide)
  · rw [hI_ne (by decide), hI_ne (by decide), hI_ne (by decide)]; exact f2 1 (by decide) (by decide)
  · show h9.2.1 5 = _; rw [f3]
  · show HSame h _
    refine HSame.tr ⟨f1 11 (by decide) (by decide) (by decide), fun i hi => ⟨f2 _ (by omega) (by omega), by rw [f3]⟩⟩ (((HSame.hI0 (by decide)).tr (HSame.hI0 (by decide))).tr (HSame.hI0 (by decide)))
  · refine ⟨fun j a b c e => ?_, ?_, ?_, ?_, ?_⟩
    · rw [hI_at, upd_ne (by omega), hI_at, upd_ne a, hI_at, upd_ne (by omega)]; exact f1 j (by omega) (by omega) (by omega)
    · rw [hI_at, upd_ne (by decide), hI_at, upd_ne (by decide), hI_at, upd_ne (by decide)]; exact (f1 15 (by decide) (by decide) (by decide)).trans h15
    · rw [hI_ne (by decide), hI_ne (by decide), hI_ne (by decide)]; exact f2 2 (by decide) (by decide)
    · rw [hI_ne (by decide), hI_ne (by decide), hI_ne (by decide)]; exact f2 29 (by decide) (by decide)
    · show h9.2.1 6 = _; rw [f3]
/-- the heap before the loop -/
def preH (g : AH) : AH := hI (hI (hFr (hIr (hI (hI g 0 21 (-1)) 0 0 0) 4 (mapI (g.1 1) 445 (g.1 4))) 8 (mapF (g.2.1 5) 40 (g.2.1 8))) 0 15 1) 0 20 0
theorem preH_0 {g : AH} {j : Nat} (h1 : j ≠ 0) (h2 : j ≠ 15) (h3 : j ≠ 20) (h4 : j ≠ 21) : (preH g).1 0 j = g.1 0 j := by
  unfold preH
  rw [hI_at, upd_ne h3, hI_at, upd_ne h2, hFr_1, hIr_ne (by decide), hI_at, upd_ne h1, hI_at, upd_ne h4]
theorem preH_a {g : AH} {a : Nat} (h1 : a ≠ 0) (h2 : a ≠ 4) : (preH g).1 a = g.1 a := by
  unfold preH
  rw [hI_ne h1, hI_ne h1, hFr_1, hIr_ne h2, hI_ne h1, hI_ne h1]
theorem preH_f {g : AH} {a : Nat} (h2 : a ≠ 8) : (preH g).2.1 a = g.2.1 a := hFr_ne _ _ h2
theorem preH_4 {g : AH} {j : Nat} (h : j < 445) : (preH g).1 4 j = g.1 1 j := by
  unfold preH
  rw [hI_ne (by decide), hI_ne (by decide), hFr_1, hIr_at, mapI_lt h]
theorem preH_8 {g : AH} {j : Nat} (h : j < 40) : (preH g).2.1 8 j = g.2.1 5 j := by
  show (hFr _ 8 _).2.1 8 j = _
  rw [hFr_at, mapF_lt h]
theorem preH_S {g : AH} : HSame g (preH g) := ⟨preH_0 (by decide) (by decide) (by decide) (by decide), fun i hi => ⟨preH_a (by omega) (by omega), preH_f (by omega)⟩⟩
theorem preH_21 {g : AH} : (preH g).1 0 21 = -1 := by
  unfold preH
  rw [hI_at, upd_ne (by decide), hI_at, upd_ne (by decide), hFr_1, hIr_ne (by decide), hI_at, upd_ne (by decide), hI_at, upd_eq]
theorem preH_15 {g : AH} : (preH g).1 0 15 = 1 := by
  unfold preH
  rw [hI_at, upd_ne (by decide), hI_at, upd_eq]
theorem preH_20 {g : AH} : (preH g).1 0 20 = 0 := by
  unfold preH
  rw [hI_at, upd_eq]
theorem f_readE (d : Nat) {h g : AH} {L K B : Nat} (hL : L ≤ 60) (h19 : h.1 0 19 = nI L) (Iv : Inv B (h.1 1) (h.2.1 5)) (hB : B + 3000 < 2 ^ 30) (hK : K ≤ 8) (h11 : h.1 0 11 = nI K) (cw2 : (rdI (h.1 29) L (oN0 (h.1 29) L)).1.2 = false) (H1 : TxI g (h.1 29) L (rdI (h.1 29) L (oN0 (h.1 29) L)).1) (F1 : FrT h g) (N1 : oN0 (h.1 29) L ≤ 60) (S1 : stP9 (h.1 29) L (oN0 (h.1 29) L) = true) : WX (d + 11) mX11_read 76 [(0, .ref 0), (1, .int (nI (oN0 (h.1 29) L + 1))), (2, .int 0), (3, .int 0)] [] (preH g) (fun v h' => (∃ a, v = some (.int a) ∧ ((rdC (h.1 29) L (h.1 1) (h.2.1 5) (h.1 0 12, h.1 0 13)).1 = 0 → a = nI (oN0 (h.1 29) L + 1))) ∧ RdP h h' (rdC (h.1 29) L (h.1 1) (h.2.1 5) (h.1 0 12, h.1 0 13)).1 (-1) (rdC (h.1 29) L (h.1 1) (h.2.1 5) (h.1 0 12, h.1 0 13)).2.2.2.1 (rdC (h.1 29) L (h.1 1) (h.2.1 5) (h.1 0 12, h.1 0 13)).2.2.2.2 (if (rdC (h.1 29) L (h.1 1) (h.2.1 5) (h.1 0 12, h.1 0 13)).1 = 0 then (rdC (h.1 29) L (h.1 1) (h.2.1 5) (h.1 0 12, h.1 0 13)).2.1 else h.1 1) (if (rdC (h.1 29) L (h.1 1) (h.2.1 5) (h.1 0 12, h.1 0 13)).1 = 0 then (rdC (h.1 29) L (h.1 1) (h.2.1 5) (h.1 0 12, h.1 0 13)).2.2.1 else h.2.1 5) (decide ((rdC (h.1 29) L (h.1 1) (h.2.1 5) (h.1 0 12, h.1 0 13)).1 = 0)) K) := by
  obtain ⟨f1, f2, f3⟩ := F1
  have e1 : (preH g).1 1 = h.1 1 := (preH_a (by decide) (by decide)).trans (f2 1 (by decide) (by decide))
  have e5 : (preH g).2.1 5 = h.2.1 5 := (preH_f (by decide)).trans (by rw [f3])
  have C0 : CyI (preH g) (preH g) (h.1 29) L K ((0 : Int32), h.1 1, h.2.1 5, (h.1 0 12, h.1 0 13)) := ⟨e1, e5, (preH_0 (by decide) (by decide) (by decide) (by decide)).trans (f1 12 (by decide) (by decide) (by decide)), (preH_0 (by decide) (by decide) (by decide) (by decide)).trans (f1 13 (by decide) (by decide) (by decide)), preH_15, ((preH_0 (by decide) (by decide) (by decide) (by decide)).trans (f1 11 (by decide) (by decide) (by decide))).trans h11, HSame.rf, fun _ _ _ _ _ _ => rfl, fun _ _ => rfl, fun _ _ => rfl⟩
  have T0 : TxI (preH g) (h.1 29) L (oS (h.1 29) L 0) := ⟨(preH_a (by decide) (by decide)).trans (f2 29 (by decide) (by decide)), ((preH_0 (by decide) (by decide) (by decide) (by decide)).trans (f1 19 (by decide) (by decide) (by decide))).trans h19, hL, preH_20, Nat.zero_le 100, by rw [preH_0 (by decide) (by decide) (by decide) (by decide), H1.2.2.2.2.2, cw2]; rfl⟩
  have Rb : RdB h (preH g) := ⟨HSame.tr ⟨f1 11 (by decide) (by decide) (by decide), fun i hi => ⟨f2 _ (by omega) (by omega), by rw [f3]⟩⟩ preH_S, fun j a b c e => (preH_0 a c (by omega) (by omega)).trans (f1 j (by omega) (by omega) (by omega)), preH_21, (preH_a (by decide) (by decide)).trans (f2 2 (by decide) (by decide)), (preH_a (by decide) (by decide)).trans (f2 29 (by decide) (by decide)), (preH_f (by decide)).trans (by rw [f3]), fun j hj => (preH_4 hj).trans (congrFun (f2 1 (by decide) (by decide)) j), fun j hj => (preH_8 hj).trans (by rw [f3])⟩
  obtain ⟨B', -, I9⟩ := cy_Inv (I := h.1 29) (L := L) (c := ((0 : Int32), h.1 1, h.2.1 5, (h.1 0 12, h.1 0 13))) Iv hB (oN0 (h.1 29) L + 1) (by omega)
  exact f_read_loop d hL ((0 : Int32), h.1 1, h.2.1 5, (h.1 0 12, h.1 0 13)) rfl Iv hB hK S1 cw2 N1 (fun g2 i C => f_read_end d Rb C hK Iv.2.2.2.1 Iv.2.2.2.2.1 I9.2.2.2.1 I9.2.2.2.2.1) (oN0 (h.1 29) L + 1) 0 (preH g) (by omega) C0 (fun _ => T0)
theorem f_readR (d : Nat) {h : AH} {L K B : Nat} (hL : L ≤ 60) (h19 : h.1 0 19 = nI L) (Iv : Inv B (h.1 1) (h.2.1 5)) (hB : B + 3000 < 2 ^ 30) (hK : K ≤ 8) (h11 : h.1 0 11 = nI K) (cw : ¬ rdWr (h.1 29) L = true) : WM (d + 11) mX11_read [.ref 0] h (fun v h' => (∃ a, v = some (.int a) ∧ ((rdC (h.1 29) L (h.1 1) (h.2.1 5) (h.1 0 12, h.1 0 13)).1 = 0 → a = nI (oN0 (h.1 29) L + 1))) ∧ RdP h h' (rdC (h.1 29) L (h.1 1) (h.2.1 5) (h.1 0 12, h.1 0 13)).1 (-1) (rdC (h.1 29) L (h.1 1) (h.2.1 5) (h.1 0 12, h.1 0 13)).2.2.2.1 (rdC (h.1 29) L (h.1 1) (h.2.1 5) (h.1 0 12, h.1 0 13)).2.2.2.2 (if (rdC (h.1 29) L (h.1 1) (h.2.1 5) (h.1 0 12, h.1 0 13)).1 = 0 then (rdC (h.1 29) L (h.1 1) (h.2.1 5) (h.1 0 12, h.1 0 13)).2.1 else h.1 1) (if (rdC (h.1 29) L (h.1 1) (h.2.1 5) (h.1 0 12, h.1 0 13)).1 = 0 then (rdC (h.1 29) L (h.1 1) (h.2.1 5) (h.1 0 12, h.1 0 13)).2.2.1 else h.2.1 5) (decide ((rdC (h.1 29) L (h.1 1) (h.2.1 5) (h.1 0 12, h.1 0 13)).1 = 0)) K) := by
  have cw2 : (rdI (h.1 29) L (oN0 (h.1 29) L)).1.2 = false := Bool.eq_false_iff.mpr cw
  show WX _ _ 0 [(0, _)] [] _ _
  refine ex_s rfl ?_
  refine ex_xc rfl rfl ⟨Nat.le_of_ble_eq_true rfl, Nat.le_of_ble_eq_true rfl⟩ (f_countOrders (d + 5) hL rfl h19) (fun rv9 h9 p9 => ?_)
  obtain ⟨rfl, H1, F1, N1, S1⟩ := p9
  have g22 : (hI h9 0 21 (-1)).1 0 22 = 0 := by rw [hI_at, upd_ne (by decide), H1.2.2.2.2.2, cw2]; rfl
  have Cp := f_copyAll (d + 10) (a := 1) (b := 4) (fa := 5) (fb := 8) rfl rfl rfl rfl (by decide) (by decide) (hI (hI h9 0 21 (-1)) 0 0 0)
  rw [show (hI (hI h9 0 21 (-1)) 0 0 0).1 1 = h9.1 1 by rw [hI_ne (by decide), hI_ne (by decide)], show (hI (hI h9 0 21 (-1)) 0 0 0).1 4 = h9.1 4 by rw [hI_ne (by decide), hI_ne (by decide)]] at Cp
  iterate 4 refine ex_s rfl ?_
  refine ex_b rfl rfl (fun _ => ?_) (fun q => absurd (by rw [H1.2.2.2.2.2, cw2]; rfl) q)
  iterate 6 refine ex_s rfl ?_
  rw [show fv 1 ((hI h9 0 21 (-1)).1 0 22) = Value.int 0 from congrArg Value.int g22]
  refine ex_c rfl rfl ⟨Nat.le_of_ble_eq_true rfl, Nat.le_of_ble_eq_true rfl⟩ (f_failsF _ _ _) ?_
  refine ex_b rfl rfl (fun _ => ?_) (fun q => absurd rfl q)
  iterate 8 refine ex_s rfl ?_
  refine ex_c rfl rfl ⟨Nat.le_of_ble_eq_true rfl, Nat.le_of_ble_eq_true rfl⟩ (Cp) ?_
  iterate 10 refine ex_s rfl ?_
  exact ex_sub (sub4 rfl rfl rfl rfl) (f_readE d hL h19 Iv hB hK h11 cw2 H1 F1 N1 S1)
end
