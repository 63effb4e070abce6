-- needs: 56
noncomputable section
/-- the numbers of an order, and the place behind them -/
def rdSaw (I : Nat → Int32) (L : Nat) (s : TS) : TS × Int32 × Int32 × Int32 :=
  ((numS I L 1 (mustS I L (numS I L 1 (numS I L 1 s).2).2 64)).2, nI (numS I L 1 s).1, nI (numS I L 1 (numS I L 1 s).2).1, nI (numS I L 1 (mustS I L (numS I L 1 (numS I L 1 s).2).2 64)).1)
def rdLay (I : Nat → Int32) (L : Nat) (s : TS) : TS × Int32 × Int32 × Int32 :=
  ((numS I L 1 (mustS I L (numS I L 2 (mustS I L (numS I L 2 s).2 64)).2 47)).2, nI (numS I L 2 s).1, nI (numS I L 2 (mustS I L (numS I L 2 s).2 64)).1, nI (numS I L 1 (mustS I L (numS I L 2 (mustS I L (numS I L 2 s).2 64)).2 47)).1)
/-- behind a minus, where one stands -/
def negS (I : Nat → Int32) (L : Nat) (s : TS) : TS := (s.1 + (if seeB I L s 45 45 = true then 1 else 0), s.2)
def negI (I : Nat → Int32) (L : Nat) (s : TS) : Int32 := if seeB I L s 45 45 = true then -1 else 1
def rdHeat (I : Nat → Int32) (L : Nat) (s : TS) : TS × Int32 × Int32 × Int32 :=
  ((numS I L 2 (negS I L (mustS I L (numS I L 2 s).2 61))).2, nI (numS I L 2 s).1, nI (numS I L 2 (negS I L (mustS I L (numS I L 2 s).2 61))).1 * negI I L (mustS I L (numS I L 2 s).2 61), 0)
def rdOne (I : Nat → Int32) (L : Nat) (s : TS) : TS × Int32 × Int32 × Int32 := ((numS I L 2 s).2, nI (numS I L 2 s).1, 0, 0)
/-- what was told -/
def ToldP (h : AH) (n : Nat) (q : Int32 × Int32 × Int32) : Prop := h.1 30 0 = q.1 ∧ (1 < n → h.1 30 1 = q.2.1) ∧ (2 < n → h.1 30 2 = q.2.2)
theorem FrT.of {h g : AH} (H : FrN h g) : FrT h g := H.1
theorem tl_0 : (0 : Int32).toNatClampNeg = 0 := rfl
theorem tl_1 : (1 : Int32).toNatClampNeg = 1 := rfl
theorem tl_2 : (2 : Int32).toNatClampNeg = 2 := rfl
theorem hI3_0 {g : AH} {x : Int32} {j : Nat} : (hI g 30 j x).1 30 j = x := by rw [hI_at, upd_eq]
theorem hI3_n {g : AH} {x : Int32} {i j : Nat} (e : i ≠ j) : (hI g 30 j x).1 30 i = g.1 30 i := by rw [hI_at, upd_ne e]
theorem f_nSaw (d : Nat) {h : AH} {I : Nat → Int32} {L : Nat} {s : TS} (H : TxI h I L s) (hO : h.1 0 23 = 115) : WM (d + 3) mX11_readNumbers [.ref 0] h (fun v h' => v = none ∧ TxI h' I L (rdSaw I L s).1 ∧ FrT h h' ∧ h'.1 0 23 = h.1 0 23 ∧ ToldP h' 3 (rdSaw I L s).2) := by
  show WX _ _ 0 [(0, _)] [] _ _
  iterate 2 refine ex_s rfl ?_
  rw [show fv 2 (h.1 0 23) = Value.int 115 from congrArg Value.int hO]
  refine ex_sw rfl rfl ?_
  iterate 5 refine ex_s rfl ?_
  refine ex_xc rfl rfl ⟨Nat.le_of_ble_eq_true rfl, Nat.le_of_ble_eq_true rfl⟩ (f_number (d + 0) 1 (by decide) (by decide) H) (fun rv9 h9 p9 => ?_)
  obtain ⟨rfl, H1, F1⟩ := p9
  refine ex_is rfl rfl (vi (k := 0)) ?_
  iterate 5 refine ex_s rfl ?_
  refine ex_xc rfl rfl ⟨Nat.le_of_ble_eq_true rfl, Nat.le_of_ble_eq_true rfl⟩ (f_number (d + 0) 1 (by decide) (by decide) (H1.told)) (fun rv9 h9 p9 => ?_)
  obtain ⟨rfl, H2, F2⟩ := p9
  refine ex_is rfl rfl (vi (k := 1)) ?_
  iterate 2 refine ex_s rfl ?_
  refine ex_xc rfl rfl ⟨Nat.le_of_ble_eq_true rfl, Nat.le_of_ble_eq_true rfl⟩ (f_must (d + 0) (H2.told) 64) (fun rv9 h9 p9 => ?_)
  obtain ⟨rfl, H3, F3⟩ := p9
  iterate 5 refine ex_s rfl ?_
  refine ex_xc rfl rfl ⟨Nat.le_of_ble_eq_true rfl, Nat.le_of_ble_eq_true rfl⟩ (f_number (d + 0) 1 (by decide) (by decide) H3) (fun rv9 h9 p9 => ?_)
  obtain ⟨rfl, H4, F4⟩ := p9
  refine ex_is rfl rfl (vi (k := 2)) ?_
  refine ex_g rfl rfl ?_
  refine ex_q rfl ?_
  refine ⟨rfl, H4.told, F1.1.tr (FrT.hI30.tr (F2.1.tr (FrT.hI30.tr (F3.1.tr (F4.1.tr FrT.hI30))))), ?_, ?_, fun _ => ?_, fun _ => ?_⟩
  · rw [hI_ne (by decide), F4.2.2, F3.2.2, hI_ne (by decide), F2.2.2, hI_ne (by decide), F1.2.2]
  · rw [hI3_n (by decide), F4.2.1, F3.2.1, hI3_n (by decide), F2.2.1]; exact hI3_0
  · rw [hI3_n (by decide), F4.2.1, F3.2.1]; exact hI3_0
  · exact hI3_0
theorem f_nLay (d : Nat) {h : AH} {I : Nat → Int32} {L : Nat} {s : TS} (H : TxI h I L s) (hO : h.1 0 23 = 108) : WM (d + 3) mX11_readNumbers [.ref 0] h (fun v h' => v = none ∧ TxI h' I L (rdLay I L s).1 ∧ FrT h h' ∧ h'.1 0 23 = h.1 0 23 ∧ ToldP h' 3 (rdLay I L s).2) := by
  show WX _ _ 0 [(0, _)] [] _ _
  iterate 2 refine ex_s rfl ?_
  rw [show fv 2 (h.1 0 23) = Value.int 108 from congrArg Value.int hO]
  refine ex_sw rfl rfl ?_
  iterate 5 refine ex_s rfl ?_
  refine ex_xc rfl rfl ⟨Nat.le_of_ble_eq_true rfl, Nat.le_of_ble_eq_true rfl⟩ (f_number (d + 0) 2 (by decide) (by decide) H) (fun rv9 h9 p9 => ?_)
  obtain ⟨rfl, H1, F1⟩ := p9
  refine ex_is rfl rfl (vi (k := 0)) ?_
  iterate 2 refine ex_s rfl ?_
  refine ex_xc rfl rfl ⟨Nat.le_of_ble_eq_true rfl, Nat.le_of_ble_eq_true rfl⟩ (f_must (d + 0) (H1.told) 64) (fun rv9 h9 p9 => ?_)
  obtain ⟨rfl, H2, F2⟩ := p9
  iterate 5 refine ex_s rfl ?_
  refine ex_xc rfl rfl ⟨Nat.le_of_ble_eq_true rfl, Nat.le_of_ble_eq_true rfl⟩ (f_number (d + 0) 2 (by decide) (by decide) H2) (fun rv9 h9 p9 => ?_)
  obtain ⟨rfl, H3, F3⟩ := p9
  refine ex_is rfl rfl (vi (k := 1)) ?_
  iterate 2 refine ex_s rfl ?_
  refine ex_xc rfl rfl ⟨Nat.le_of_ble_eq_true rfl, Nat.le_of_ble_eq_true rfl⟩ (f_must (d + 0) (H3.told) 47) (fun rv9 h9 p9 => ?_)
  obtain ⟨rfl, H4, F4⟩ := p9
  iterate 5 refine ex_s rfl ?_
  refine ex_xc rfl rfl ⟨Nat.le_of_ble_eq_true rfl, Nat.le_of_ble_eq_true rfl⟩ (f_number (d + 0) 1 (by decide) (by decide) H4) (fun rv9 h9 p9 => ?_)
  obtain ⟨rfl, H5, F5⟩ := p9
  refine ex_is rfl rfl (vi (k := 2)) ?_
  refine ex_g rfl rfl ?_
  refine ex_q rfl ?_
  refine ⟨rfl, H5.told, F1.1.tr (FrT.hI30.tr (F2.1.tr (F3.1.tr (FrT.hI30.tr (F4.1.tr (F5.1.tr FrT.hI30)))))), ?_, ?_, fun _ => ?_, fun _ => ?_⟩
  · rw [hI_ne (by decide), F5.2.2, F4.2.2, hI_ne (by decide), F3.2.2, F2.2.2, hI_ne (by decide), F1.2.2]
  · rw [hI3_n (by decide), F5.2.1, F4.2.1, hI3_n (by decide), F3.2.1, F2.2.1]; exact hI3_0
  · rw [hI3_n (by decide), F5.2.1, F4.2.1]; exact hI3_0
  · exact hI3_0
theorem f_nOne (d : Nat) {h : AH} {I : Nat → Int32} {L : Nat} {s : TS} (H : TxI h I L s) {o : Int32} (hO : h.1 0 23 = o) (ho : swt (cSw mX11_readNumbers 4) o = 198) : WM (d + 3) mX11_readNumbers [.ref 0] h (fun v h' => v = none ∧ TxI h' I L (rdOne I L s).1 ∧ FrT h h' ∧ h'.1 0 23 = h.1 0 23 ∧ ToldP h' 1 (rdOne I L s).2) := by
  show WX _ _ 0 [(0, _)] [] _ _
  iterate 2 refine ex_s rfl ?_
  rw [show fv 2 (h.1 0 23) = Value.int o from congrArg Value.int hO]
  refine ex_sw rfl ho ?_
  iterate 5 refine ex_s rfl ?_
  refine ex_xc rfl rfl ⟨Nat.le_of_ble_eq_true rfl, Nat.le_of_ble_eq_true rfl⟩ (f_number (d + 0) 2 (by decide) (by decide) H) (fun rv9 h9 p9 => ?_)
  obtain ⟨rfl, H1, F1⟩ := p9
  refine ex_is rfl rfl (vi (k := 0)) ?_
  refine ex_q rfl ?_
  refine ⟨rfl, H1.told, F1.1.tr FrT.hI30, ?_, ?_, fun q => absurd q (by decide), fun q => absurd q (by decide)⟩
  · rw [hI_ne (by decide), F1.2.2]
  · exact hI3_0
theorem f_nHeatT (d : Nat) {h : AH} {I : Nat → Int32} {L : Nat} {s : TS} (H : TxI h I L s) : WX (d + 3) mX11_readNumbers 155 [(0, .ref 0)] [.int (bI (seeB I L s 45 45 = true))] h (fun v h' => v = none ∧ TxI h' I L (numS I L 2 (negS I L s)).2 ∧ FrT h h' ∧ h'.1 0 23 = h.1 0 23 ∧ h'.1 30 0 = h.1 30 0 ∧ h'.1 30 1 = nI (numS I L 2 (negS I L s)).1 * negI I L s) := by
  have h60 := H.2.2.1
  have e4 := H.2.2.2.1
  have e5 := H.2.2.2.2.1
  by_cases c : seeB I L s 45 45 = true
  · have w := (seeB_w c).2.1
    have J := H.at (a := s.1 + 1) (by omega)
    rw [show negS I L s = (s.1 + 1, s.2) by unfold negS; rw [if_pos c], show negI I L s = -1 from if_pos c, c]
    iterate 4 refine ex_s rfl ?_
    rw [show fv 0 (h.1 0 20) = Value.int (nI s.1) from congrArg Value.int e4]
    refine ex_s rfl ?_
    refine ex_b rfl rfl (fun q => absurd q (by decide)) (fun _ => ?_)
    refine ex_s rfl ?_
    refine ex_g rfl rfl ?_
    refine ex_s rfl ?_
    rw [nI_1]
    iterate 6 refine ex_s rfl ?_
    refine ex_xc rfl rfl ⟨Nat.le_of_ble_eq_true rfl, Nat.le_of_ble_eq_true rfl⟩ (f_number (d + 0) 2 (by decide) (by decide) J) (fun rv9 h9 p9 => ?_)
    obtain ⟨rfl, H1, F1⟩ := p9
    refine ex_s rfl ?_
    refine ex_b rfl rfl (fun q => absurd q (by decide)) (fun _ => ?_)
    refine ex_s rfl ?_
    refine ex_g rfl rfl ?_
    refine ex_s rfl ?_
    refine ex_is rfl rfl (vi (k := 1)) ?_
    refine ex_g rfl rfl ?_
    refine ex_q rfl ?_
    refine ⟨rfl, H1.told, (FrT.hI0 (by decide)).tr (F1.1.tr FrT.hI30), ?_, ?_, ?_⟩
    · rw [hI_ne (by decide), F1.2.2, hI_at, upd_ne (by decide)]
    · rw [hI3_n (by decide), F1.2.1, hI_ne (by decide)]
    · exact hI3_0
  · have J := H.at (a := s.1) e5
    rw [show negS I L s = (s.1, s.2) by unfold negS; rw [if_neg c]; rfl, show negI I L s = 1 from if_neg c, Bool.eq_false_iff.mpr c]
    iterate 4 refine ex_s rfl ?_
    rw [show fv 0 (h.1 0 20) = Value.int (nI s.1) from congrArg Value.int e4]
    refine ex_s rfl ?_
    refine ex_b rfl rfl (fun _ => ?_) (fun q => absurd rfl q)
    iterate 2 refine ex_s rfl ?_
    rw [Int32.add_zero]
    iterate 6 refine ex_s rfl ?_
    refine ex_xc rfl rfl ⟨Nat.le_of_ble_eq_true rfl, Nat.le_of_ble_eq_true rfl⟩ (f_number (d + 0) 2 (by decide) (by decide) J) (fun rv9 h9 p9 => ?_)
    obtain ⟨rfl, H1, F1⟩ := p9
    refine ex_s rfl ?_
    refine ex_b rfl rfl (fun _ => ?_) (fun q => absurd rfl q)
    iterate 2 refine ex_s rfl ?_
    refine ex_is rfl rfl (vi (k := 1)) ?_
    refine ex_g rfl rfl ?_
    refine ex_q rfl ?_
    refine ⟨rfl, H1.told, (FrT.hI0 (by decide)).tr (F1.1.tr FrT.hI30), ?_, ?_, ?_⟩
    · rw [hI_ne (by decide), F1.2.2, hI_at, upd_ne (by decide)]
    · rw [hI3_n (by decide), F1.2.1, hI_ne (by decide)]
    · exact hI3_0
theorem f_nHeat (d : Nat) {h : AH} {I : Nat → Int32} {L : Nat} {s : TS} (H : TxI h I L s) (hO : h.1 0 23 = 116) : WM (d + 3) mX11_readNumbers [.ref 0] h (fun v h' => v = none ∧ TxI h' I L (rdHeat I L s).1 ∧ FrT h h' ∧ h'.1 0 23 = h.1 0 23 ∧ ToldP h' 2 (rdHeat I L s).2) := by
  show WX _ _ 0 [(0, _)] [] _ _
  iterate 2 refine ex_s rfl ?_
  rw [show fv 2 (h.1 0 23) = Value.int 116 from congrArg Value.int hO]
  refine ex_sw rfl rfl ?_
  iterate 5 refine ex_s rfl ?_
  refine ex_xc rfl rfl ⟨Nat.le_of_ble_eq_true rfl, Nat.le_of_ble_eq_true rfl⟩ (f_number (d + 0) 2 (by decide) (by decide) H) (fun rv9 h9 p9 => ?_)
  obtain ⟨rfl, H1, F1⟩ := p9
  refine ex_is rfl rfl (vi (k := 0)) ?_
  iterate 2 refine ex_s rfl ?_
  refine ex_xc rfl rfl ⟨Nat.le_of_ble_eq_true rfl, Nat.le_of_ble_eq_true rfl⟩ (f_must (d + 0) (H1.told) 61) (fun rv9 h9 p9 => ?_)
  obtain ⟨rfl, H2, F2⟩ := p9
  iterate 3 refine ex_s rfl ?_
  refine ex_c rfl rfl ⟨Nat.le_of_ble_eq_true rfl, Nat.le_of_ble_eq_true rfl⟩ (f_sees (d + 1) H2 45 45) ?_
  refine ex_sub (sub1 rfl) ((f_nHeatT d H2).mono (fun v h' z => ⟨z.1, z.2.1, F1.1.tr (FrT.hI30.tr (F2.1.tr z.2.2.1)), ?_, ?_, fun _ => ?_, fun q => absurd q (by decide)⟩))
  · rw [z.2.2.2.1, F2.2.2, hI_ne (by decide), F1.2.2]
  · rw [z.2.2.2.2.1, F2.2.1]; exact hI3_0
  · exact z.2.2.2.2.2
end
