-- needs: 57
noncomputable section
/-- an order: the place behind it, its sign, what is told -/
def ordK (I : Nat → Int32) (L : Nat) (s : TS) (o : Int32) : TS × Int32 × Int32 × Int32 := if o = 115 then rdSaw I L s else if o = 108 then rdLay I L s else if o = 116 then rdHeat I L s else rdOne I L s
def knB (I : Nat → Int32) (L : Nat) (s : TS) : Bool := seeB I L s 115 115 || seeB I L s 108 108 || seeB I L s 104 104 || seeB I L s 118 118 || seeB I L s 116 116
def rdOrd (I : Nat → Int32) (L : Nat) (s : TS) : TS × Int32 × Int32 × Int32 × Int32 := if knB I L s = true then ((ordK I L (s.1 + 1, false) (I s.1)).1, I s.1, (ordK I L (s.1 + 1, false) (I s.1)).2) else ((s.1, true), 32, 0, 0, 0)
def nT (o : Int32) : Nat := if o = 115 ∨ o = 108 then 3 else if o = 116 then 2 else 1
def OrdP (h h' : AH) (I : Nat → Int32) (L : Nat) (s : TS) : Prop := TxI h' I L (rdOrd I L s).1 ∧ FrT h h' ∧ ((rdOrd I L s).1.2 = false → h'.1 0 23 = (rdOrd I L s).2.1 ∧ ToldP h' (nT (rdOrd I L s).2.1) (rdOrd I L s).2.2)
theorem see_I {I : Nat → Int32} {L : Nat} {s : TS} {o : Int32} (h : seeB I L s o o = true) : I s.1 = o := Int32.le_antisymm (seeB_w h).2.2.2 (seeB_w h).2.2.1
theorem eor0 : ((0 : Int32) ||| 0) = 0 := rfl
theorem f_ord115 (d : Nat) {h : AH} {I : Nat → Int32} {L : Nat} {s : TS} (H : TxI h I L s) (c : seeB I L s 115 115 = true) (hk : knB I L s = true) : WX (d + 4) mX11_readOrder 60 [(0, .ref 0)] [.int 1] h (fun v h' => v = none ∧ OrdP h h' I L s) := by
  obtain ⟨w1, w2, -, -⟩ := seeB_w c
  have e1 := H.1
  have h60 := H.2.2.1
  have e4 := H.2.2.2.1
  have e6 := H.2.2.2.2.2
  rw [w1] at e6
  have eI := see_I c
  have J0 := ((H.wr (b := false)).or (x := 115)).at (a := s.1 + 1) (by omega)
  have J : TxI (hI (hI (hI h 0 22 0) 0 23 115) 0 20 (nI (s.1 + 1))) I L (s.1 + 1, false) := J0
  have er : rdOrd I L s = ((ordK I L (s.1 + 1, false) (I s.1)).1, I s.1, (ordK I L (s.1 + 1, false) (I s.1)).2) := if_pos hk
  have g4 : (hI h 0 22 0).1 0 20 = nI s.1 := by rw [hI_at, upd_ne (by decide)]; exact e4
  have g5 : (hI (hI h 0 22 0) 0 23 115).1 0 20 = nI s.1 := by rw [hI_at, upd_ne (by decide)]; exact g4
  have g1 : (hI h 0 22 0).1 29 s.1 = 115 := by rw [hI_ne (by decide), e1]; exact eI
  rw [eI] at er
  unfold OrdP
  rw [er]
  iterate 4 refine ex_s rfl ?_
  rw [show fv 1 (h.1 0 22) = Value.int 0 from congrArg Value.int e6]
  refine ex_s rfl ?_
  refine ex_b rfl rfl (fun _ => ?_) (fun q => absurd (by decide) q)
  iterate 2 refine ex_s rfl ?_
  rw [eor0]
  iterate 3 refine ex_s rfl ?_
  refine ex_b rfl rfl (fun q => absurd q (by decide)) (fun _ => ?_)
  iterate 4 refine ex_s rfl ?_
  rw [show fv 0 ((hI h 0 22 0).1 0 20) = Value.int (nI s.1) from congrArg Value.int g4]
  refine ex_cl rfl rfl (vi) ?_
  rw [cl s.1, g1]
  refine ex_g rfl rfl ?_
  iterate 4 refine ex_s rfl ?_
  rw [show fv 0 ((hI (hI h 0 22 0) 0 23 115).1 0 20) = Value.int (nI s.1) from congrArg Value.int g5]
  refine ex_s rfl ?_
  refine ex_b rfl rfl (fun q => absurd q (by decide)) (fun _ => ?_)
  refine ex_s rfl ?_
  refine ex_g rfl rfl ?_
  refine ex_s rfl ?_
  rw [nI_1]
  iterate 2 refine ex_s rfl ?_
  refine ex_b rfl rfl (fun q => absurd q (by decide)) (fun _ => ?_)
  refine ex_s rfl ?_
  refine ex_xc rfl rfl ⟨Nat.le_of_ble_eq_true rfl, Nat.le_of_ble_eq_true rfl⟩ (f_nSaw d J rfl) (fun rv9 h9 p9 => ?_)
  obtain ⟨rfl, H1, F1, o1, t1⟩ := p9
  refine ex_q rfl ?_
  exact ⟨rfl, H1, (FrT.hI0 (by decide)).tr ((FrT.hI0 (by decide)).tr ((FrT.hI0 (by decide)).tr F1)), fun _ => ⟨o1.trans rfl, t1⟩⟩
theorem f_ord108 (d : Nat) {h : AH} {I : Nat → Int32} {L : Nat} {s : TS} (H : TxI h I L s) (c : seeB I L s 108 108 = true) (hk : knB I L s = true) : WX (d + 4) mX11_readOrder 60 [(0, .ref 0)] [.int 1] h (fun v h' => v = none ∧ OrdP h h' I L s) := by
  obtain ⟨w1, w2, -, -⟩ := seeB_w c
  have e1 := H.1
  have h60 := H.2.2.1
  have e4 := H.2.2.2.1
  have e6 := H.2.2.2.2.2
  rw [w1] at e6
  have eI := see_I c
  have J0 := ((H.wr (b := false)).or (x := 108)).at (a := s.1 + 1) (by omega)
  have J : TxI (hI (hI (hI h 0 22 0) 0 23 108) 0 20 (nI (s.1 + 1))) I L (s.1 + 1, false) := J0
  have er : rdOrd I L s = ((ordK I L (s.1 + 1, false) (I s.1)).1, I s.1, (ordK I L (s.1 + 1, false) (I s.1)).2) := if_pos hk
  have g4 : (hI h 0 22 0).1 0 20 = nI s.1 := by rw [hI_at, upd_ne (by decide)]; exact e4
  have g5 : (hI (hI h 0 22 0) 0 23 108).1 0 20 = nI s.1 := by rw [hI_at, upd_ne (by decide)]; exact g4
  have g1 : (hI h 0 22 0).1 29 s.1 = 108 := by rw [hI_ne (by decide), e1]; exact eI
  rw [eI] at er
  unfold OrdP
  rw [er]
  iterate 4 refine ex_s rfl ?_
  rw [show fv 1 (h.1 0 22) = Value.int 0 from congrArg Value.int e6]
  refine ex_s rfl ?_
  refine ex_b rfl rfl (fun _ => ?_) (fun q => absurd (by decide) q)
  iterate 2 refine ex_s rfl ?_
  rw [eor0]
  iterate 3 refine ex_s rfl ?_
  refine ex_b rfl rfl (fun q => absurd q (by decide)) (fun _ => ?_)
  iterate 4 refine ex_s rfl ?_
  rw [show fv 0 ((hI h 0 22 0).1 0 20) = Value.int (nI s.1) from congrArg Value.int g4]
  refine ex_cl rfl rfl (vi) ?_
  rw [cl s.1, g1]
  refine ex_g rfl rfl ?_
  iterate 4 refine ex_s rfl ?_
  rw [show fv 0 ((hI (hI h 0 22 0) 0 23 108).1 0 20) = Value.int (nI s.1) from congrArg Value.int g5]
  refine ex_s rfl ?_
  refine ex_b rfl rfl (fun q => absurd q (by decide)) (fun _ => ?_)
  refine ex_s rfl ?_
  refine ex_g rfl rfl ?_
  refine ex_s rfl ?_
  rw [nI_1]
  iterate 2 refine ex_s rfl ?_
  refine ex_b rfl rfl (fun q => absurd q (by decide)) (fun _ => ?_)
  refine ex_s rfl ?_
  refine ex_xc rfl rfl ⟨Nat.le_of_ble_eq_true rfl, Nat.le_of_ble_eq_true rfl⟩ (f_nLay d J rfl) (fun rv9 h9 p9 => ?_)
  obtain ⟨rfl, H1, F1, o1, t1⟩ := p9
  refine ex_q rfl ?_
  exact ⟨rfl, H1, (FrT.hI0 (by decide)).tr ((FrT.hI0 (by decide)).tr ((FrT.hI0 (by decide)).tr F1)), fun _ => ⟨o1.trans rfl, t1⟩⟩
theorem f_ord104 (d : Nat) {h : AH} {I : Nat → Int32} {L : Nat} {s : TS} (H : TxI h I L s) (c : seeB I L s 104 104 = true) (hk : knB I L s = true) : WX (d + 4) mX11_readOrder 60 [(0, .ref 0)] [.int 1] h (fun v h' => v = none ∧ OrdP h h' I L s) := by
  obtain ⟨w1, w2, -, -⟩ := seeB_w c
  have e1 := H.1
  have h60 := H.2.2.1
  have e4 := H.2.2.2.1
  have e6 := H.2.2.2.2.2
  rw [w1] at e6
  have eI := see_I c
  have J0 := ((H.wr (b := false)).or (x := 104)).at (a := s.1 + 1) (by omega)
  have J : TxI (hI (hI (hI h 0 22 0) 0 23 104) 0 20 (nI (s.1 + 1))) I L (s.1 + 1, false) := J0
  have er : rdOrd I L s = ((ordK I L (s.1 + 1, false) (I s.1)).1, I s.1, (ordK I L (s.1 + 1, false) (I s.1)).2) := if_pos hk
  have g4 : (hI h 0 22 0).1 0 20 = nI s.1 := by rw [hI_at, upd_ne (by decide)]; exact e4
  have g5 : (hI (hI h 0 22 0) 0 23 104).1 0 20 = nI s.1 := by rw [hI_at, upd_ne (by decide)]; exact g4
  have g1 : (hI h 0 22 0).1 29 s.1 = 104 := by rw [hI_ne (by decide), e1]; exact eI
  rw [eI] at er
  unfold OrdP
  rw [er]
  iterate 4 refine ex_s rfl ?_
  rw [show fv 1 (h.1 0 22) = Value.int 0 from congrArg Value.int e6]
  refine ex_s rfl ?_
  refine ex_b rfl rfl (fun _ => ?_) (fun q => absurd (by decide) q)
  iterate 2 refine ex_s rfl ?_
  rw [eor0]
  iterate 3 refine ex_s rfl ?_
  refine ex_b rfl rfl (fun q => absurd q (by decide)) (fun _ => ?_)
  iterate 4 refine ex_s rfl ?_
  rw [show fv 0 ((hI h 0 22 0).1 0 20) = Value.int (nI s.1) from congrArg Value.int g4]
  refine ex_cl rfl rfl (vi) ?_
  rw [cl s.1, g1]
  refine ex_g rfl rfl ?_
  iterate 4 refine ex_s rfl ?_
  rw [show fv 0 ((hI (hI h 0 22 0) 0 23 104).1 0 20) = Value.int (nI s.1) from congrArg Value.int g5]
  refine ex_s rfl ?_
  refine ex_b rfl rfl (fun q => absurd q (by decide)) (fun _ => ?_)
  refine ex_s rfl ?_
  refine ex_g rfl rfl ?_
  refine ex_s rfl ?_
  rw [nI_1]
  iterate 2 refine ex_s rfl ?_
  refine ex_b rfl rfl (fun q => absurd q (by decide)) (fun _ => ?_)
  refine ex_s rfl ?_
  refine ex_xc rfl rfl ⟨Nat.le_of_ble_eq_true rfl, Nat.le_of_ble_eq_true rfl⟩ (f_nOne d J (o := 104) rfl rfl) (fun rv9 h9 p9 => ?_)
  obtain ⟨rfl, H1, F1, o1, t1⟩ := p9
  refine ex_q rfl ?_
  exact ⟨rfl, H1, (FrT.hI0 (by decide)).tr ((FrT.hI0 (by decide)).tr ((FrT.hI0 (by decide)).tr F1)), fun _ => ⟨o1.trans rfl, t1⟩⟩
theorem f_ord118 (d : Nat) {h : AH} {I : Nat → Int32} {L : Nat} {s : TS} (H : TxI h I L s) (c : seeB I L s 118 118 = true) (hk : knB I L s = true) : WX (d + 4) mX11_readOrder 60 [(0, .ref 0)] [.int 1] h (fun v h' => v = none ∧ OrdP h h' I L s) := by
  obtain ⟨w1, w2, -, -⟩ := seeB_w c
  have e1 := H.1
  have h60 := H.2.2.1
  have e4 := H.2.2.2.1
  have e6 := H.2.2.2.2.2
  rw [w1] at e6
  have eI := see_I c
  have J0 := ((H.wr (b := false)).or (x := 118)).at (a := s.1 + 1) (by omega)
  have J : TxI (hI (hI (hI h 0 22 0) 0 23 118) 0 20 (nI (s.1 + 1))) I L (s.1 + 1, false) := J0
  have er : rdOrd I L s = ((ordK I L (s.1 + 1, false) (I s.1)).1, I s.1, (ordK I L (s.1 + 1, false) (I s.1)).2) := if_pos hk
  have g4 : (hI h 0 22 0).1 0 20 = nI s.1 := by rw [hI_at, upd_ne (by decide)]; exact e4
  have g5 : (hI (hI h 0 22 0) 0 23 118).1 0 20 = nI s.1 := by rw [hI_at, upd_ne (by decide)]; exact g4
  have g1 : (hI h 0 22 0).1 29 s.1 = 118 := by rw [hI_ne (by decide), e1]; exact eI
  rw [eI] at er
  unfold OrdP
  rw [er]
  iterate 4 refine ex_s rfl ?_
  rw [show fv 1 (h.1 0 22) = Value.int 0 from congrArg Value.int e6]
  refine ex_s rfl ?_
  refine ex_b rfl rfl (fun _ => ?_) (fun q => absurd (by decide) q)
  iterate 2 refine ex_s rfl ?_
  rw [eor0]
  iterate 3 refine ex_s rfl ?_
  refine ex_b rfl rfl (fun q => absurd q (by decide)) (fun _ => ?_)
  iterate 4 refine ex_s rfl ?_
  rw [show fv 0 ((hI h 0 22 0).1 0 20) = Value.int (nI s.1) from congrArg Value.int g4]
  refine ex_cl rfl rfl (vi) ?_
  rw [cl s.1, g1]
  refine ex_g rfl rfl ?_
  iterate 4 refine ex_s rfl ?_
  rw [show fv 0 ((hI (hI h 0 22 0) 0 23 118).1 0 20) = Value.int (nI s.1) from congrArg Value.int g5]
  refine ex_s rfl ?_
  refine ex_b rfl rfl (fun q => absurd q (by decide)) (fun _ => ?_)
  refine ex_s rfl ?_
  refine ex_g rfl rfl ?_
  refine ex_s rfl ?_
  rw [nI_1]
  iterate 2 refine ex_s rfl ?_
  refine ex_b rfl rfl (fun q => absurd q (by decide)) (fun _ => ?_)
  refine ex_s rfl ?_
  refine ex_xc rfl rfl ⟨Nat.le_of_ble_eq_true rfl, Nat.le_of_ble_eq_true rfl⟩ (f_nOne d J (o := 118) rfl rfl) (fun rv9 h9 p9 => ?_)
  obtain ⟨rfl, H1, F1, o1, t1⟩ := p9
  refine ex_q rfl ?_
  exact ⟨rfl, H1, (FrT.hI0 (by decide)).tr ((FrT.hI0 (by decide)).tr ((FrT.hI0 (by decide)).tr F1)), fun _ => ⟨o1.trans rfl, t1⟩⟩
theorem f_ord116 (d : Nat) {h : AH} {I : Nat → Int32} {L : Nat} {s : TS} (H : TxI h I L s) (c : seeB I L s 116 116 = true) (hk : knB I L s = true) : WX (d + 4) mX11_readOrder 60 [(0, .ref 0)] [.int 1] h (fun v h' => v = none ∧ OrdP h h' I L s) := by
  obtain ⟨w1, w2, -, -⟩ := seeB_w c
  have e1 := H.1
  have h60 := H.2.2.1
  have e4 := H.2.2.2.1
  have e6 := H.2.2.2.2.2
  rw [w1] at e6
  have eI := see_I c
  have J0 := ((H.wr (b := false)).or (x := 116)).at (a := s.1 + 1) (by omega)
  have J : TxI (hI (hI (hI h 0 22 0) 0 23 116) 0 20 (nI (s.1 + 1))) I L (s.1 + 1, false) := J0
  have er : rdOrd I L s = ((ordK I L (s.1 + 1, false) (I s.1)).1, I s.1, (ordK I L (s.1 + 1, false) (I s.1)).2) := if_pos hk
  have g4 : (hI h 0 22 0).1 0 20 = nI s.1 := by rw [hI_at, upd_ne (by decide)]; exact e4
  have g5 : (hI (hI h 0 22 0) 0 23 116).1 0 20 = nI s.1 := by rw [hI_at, upd_ne (by decide)]; exact g4
  have g1 : (hI h 0 22 0).1 29 s.1 = 116 := by rw [hI_ne (by decide), e1]; exact eI
  rw [eI] at er
  unfold OrdP
  rw [er]
  iterate 4 refine ex_s rfl ?_
  rw [show fv 1 (h.1 0 22) = Value.int 0 from congrArg Value.int e6]
  refine ex_s rfl ?_
  refine ex_b rfl rfl (fun _ => ?_) (fun q => absurd (by decide) q)
  iterate 2 refine ex_s rfl ?_
  rw [eor0]
  iterate 3 refine ex_s rfl ?_
  refine ex_b rfl rfl (fun q => absurd q (by decide)) (fun _ => ?_)
  iterate 4 refine ex_s rfl ?_
  rw [show fv 0 ((hI h 0 22 0).1 0 20) = Value.int (nI s.1) from congrArg Value.int g4]
  refine ex_cl rfl rfl (vi) ?_
  rw [cl s.1, g1]
  refine ex_g rfl rfl ?_
  iterate 4 refine ex_s rfl ?_
  rw [show fv 0 ((hI (hI h 0 22 0) 0 23 116).1 0 20) = Value.int (nI s.1) from congrArg Value.int g5]
  refine ex_s rfl ?_
  refine ex_b rfl rfl (fun q => absurd q (by decide)) (fun _ => ?_)
  refine ex_s rfl ?_
  refine ex_g rfl rfl ?_
  refine ex_s rfl ?_
  rw [nI_1]
  iterate 2 refine ex_s rfl ?_
  refine ex_b rfl rfl (fun q => absurd q (by decide)) (fun _ => ?_)
  refine ex_s rfl ?_
  refine ex_xc rfl rfl ⟨Nat.le_of_ble_eq_true rfl, Nat.le_of_ble_eq_true rfl⟩ (f_nHeat d J rfl) (fun rv9 h9 p9 => ?_)
  obtain ⟨rfl, H1, F1, o1, t1⟩ := p9
  refine ex_q rfl ?_
  exact ⟨rfl, H1, (FrT.hI0 (by decide)).tr ((FrT.hI0 (by decide)).tr ((FrT.hI0 (by decide)).tr F1)), fun _ => ⟨o1.trans rfl, t1⟩⟩
theorem f_ordN (d : Nat) {h : AH} {I : Nat → Int32} {L : Nat} {s : TS} (H : TxI h I L s) (hk : ¬ knB I L s = true) : WX (d + 4) mX11_readOrder 60 [(0, .ref 0)] [.int 0] h (fun v h' => v = none ∧ OrdP h h' I L s) := by
  have e4 := H.2.2.2.1
  have e5 := H.2.2.2.2.1
  have e6 := H.2.2.2.2.2
  have eo : (bI (s.2 = true) ||| 1 : Int32) = 1 := by cases s.2 <;> decide
  have J0 := ((H.wr (b := true)).or (x := 32)).at (a := s.1) e5
  have J : TxI (hI (hI (hI h 0 22 1) 0 23 32) 0 20 (nI s.1)) I L (s.1, true) := J0
  have er : rdOrd I L s = ((s.1, true), 32, 0, 0, 0) := if_neg hk
  have g5 : (hI (hI h 0 22 1) 0 23 32).1 0 20 = nI s.1 := by rw [hI_at, upd_ne (by decide), hI_at, upd_ne (by decide)]; exact e4
  unfold OrdP
  rw [er]
  iterate 4 refine ex_s rfl ?_
  rw [show fv 1 (h.1 0 22) = Value.int (bI (s.2 = true)) from congrArg Value.int e6]
  refine ex_s rfl ?_
  refine ex_b rfl rfl (fun q => absurd q (fun q => q rfl)) (fun _ => ?_)
  refine ex_s rfl ?_
  refine ex_g rfl rfl ?_
  refine ex_s rfl ?_
  rw [eo]
  iterate 3 refine ex_s rfl ?_
  refine ex_b rfl rfl (fun _ => ?_) (fun q => absurd rfl q)
  iterate 5 refine ex_s rfl ?_
  rw [show fv 0 ((hI (hI h 0 22 1) 0 23 32).1 0 20) = Value.int (nI s.1) from congrArg Value.int g5]
  refine ex_s rfl ?_
  refine ex_b rfl rfl (fun _ => ?_) (fun q => absurd rfl q)
  iterate 2 refine ex_s rfl ?_
  rw [Int32.add_zero]
  iterate 2 refine ex_s rfl ?_
  refine ex_b rfl rfl (fun _ => ?_) (fun q => absurd rfl q)
  refine ex_q rfl ?_
  exact ⟨rfl, J, (FrT.hI0 (by decide)).tr ((FrT.hI0 (by decide)).tr (FrT.hI0 (by decide))), fun q => absurd (show true = false from q) (by decide)⟩
theorem f_readOrder (d : Nat) {h : AH} {I : Nat → Int32} {L : Nat} {s : TS} (H : TxI h I L s) : WM (d + 4) mX11_readOrder [.ref 0] h (fun v h' => v = none ∧ OrdP h h' I L s) := by
  have S1 := f_sees (d + 2) H 115 115
  have S2 := f_sees (d + 2) H 108 108
  have S3 := f_sees (d + 2) H 104 104
  have S4 := f_sees (d + 2) H 118 118
  have S5 := f_sees (d + 2) H 116 116
  by_cases c1 : seeB I L s 115 115 = true
  · have K := f_ord115 d H c1 (by unfold knB; rw [c1]; rfl)
    show WX _ _ 0 [(0, _)] [] _ _
    iterate 3 refine ex_s rfl ?_
    refine ex_c rfl rfl ⟨Nat.le_of_ble_eq_true rfl, Nat.le_of_ble_eq_true rfl⟩ (S1) ?_
    refine ex_b rfl rfl (fun _ => ?_) (fun q => absurd (bI_ne.mpr c1) q)
    refine ex_s rfl ?_
    refine ex_g rfl rfl ?_
    exact ex_sub (sub1 rfl) K
  · by_cases c2 : seeB I L s 108 108 = true
    · have K := f_ord108 d H c2 (by unfold knB; rw [c2]; simp)
      show WX _ _ 0 [(0, _)] [] _ _
      iterate 3 refine ex_s rfl ?_
      refine ex_c rfl rfl ⟨Nat.le_of_ble_eq_true rfl, Nat.le_of_ble_eq_true rfl⟩ (S1) ?_
      refine ex_b rfl rfl (fun q => absurd q (fun q => q (bI_eq.mpr c1))) (fun _ => ?_)
      iterate 3 refine ex_s rfl ?_
      refine ex_c rfl rfl ⟨Nat.le_of_ble_eq_true rfl, Nat.le_of_ble_eq_true rfl⟩ (S2) ?_
      refine ex_b rfl rfl (fun _ => ?_) (fun q => absurd (bI_ne.mpr c2) q)
      refine ex_s rfl ?_
      refine ex_g rfl rfl ?_
      exact ex_sub (sub1 rfl) K
    · by_cases c3 : seeB I L s 104 104 = true
      · have K := f_ord104 d H c3 (by unfold knB; rw [c3]; simp)
        show WX _ _ 0 [(0, _)] [] _ _
        iterate 3 refine ex_s rfl ?_
        refine ex_c rfl rfl ⟨Nat.le_of_ble_eq_true rfl, Nat.le_of_ble_eq_true rfl⟩ (S1) ?_
        refine ex_b rfl rfl (fun q => absurd q (fun q => q (bI_eq.mpr c1))) (fun _ => ?_)
        iterate 3 refine ex_s rfl ?_
        refine ex_c rfl rfl ⟨Nat.le_of_ble_eq_true rfl, Nat.le_of_ble_eq_true rfl⟩ (S2) ?_
        refine ex_b rfl rfl (fun q => absurd q (fun q => q (bI_eq.mpr c2))) (fun _ => ?_)
        iterate 3 refine ex_s rfl ?_
        refine ex_c rfl rfl ⟨Nat.le_of_ble_eq_true rfl, Nat.le_of_ble_eq_true rfl⟩ (S3) ?_
        refine ex_b rfl rfl (fun _ => ?_) (fun q => absurd (bI_ne.mpr c3) q)
        refine ex_s rfl ?_
        refine ex_g rfl rfl ?_
        exact ex_sub (sub1 rfl) K
      · by_cases c4 : seeB I L s 118 118 = true
        · have K := f_ord118 d H c4 (by unfold knB; rw [c4]; simp)
          show WX _ _ 0 [(0, _)] [] _ _
          iterate 3 refine ex_s rfl ?_
          refine ex_c rfl rfl ⟨Nat.le_of_ble_eq_true rfl, Nat.le_of_ble_eq_true rfl⟩ (S1) ?_
          refine ex_b rfl rfl (fun q => absurd q (fun q => q (bI_eq.mpr c1))) (fun _ => ?_)
          iterate 3 refine ex_s rfl ?_
          refine ex_c rfl rfl ⟨Nat.le_of_ble_eq_true rfl, Nat.le_of_ble_eq_true rfl⟩ (S2) ?_
          refine ex_b rfl rfl (fun q => absurd q (fun q => q (bI_eq.mpr c2))) (fun _ => ?_)
          iterate 3 refine ex_s rfl ?_
          refine ex_c rfl rfl ⟨Nat.le_of_ble_eq_true rfl, Nat.le_of_ble_eq_true rfl⟩ (S3) ?_
          refine ex_b rfl rfl (fun q => absurd q (fun q => q (bI_eq.mpr c3))) (fun _ => ?_)
          iterate 3 refine ex_s rfl ?_
          refine ex_c rfl rfl ⟨Nat.le_of_ble_eq_true rfl, Nat.le_of_ble_eq_true rfl⟩ (S4) ?_
          refine ex_b rfl rfl (fun _ => ?_) (fun q => absurd (bI_ne.mpr c4) q)
          refine ex_s rfl ?_
          refine ex_g rfl rfl ?_
          exact ex_sub (sub1 rfl) K
        · by_cases c5 : seeB I L s 116 116 = true
          · have K := f_ord116 d H c5 (by unfold knB; rw [c5]; simp)
            show WX _ _ 0 [(0, _)] [] _ _
            iterate 3 refine ex_s rfl ?_
            refine ex_c rfl rfl ⟨Nat.le_of_ble_eq_true rfl, Nat.le_of_ble_eq_true rfl⟩ (S1) ?_
            refine ex_b rfl rfl (fun q => absurd q (fun q => q (bI_eq.mpr c1))) (fun _ => ?_)
            iterate 3 refine ex_s rfl ?_
            refine ex_c rfl rfl ⟨Nat.le_of_ble_eq_true rfl, Nat.le_of_ble_eq_true rfl⟩ (S2) ?_
            refine ex_b rfl rfl (fun q => absurd q (fun q => q (bI_eq.mpr c2))) (fun _ => ?_)
            iterate 3 refine ex_s rfl ?_
            refine ex_c rfl rfl ⟨Nat.le_of_ble_eq_true rfl, Nat.le_of_ble_eq_true rfl⟩ (S3) ?_
            refine ex_b rfl rfl (fun q => absurd q (fun q => q (bI_eq.mpr c3))) (fun _ => ?_)
            iterate 3 refine ex_s rfl ?_
            refine ex_c rfl rfl ⟨Nat.le_of_ble_eq_true rfl, Nat.le_of_ble_eq_true rfl⟩ (S4) ?_
            refine ex_b rfl rfl (fun q => absurd q (fun q => q (bI_eq.mpr c4))) (fun _ => ?_)
            iterate 3 refine ex_s rfl ?_
            refine ex_c rfl rfl ⟨Nat.le_of_ble_eq_true rfl, Nat.le_of_ble_eq_true rfl⟩ (S5) ?_
            refine ex_b rfl rfl (fun q => absurd q (bI_ne.mpr c5)) (fun _ => ?_)
            refine ex_s rfl ?_
            refine ex_g rfl rfl ?_
            exact ex_sub (sub1 rfl) K
          · have K := f_ordN d H (by unfold knB; rw [Bool.eq_false_iff.mpr c1, Bool.eq_false_iff.mpr c2, Bool.eq_false_iff.mpr c3, Bool.eq_false_iff.mpr c4, Bool.eq_false_iff.mpr c5]; decide)
            show WX _ _ 0 [(0, _)] [] _ _
            iterate 3 refine ex_s rfl ?_
            refine ex_c rfl rfl ⟨Nat.le_of_ble_eq_true rfl, Nat.le_of_ble_eq_true rfl⟩ (S1) ?_
            refine ex_b rfl rfl (fun q => absurd q (fun q => q (bI_eq.mpr c1))) (fun _ => ?_)
            iterate 3 refine ex_s rfl ?_
            refine ex_c rfl rfl ⟨Nat.le_of_ble_eq_true rfl, Nat.le_of_ble_eq_true rfl⟩ (S2) ?_
            refine ex_b rfl rfl (fun q => absurd q (fun q => q (bI_eq.mpr c2))) (fun _ => ?_)
            iterate 3 refine ex_s rfl ?_
            refine ex_c rfl rfl ⟨Nat.le_of_ble_eq_true rfl, Nat.le_of_ble_eq_true rfl⟩ (S3) ?_
            refine ex_b rfl rfl (fun q => absurd q (fun q => q (bI_eq.mpr c3))) (fun _ => ?_)
            iterate 3 refine ex_s rfl ?_
            refine ex_c rfl rfl ⟨Nat.le_of_ble_eq_true rfl, Nat.le_of_ble_eq_true rfl⟩ (S4) ?_
            refine ex_b rfl rfl (fun q => absurd q (fun q => q (bI_eq.mpr c4))) (fun _ => ?_)
            iterate 3 refine ex_s rfl ?_
            refine ex_c rfl rfl ⟨Nat.le_of_ble_eq_true rfl, Nat.le_of_ble_eq_true rfl⟩ (S5) ?_
            refine ex_b rfl rfl (fun _ => ?_) (fun q => absurd (bI_eq.mpr c5) q)
            refine ex_s rfl ?_
            exact ex_sub (sub1 rfl) K
end
