-- needs: 41
noncomputable section
/-- the cells that a change of the reference leaves alone -/
def FrO (h h' : AH) : Prop := (∀ j, j ≠ 0 → (j < 11 ∨ 13 < j) → h'.1 0 j = h.1 0 j) ∧ (∀ a, a ≠ 0 → a ≠ 1 → a ≠ 28 → (a < 10 ∨ 17 < a) → h'.1 a = h.1 a) ∧ (∀ a, a ≠ 5 → a ≠ 27 → (a < 19 ∨ 26 < a) → h'.2.1 a = h.2.1 a) ∧ h'.2.2 = h.2.2
theorem FrO.rf {h : AH} : FrO h h := ⟨fun _ _ _ => rfl, fun _ _ _ _ _ => rfl, fun _ _ _ _ => rfl, rfl⟩
theorem FrO.tr {a b c : AH} (h1 : FrO a b) (h2 : FrO b c) : FrO a c := ⟨fun j x y => (h2.1 j x y).trans (h1.1 j x y), fun k x y z u => (h2.2.1 k x y z u).trans (h1.2.1 k x y z u), fun k x y z => (h2.2.2.1 k x y z).trans (h1.2.2.1 k x y z), h2.2.2.2.trans h1.2.2.2⟩
theorem FrK.o {h h' : AH} (F : FrK h h') : FrO h h' := ⟨fun j _ y => F.1 j (by omega), fun a x _ _ u => F.2.1 a x u, fun a _ _ u => F.2.2.1 a u, F.2.2.2⟩
theorem FrO.hI0 {h : AH} {i : Nat} {x : Int32} (hi : i = 0 ∨ 11 ≤ i ∧ i ≤ 13) : FrO h (hI h 0 i x) := ⟨fun j a b => by rw [hI_at, upd_ne (by omega)], fun a x _ _ _ => hI_ne x, fun _ _ _ _ => rfl, rfl⟩
theorem FrO.setR {h : AH} {r : Nat → Int32} {w : Nat → UInt32} : FrO h (setR h r w) := ⟨fun j _ _ => by rw [setR_n _ _ _ (by decide)], fun a _ x _ _ => setR_n _ _ _ x, fun a x _ _ => setR_m _ _ _ x, rfl⟩
theorem FrO.hX {h : AH} {r sh : Nat → Int32} {w ld : Nat → UInt32} : FrO h (hX h r w ld sh) := ⟨fun j _ _ => by rw [hX_n (by decide) (by decide)], fun a _ x y _ => hX_n x y, fun a x y _ => hX_m x y, rfl⟩
/-- the history as it was; with the row and the masses put at its end -/
def HSame (h h' : AH) : Prop := h'.1 0 11 = h.1 0 11 ∧ ∀ i, i < 8 → h'.1 (10 + i) = h.1 (10 + i) ∧ h'.2.1 (19 + i) = h.2.1 (19 + i)
def HPush (K a fa : Nat) (h h' : AH) : Prop := h'.1 0 11 = nI (min (K + 1) 8) ∧ (∀ i, i < min K 7 → HRow h' i h (10 + (if K = 8 then i + 1 else i)) (19 + (if K = 8 then i + 1 else i))) ∧ HRow h' (min K 7) h a fa
def HNew (p : Bool) (K : Nat) (h h' : AH) : Prop := if p = true then HPush K 1 5 h h' else HSame h h'
theorem HSame.rf {h : AH} : HSame h h := ⟨rfl, fun _ _ => ⟨rfl, rfl⟩⟩
theorem HSame.tr {a b c : AH} (h1 : HSame a b) (h2 : HSame b c) : HSame a c := ⟨h2.1.trans h1.1, fun i hi => ⟨(h2.2 i hi).1.trans (h1.2 i hi).1, (h2.2 i hi).2.trans (h1.2 i hi).2⟩⟩
theorem HRow.to {h h' h2 : AH} {i a fa : Nat} (hi : i < 8) (H : HRow h' i h a fa) (S : HSame h' h2) : HRow h2 i h a fa := ⟨fun j hj => by rw [(S.2 i hi).1]; exact H.1 j hj, fun j hj => by rw [(S.2 i hi).2]; exact H.2 j hj⟩
theorem HPush.to {h h' h2 : AH} {K a fa : Nat} (H : HPush K a fa h h') (S : HSame h' h2) : HPush K a fa h h2 := ⟨S.1.trans H.1, fun i hi => (H.2.1 i hi).to (by omega) S, H.2.2.to (by omega) S⟩
theorem HPush.from {h0 h h' : AH} {K a fa : Nat} (ha : h.1 a = h0.1 a) (hf : h.2.1 fa = h0.2.1 fa) (H : HPush K a fa h h') (S : HSame h0 h) (hK : K ≤ 8) : HPush K a fa h0 h' := by
  refine ⟨H.1, fun i hi => ?_, ?_⟩
  · obtain ⟨a1, a2⟩ := H.2.1 i hi
    have hi2 : (if K = 8 then i + 1 else i) < 8 := by split <;> omega
    exact ⟨fun j hj => by rw [a1 j hj, (S.2 _ hi2).1], fun j hj => by rw [a2 j hj, (S.2 _ hi2).2]⟩
  · exact ⟨fun j hj => by rw [H.2.2.1 j hj, ha], fun j hj => by rw [H.2.2.2 j hj, hf]⟩
theorem HNew.to {h h' h2 : AH} {p : Bool} {K : Nat} (H : HNew p K h h') (S : HSame h' h2) : HNew p K h h2 := by
  unfold HNew at H ⊢
  cases p
  · exact HSame.tr H S
  · exact HPush.to H S
theorem HNew.from {h0 h h' : AH} {p : Bool} {K : Nat} (ha : h.1 1 = h0.1 1) (hf : h.2.1 5 = h0.2.1 5) (H : HNew p K h h') (S : HSame h0 h) (hK : K ≤ 8) : HNew p K h0 h' := by
  unfold HNew at H ⊢
  cases p
  · exact HSame.tr S H
  · exact HPush.from ha hf H S hK
theorem HSame.hI0 {h : AH} {i : Nat} {x : Int32} (hi : i ≠ 11) : HSame h (hI h 0 i x) := ⟨by rw [hI_at, upd_ne (Ne.symm hi)], fun j hj => ⟨hI_ne (by omega), rfl⟩⟩
theorem HSame.setR {h : AH} {r : Nat → Int32} {w : Nat → UInt32} : HSame h (setR h r w) := ⟨by rw [setR_n _ _ _ (by decide)], fun j hj => ⟨setR_n _ _ _ (by omega), setR_m _ _ _ (by omega)⟩⟩
theorem HSame.hX {h : AH} {r sh : Nat → Int32} {w ld : Nat → UInt32} : HSame h (hX h r w ld sh) := ⟨by rw [hX_n (by decide) (by decide)], fun j hj => ⟨hX_n (by omega) (by omega), hX_m (by omega) (by omega)⟩⟩
/-- what a change of the reference leaves: what it throws, reason and detail, row and masses, the history -/
def OpP (h h' : AH) (code re de : Int32) (r' : Nat → Int32) (w' : Nat → UInt32) (p : Bool) (K : Nat) : Prop :=
  h'.1 0 0 = code ∧ h'.1 0 12 = re ∧ h'.1 0 13 = de ∧ h'.1 1 = r' ∧ h'.2.1 5 = w' ∧ HNew p K h h' ∧ FrO h h'
/-- the flag that a text is carried out -/
def inT (h : AH) : Bool := decide (h.1 0 15 ≠ 0)
theorem f_change (d : Nat) (h : AH) {K : Nat} (hK : K ≤ 8) (h11 : h.1 0 11 = nI K) : WM (d + 2) mX11_change [.ref 0] h (fun v h' => v = none ∧ OpP h h' (h.1 0 0) (h.1 0 12) (h.1 0 13) (h.1 1) (h.2.1 5) (!inT h) K) := by
  by_cases ht : h.1 0 15 = 0
  · have e : inT h = false := decide_eq_false (fun q => q ht)
    rw [e]
    have R := (f_remember d (a := 1) (fa := 5) rfl rfl (by decide) (by decide) (by decide) h hK h11).mono (P := fun v h' => v = none ∧ OpP h h' (h.1 0 0) (h.1 0 12) (h.1 0 13) (h.1 1) (h.2.1 5) (!false) K) (fun v h' z => by
      obtain ⟨z1, F, z3, z4, z5⟩ := z
      exact ⟨z1, F.1 0 (by decide), F.1 12 (by decide), F.1 13 (by decide), F.2.1 1 (by decide) (by decide), F.2.2.1 5 (by decide), ⟨z3, z4, z5⟩, F.o⟩)
    show WX _ _ 0 [(0, _)] [] _ _
    iterate 2 refine ex_s rfl ?_
    refine ex_b rfl rfl (fun q => absurd q (fun q => q ht)) (fun _ => ?_)
    iterate 5 refine ex_s rfl ?_
    refine ex_xc rfl rfl ⟨Nat.le_of_ble_eq_true rfl, Nat.le_of_ble_eq_true rfl⟩ (R) (fun rv9 h9 p9 => ?_)
    obtain ⟨rfl, p9⟩ := p9
    refine ex_q rfl ?_
    exact ⟨rfl, p9⟩
  · have e : inT h = true := decide_eq_true ht
    rw [e]
    show WX _ _ 0 [(0, _)] [] _ _
    iterate 2 refine ex_s rfl ?_
    refine ex_b rfl rfl (fun _ => ?_) (fun q => absurd ht q)
    refine ex_q rfl ?_
    exact ⟨rfl, rfl, rfl, rfl, rfl, rfl, HSame.rf, FrO.rf⟩
theorem bI1 : (1 : Int32) = bI True := rfl
theorem bI0 : (0 : Int32) = bI False := rfl
theorem f_failsT (d : Nat) (n : Int32) (h : AH) : EvM d mX11_fails [.ref 0, .int n, .int 1] h (some (.int 1)) (hI h 0 0 n) := f_fails d n True h
theorem f_failsF (d : Nat) (n : Int32) (h : AH) : EvM d mX11_fails [.ref 0, .int n, .int 0] h (some (.int 0)) (hI h 0 0 0) := f_fails d n False h
theorem f_refuseT (d : Nat) (y z : Int32) (h : AH) : EvM d mX11_refuse [.ref 0, .int 1, .int y, .int z] h (some (.int 1)) (hI (hI h 0 12 y) 0 13 z) := f_refuse d True y z h
theorem f_refuseF (d : Nat) (y z : Int32) (h : AH) : EvM d mX11_refuse [.ref 0, .int 0, .int y, .int z] h (some (.int 0)) h := f_refuse d False y z h
theorem hI_2 {h : AH} {k i : Nat} {x y : Int32} : hI (hI h k i x) k i y = hI h k i y := by
  refine Prod.ext ?_ rfl
  funext a j
  by_cases e : a = k ∧ j = i <;> simp [hI, e]
/-- what stands behind the checks: thrown is put, the rest is as it was -/
theorem OpP_0 {h h0 h' : AH} {code re de : Int32} {r' : Nat → Int32} {w' : Nat → UInt32} {p : Bool} {K : Nat} {x : Int32} (hK : K ≤ 8) (e : h0 = hI h 0 0 x) (H : OpP h0 h' code re de r' w' p K) : OpP h h' code re de r' w' p K := by
  obtain ⟨a1, a2, a3, a4, a5, a6, a7⟩ := H
  refine ⟨a1, a2, a3, a4, a5, a6.from (by rw [e]; exact hI_ne (by decide)) (by rw [e]; rfl) (by rw [e]; exact HSame.hI0 (by decide)) hK, ?_⟩
  rw [e] at a7
  exact (FrO.hI0 (Or.inl rfl)).tr a7
theorem OpP_x {h : AH} {code : Int32} {K : Nat} : OpP h (hI h 0 0 code) code (h.1 0 12) (h.1 0 13) (h.1 1) (h.2.1 5) false K :=
  ⟨by rw [hI_at, upd_eq], by rw [hI_at, upd_ne (by decide)], by rw [hI_at, upd_ne (by decide)], hI_ne (by decide), rfl, HSame.hI0 (by decide), FrO.hI0 (Or.inl rfl)⟩
theorem OpP_set {h h' : AH} {code re de : Int32} {r : Nat → Int32} {w : Nat → UInt32} {p : Bool} {K : Nat} {r' : Nat → Int32} {w' : Nat → UInt32} (H : OpP h h' code re de r w p K) : OpP h (setR h' r' w') code re de r' w' p K := by
  obtain ⟨a1, a2, a3, a4, a5, a6, a7⟩ := H
  exact ⟨by rw [setR_n _ _ _ (by decide)]; exact a1, by rw [setR_n _ _ _ (by decide)]; exact a2, by rw [setR_n _ _ _ (by decide)]; exact a3, setR_1 _ _ _, setR_5 _ _ _, a6.to HSame.setR, a7.tr FrO.setR⟩
theorem OpP_hX {h h' : AH} {code re de : Int32} {r : Nat → Int32} {w : Nat → UInt32} {p : Bool} {K : Nat} {r' sh : Nat → Int32} {w' ld : Nat → UInt32} (H : OpP h h' code re de r w p K) : OpP h (hX h' r' w' ld sh) code re de r' w' p K := by
  obtain ⟨a1, a2, a3, a4, a5, a6, a7⟩ := H
  exact ⟨by rw [hX_n (by decide) (by decide)]; exact a1, by rw [hX_n (by decide) (by decide)]; exact a2, by rw [hX_n (by decide) (by decide)]; exact a3, hX_1, hX_5, a6.to HSame.hX, a7.tr FrO.hX⟩
theorem f_changeZ (d : Nat) (h : AH) {K : Nat} (hK : K ≤ 8) (h11 : h.1 0 11 = nI K) : WM (d + 2) mX11_change [.ref 0] (hI h 0 0 0) (fun v h' => v = none ∧ OpP h h' 0 (h.1 0 12) (h.1 0 13) (h.1 1) (h.2.1 5) (!inT h) K) := by
  have eT : inT (hI h 0 0 0) = inT h := by unfold inT; rw [hI_at, upd_ne (by decide)]
  refine (f_change d (hI h 0 0 0) hK (by rw [hI_at, upd_ne (by decide)]; exact h11)).mono (fun v h' z => ⟨z.1, ?_⟩)
  have z2 := OpP_0 hK rfl z.2
  rw [eT, show (hI h 0 0 0).1 0 0 = 0 from by rw [hI_at, upd_eq], show (hI h 0 0 0).1 0 12 = h.1 0 12 from by rw [hI_at, upd_ne (by decide)], show (hI h 0 0 0).1 0 13 = h.1 0 13 from by rw [hI_at, upd_ne (by decide)], show (hI h 0 0 0).1 1 = h.1 1 from hI_ne (by decide)] at z2
  exact z2
def heatC (hr te : Int32) : Int32 := if ¬ (0 ≤ hr ∧ hr ≤ 23) then 1 else if ¬ (-30 ≤ te ∧ te ≤ 20) then 2 else 0
def heatR (r : Nat → Int32) (hr te : Int32) : Nat → Int32 := if heatC hr te = 0 then upd r (5 + hr.toNatClampNeg) te else r
theorem f_heat (d : Nat) (hr te : Int32) (h : AH) {K : Nat} (hK : K ≤ 8) (h11 : h.1 0 11 = nI K) : WM (d + 3) mX11_heat [.ref 0, .int hr, .int te] h (fun v h' => (∃ x, v = some (.int x) ∧ (heatC hr te = 0 → x = h.1 1 (5 + hr.toNatClampNeg))) ∧ OpP h h' (heatC hr te) (h.1 0 12) (h.1 0 13) (heatR (h.1 1) hr te) (h.2.1 5) (decide (heatC hr te = 0) && !inT h) K) := by
  have H1 := f_isHour (d + 1) hr h
  by_cases c1 : 0 ≤ hr ∧ hr ≤ 23
  · have T1 := f_isBetween (d + 2) te (-30) 20 (hI h 0 0 0)
    by_cases c2 : -30 ≤ te ∧ te ≤ 20
    · have e : heatC hr te = 0 := by unfold heatC; rw [if_neg (fun q => q c1), if_neg (fun q => q c2)]
      obtain ⟨n, hn, rfl⟩ := nI_of2 (M := 23) (n := 23) rfl (Int32.not_lt.mpr c1.1) c1.2
      have C := f_changeZ d h hK h11
      unfold heatR
      rw [e, decide_eq_true rfl, if_pos rfl, Bool.true_and]
      show WX _ _ 0 [(0, _), (1, _), (2, _)] [] _ _
      iterate 3 refine ex_s rfl ?_
      refine ex_c rfl rfl ⟨Nat.le_of_ble_eq_true rfl, Nat.le_of_ble_eq_true rfl⟩ (H1) ?_
      refine ex_b rfl rfl (fun _ => ?_) (fun q => absurd (bI_ne.mpr c1) q)
      refine ex_s rfl ?_
      refine ex_c rfl rfl ⟨Nat.le_of_ble_eq_true rfl, Nat.le_of_ble_eq_true rfl⟩ (f_failsF _ _ _) ?_
      refine ex_b rfl rfl (fun q => absurd q (fun q => q rfl)) (fun _ => ?_)
      iterate 5 refine ex_s rfl ?_
      refine ex_c rfl rfl ⟨Nat.le_of_ble_eq_true rfl, Nat.le_of_ble_eq_true rfl⟩ (T1) ?_
      refine ex_b rfl rfl (fun _ => ?_) (fun q => absurd (bI_ne.mpr c2) q)
      refine ex_s rfl ?_
      skip
      refine ex_c rfl rfl ⟨Nat.le_of_ble_eq_true rfl, Nat.le_of_ble_eq_true rfl⟩ (f_failsF _ _ _) ?_
      refine ex_b rfl rfl (fun _ => ?_) (fun q => absurd rfl q)
      rw [hI_2]
      refine ex_s rfl ?_
      refine ex_xc rfl rfl ⟨Nat.le_of_ble_eq_true rfl, Nat.le_of_ble_eq_true rfl⟩ (C) (fun rv9 h9 p9 => ?_)
      obtain ⟨rfl, p9⟩ := p9
      iterate 5 refine ex_s rfl ?_
      rw [show (5 : Int32) = nI 5 from rfl, nI_add]
      refine ex_il rfl rfl (vi) ?_
      iterate 7 refine ex_s rfl ?_
      rw [show (5 : Int32) = nI 5 from rfl, nI_add]
      refine ex_is rfl rfl (vi) ?_
      refine ex_s rfl ?_
      refine ex_q rfl ?_
      rw [cl _, hI_R, p9.2.2.2.1, nI_clamp (show n < 2 ^ 31 by omega)]
      exact ⟨⟨_, rfl, fun _ => rfl⟩, by rw [p9.2.2.2.2.1]; exact OpP_set p9⟩
    · have e : heatC hr te = 2 := by unfold heatC; rw [if_neg (fun q => q c1), if_pos c2]
      unfold heatR
      rw [e, if_neg (by decide), decide_eq_false (by decide), Bool.false_and]
      show WX _ _ 0 [(0, _), (1, _), (2, _)] [] _ _
      iterate 3 refine ex_s rfl ?_
      refine ex_c rfl rfl ⟨Nat.le_of_ble_eq_true rfl, Nat.le_of_ble_eq_true rfl⟩ (H1) ?_
      refine ex_b rfl rfl (fun _ => ?_) (fun q => absurd (bI_ne.mpr c1) q)
      refine ex_s rfl ?_
      refine ex_c rfl rfl ⟨Nat.le_of_ble_eq_true rfl, Nat.le_of_ble_eq_true rfl⟩ (f_failsF _ _ _) ?_
      refine ex_b rfl rfl (fun q => absurd q (fun q => q rfl)) (fun _ => ?_)
      iterate 5 refine ex_s rfl ?_
      refine ex_c rfl rfl ⟨Nat.le_of_ble_eq_true rfl, Nat.le_of_ble_eq_true rfl⟩ (T1) ?_
      refine ex_b rfl rfl (fun q => absurd q (fun q => q (bI_eq.mpr c2))) (fun _ => ?_)
      refine ex_s rfl ?_
      refine ex_g rfl rfl ?_
      refine ex_c rfl rfl ⟨Nat.le_of_ble_eq_true rfl, Nat.le_of_ble_eq_true rfl⟩ (f_failsT _ _ _) ?_
      refine ex_b rfl rfl (fun q => absurd q (by decide)) (fun _ => ?_)
      rw [hI_2]
      refine ex_s rfl ?_
      refine ex_q rfl ?_
      exact ⟨⟨_, rfl, fun q => absurd q (by decide)⟩, OpP_x⟩
  · have e : heatC hr te = 1 := by unfold heatC; rw [if_pos c1]
    unfold heatR
    rw [e, if_neg (by decide), decide_eq_false (by decide), Bool.false_and]
    show WX _ _ 0 [(0, _), (1, _), (2, _)] [] _ _
    iterate 3 refine ex_s rfl ?_
    refine ex_c rfl rfl ⟨Nat.le_of_ble_eq_true rfl, Nat.le_of_ble_eq_true rfl⟩ (H1) ?_
    refine ex_b rfl rfl (fun q => absurd q (fun q => q (bI_eq.mpr c1))) (fun _ => ?_)
    refine ex_s rfl ?_
    refine ex_g rfl rfl ?_
    refine ex_c rfl rfl ⟨Nat.le_of_ble_eq_true rfl, Nat.le_of_ble_eq_true rfl⟩ (f_failsT _ _ _) ?_
    refine ex_b rfl rfl (fun _ => ?_) (fun q => absurd (by decide) q)
    refine ex_s rfl ?_
    refine ex_q rfl ?_
    exact ⟨⟨_, rfl, fun q => absurd q (by decide)⟩, OpP_x⟩
def visitC (v : Int32) : Int32 := if ¬ (0 ≤ v ∧ v ≤ 50) then 1 else 0
def visitR (r : Nat → Int32) (v : Int32) : Nat → Int32 := if visitC v = 0 then upd r 3 v else r
theorem f_visit (d : Nat) (v : Int32) (h : AH) {K : Nat} (hK : K ≤ 8) (h11 : h.1 0 11 = nI K) : WM (d + 3) mX11_visit [.ref 0, .int v] h (fun v9 h' => (∃ x, v9 = some (.int x) ∧ (visitC v = 0 → x = h.1 1 3)) ∧ OpP h h' (visitC v) (h.1 0 12) (h.1 0 13) (visitR (h.1 1) v) (h.2.1 5) (decide (visitC v = 0) && !inT h) K) := by
  have T1 := f_isBetween (d + 2) v 0 50 h
  by_cases c1 : 0 ≤ v ∧ v ≤ 50
  · have e : visitC v = 0 := by unfold visitC; rw [if_neg (fun q => q c1)]
    have C := f_changeZ d h hK h11
    unfold visitR
    rw [e, decide_eq_true rfl, if_pos rfl, Bool.true_and]
    show WX _ _ 0 [(0, _), (1, _)] [] _ _
    iterate 5 refine ex_s rfl ?_
    refine ex_c rfl rfl ⟨Nat.le_of_ble_eq_true rfl, Nat.le_of_ble_eq_true rfl⟩ (T1) ?_
    refine ex_b rfl rfl (fun _ => ?_) (fun q => absurd (bI_ne.mpr c1) q)
    refine ex_s rfl ?_
    refine ex_c rfl rfl ⟨Nat.le_of_ble_eq_true rfl, Nat.le_of_ble_eq_true rfl⟩ (f_failsF _ _ _) ?_
    refine ex_b rfl rfl (fun _ => ?_) (fun q => absurd rfl q)
    refine ex_s rfl ?_
    refine ex_xc rfl rfl ⟨Nat.le_of_ble_eq_true rfl, Nat.le_of_ble_eq_true rfl⟩ (C) (fun rv9 h9 p9 => ?_)
    obtain ⟨rfl, p9⟩ := p9
    iterate 3 refine ex_s rfl ?_
    refine ex_il rfl rfl (vi (k := 3)) ?_
    iterate 5 refine ex_s rfl ?_
    refine ex_is rfl rfl (vi (k := 3)) ?_
    refine ex_s rfl ?_
    refine ex_q rfl ?_
    rw [k3, hI_R, p9.2.2.2.1]
    exact ⟨⟨_, rfl, fun _ => rfl⟩, by rw [p9.2.2.2.2.1]; exact OpP_set p9⟩
  · have e : visitC v = 1 := by unfold visitC; rw [if_pos c1]
    unfold visitR
    rw [e, if_neg (by decide), decide_eq_false (by decide), Bool.false_and]
    show WX _ _ 0 [(0, _), (1, _)] [] _ _
    iterate 5 refine ex_s rfl ?_
    refine ex_c rfl rfl ⟨Nat.le_of_ble_eq_true rfl, Nat.le_of_ble_eq_true rfl⟩ (T1) ?_
    refine ex_b rfl rfl (fun q => absurd q (fun q => q (bI_eq.mpr c1))) (fun _ => ?_)
    refine ex_s rfl ?_
    refine ex_g rfl rfl ?_
    refine ex_c rfl rfl ⟨Nat.le_of_ble_eq_true rfl, Nat.le_of_ble_eq_true rfl⟩ (f_failsT _ _ _) ?_
    refine ex_b rfl rfl (fun q => absurd q (by decide)) (fun _ => ?_)
    refine ex_s rfl ?_
    refine ex_q rfl ?_
    exact ⟨⟨_, rfl, fun q => absurd q (by decide)⟩, OpP_x⟩
end
