-- needs: 64
noncomputable section
/-- what reading a text leaves alone -/
def FrR (h h' : AH) : Prop := (∀ j, j ≠ 0 → (j < 11 ∨ 13 < j) → j ≠ 15 → (j < 19 ∨ 23 < j) → h'.1 0 j = h.1 0 j) ∧ h'.1 0 15 = 0 ∧ h'.1 2 = h.1 2 ∧ h'.1 29 = h.1 29 ∧ h'.2.1 6 = h.2.1 6
def RdP (h h' : AH) (code err re de : Int32) (r' : Nat → Int32) (w' : Nat → UInt32) (p : Bool) (K : Nat) : Prop :=
  h'.1 0 0 = code ∧ h'.1 0 19 = 0 ∧ h'.1 0 21 = err ∧ h'.1 0 12 = re ∧ h'.1 0 13 = de ∧ h'.1 1 = r' ∧ h'.2.1 5 = w' ∧ HNew p K h h' ∧ FrR h h'
theorem HPush.conv {h g h' : AH} {K : Nat} (H : HPush K 4 8 g h') (e1 : ∀ j, j < 445 → g.1 4 j = h.1 1 j) (e2 : ∀ j, j < 40 → g.2.1 8 j = h.2.1 5 j) (S : HSame h g) (hK : K ≤ 8) : HPush K 1 5 h h' := by
  refine ⟨H.1, fun i hi => ?_, ?_⟩
  · obtain ⟨a1, a2⟩ := H.2.1 i hi
    have hi2 : (if K = 8 then i + 1 else i) < 8 := by split <;> omega
    exact ⟨fun j hj => by rw [a1 j hj, (S.2 _ hi2).1], fun j hj => by rw [a2 j hj, (S.2 _ hi2).2]⟩
  · exact ⟨fun j hj => (H.2.2.1 j hj).trans (e1 j hj), fun j hj => (H.2.2.2 j hj).trans (e2 j hj)⟩
/-- the heap before the loop, beside the one before the call -/
def RdB (h g0 : AH) : Prop := HSame h g0 ∧ (∀ j, j ≠ 0 → (j < 11 ∨ 13 < j) → j ≠ 15 → (j < 20 ∨ 23 < j) → g0.1 0 j = h.1 0 j) ∧ g0.1 0 21 = -1 ∧ g0.1 2 = h.1 2 ∧ g0.1 29 = h.1 29 ∧ g0.2.1 6 = h.2.1 6 ∧ (∀ j, j < 445 → g0.1 4 j = h.1 1 j) ∧ ∀ j, j < 40 → g0.2.1 8 j = h.2.1 5 j
theorem f_read_end (d : Nat) {h g0 g : AH} {I : Nat → Int32} {L K n : Nat} {c : CyS} {i : Int32} (Rb : RdB h g0) (C : CyI g0 g I L K c) (hK : K ≤ 8) (z1 : Z9 (h.1 1)) (z2 : ZW (h.2.1 5)) (z3 : Z9 c.2.1) (z4 : ZW c.2.2.1) : WX (d + 11) mX11_read 110 [(0, .ref 0), (1, .int (nI n)), (2, .int c.1), (3, .int i)] [] g (fun v h' => (∃ a, v = some (.int a) ∧ (c.1 = 0 → a = nI n)) ∧ RdP h h' c.1 (-1) c.2.2.2.1 c.2.2.2.2 (if c.1 = 0 then c.2.1 else h.1 1) (if c.1 = 0 then c.2.2.1 else h.2.1 5) (decide (c.1 = 0)) K) := by
  obtain ⟨a1, a2, a3, a4, a5, a6, a7, a8, a9, a10⟩ := C
  obtain ⟨b1, b2, b3, b4, b5, b6, b7, b8⟩ := Rb
  have gT : ∀ x a, a ≠ 0 → (hI (hI (hI g 0 15 0) 0 19 0) 0 0 x).1 a = g.1 a := fun x a ha => by rw [hI_ne ha, hI_ne ha, hI_ne ha]
  have gH : ∀ x j, j ≠ 0 → j ≠ 15 → j ≠ 19 → (hI (hI (hI g 0 15 0) 0 19 0) 0 0 x).1 0 j = g.1 0 j := fun x j h1 h2 h3 => by rw [hI_at, upd_ne h1, hI_at, upd_ne h3, hI_at, upd_ne h2]
  have g19 : ∀ x, (hI (hI (hI g 0 15 0) 0 19 0) 0 0 x).1 0 19 = 0 := fun x => by rw [hI_at, upd_ne (by decide), hI_at, upd_eq]
  have g15 : ∀ x, (hI (hI (hI g 0 15 0) 0 19 0) 0 0 x).1 0 15 = 0 := fun x => by rw [hI_at, upd_ne (by decide), hI_at, upd_ne (by decide), hI_at, upd_eq]
  have g0' : ∀ x, (hI (hI (hI g 0 15 0) 0 19 0) 0 0 x).1 0 0 = x := fun x => by rw [hI_at, upd_eq]
  have fr : ∀ x j, j ≠ 0 → (j < 11 ∨ 13 < j) → j ≠ 15 → (j < 19 ∨ 23 < j) → (hI (hI (hI g 0 15 0) 0 19 0) 0 0 x).1 0 j = h.1 0 j := fun x j h1 h2 h3 h4 => by rw [gH x j h1 h3 (by omega), a8 j h1 h2 (by omega) (by omega) (by omega)]; exact b2 j h1 h2 h3 (by omega)
  have g21 : ∀ x, (hI (hI (hI g 0 15 0) 0 19 0) 0 0 x).1 0 21 = -1 := fun x => by rw [gH x 21 (by decide) (by decide) (by decide), a8 21 (by decide) (by decide) (by decide) (by decide) (by decide)]; exact b3
  have hs : ∀ x, HSame h (hI (hI (hI g 0 15 0) 0 19 0) 0 0 x) := fun x => (b1.tr a7).tr (((HSame.hI0 (by decide)).tr (HSame.hI0 (by decide))).tr (HSame.hI0 (by decide)))
  by_cases c0 : c.1 = 0
  · rw [if_pos c0, if_pos c0, decide_eq_true c0]
    have R := f_remember (d + 9) (a := 4) (fa := 8) rfl rfl (by decide) (by decide) (by decide) (hI (hI (hI g 0 15 0) 0 19 0) 0 0 c.1) hK (by rw [gH _ 11 (by decide) (by decide) (by decide)]; exact a6)
    iterate 10 refine ex_s rfl ?_
    refine ex_b rfl rfl (fun _ => ?_) (fun q => absurd c0 q)
    iterate 5 refine ex_s rfl ?_
    refine ex_xc rfl rfl ⟨Nat.le_of_ble_eq_true rfl, Nat.le_of_ble_eq_true rfl⟩ (R) (fun rv9 h9 p9 => ?_)
    obtain ⟨rfl, F, p3, p4, p5⟩ := p9
    refine ex_s rfl ?_
    refine ex_q rfl ?_
    refine ⟨⟨_, rfl, fun _ => rfl⟩, by rw [F.1 0 (by decide)]; exact g0' _, by rw [F.1 19 (by decide)]; exact g19 _, by rw [F.1 21 (by decide)]; exact g21 _, by rw [F.1 12 (by decide), gH _ 12 (by decide) (by decide) (by decide)]; exact a3, by rw [F.1 13 (by decide), gH _ 13 (by decide) (by decide) (by decide)]; exact a4, by rw [F.2.1 1 (by decide) (by decide), gT _ 1 (by decide)]; exact a1, by rw [F.2.2.1 5 (by decide)]; exact a2, ?_, ⟨fun j h1 h2 h3 h4 => by rw [F.1 j (by omega)]; exact fr _ j h1 h2 h3 h4, by rw [F.1 15 (by decide)]; exact g15 _, by rw [F.2.1 2 (by decide) (by decide), gT _ 2 (by decide), a9 2 (by decide)]; exact b4, by rw [F.2.1 29 (by decide) (by decide), gT _ 29 (by decide), a9 29 (by decide)]; exact b5, by rw [F.2.2.1 6 (by decide)]; exact (a10 6 (by decide)).trans b6⟩⟩
    exact HPush.conv ⟨p3, p4, p5⟩ (fun j hj => by rw [gT _ 4 (by decide), a9 4 (by decide)]; exact b7 j hj) (fun j hj => (congrFun (a10 8 (by decide)) j).trans (b8 j hj)) (hs _) hK
  · rw [if_neg c0, if_neg c0, decide_eq_false c0]
    have Cp := f_copyAll (d + 10) (a := 4) (b := 1) (fa := 8) (fb := 5) rfl rfl rfl rfl (by decide) (by decide) (hI (hI (hI g 0 15 0) 0 19 0) 0 0 c.1)
    have e1 : mapI ((hI (hI (hI g 0 15 0) 0 19 0) 0 0 c.1).1 4) 445 ((hI (hI (hI g 0 15 0) 0 19 0) 0 0 c.1).1 1) = h.1 1 := by
      rw [gT _ 4 (by decide), gT _ 1 (by decide), a9 4 (by decide), a1]
      exact cpI1 b7 z1 z3
    have e2 : mapF ((hI (hI (hI g 0 15 0) 0 19 0) 0 0 c.1).2.1 8) 40 ((hI (hI (hI g 0 15 0) 0 19 0) 0 0 c.1).2.1 5) = h.2.1 5 := by
      show mapF (g.2.1 8) 40 (g.2.1 5) = _
      rw [a10 8 (by decide), a2]
      exact cpF1 b8 z2 z4
    rw [e1, e2] at Cp
    have gI : ∀ x a, a ≠ 1 → (hFr (hIr (hI (hI (hI g 0 15 0) 0 19 0) 0 0 x) 1 (h.1 1)) 5 (h.2.1 5)).1 a = (hI (hI (hI g 0 15 0) 0 19 0) 0 0 x).1 a := fun x a ha => by rw [hFr_1, hIr_ne ha]
    have gF : ∀ x a, a ≠ 5 → (hFr (hIr (hI (hI (hI g 0 15 0) 0 19 0) 0 0 x) 1 (h.1 1)) 5 (h.2.1 5)).2.1 a = g.2.1 a := fun x a ha => hFr_ne _ _ ha
    have HS9 : HSame h (hFr (hIr (hI (hI (hI g 0 15 0) 0 19 0) 0 0 c.1) 1 (h.1 1)) 5 (h.2.1 5)) := (hs c.1).tr ⟨by rw [gI _ 0 (by decide)], fun i hi => ⟨gI _ _ (by omega), gF _ _ (by omega)⟩⟩
    iterate 10 refine ex_s rfl ?_
    refine ex_b rfl rfl (fun q => absurd q c0) (fun _ => ?_)
    iterate 8 refine ex_s rfl ?_
    refine ex_c rfl rfl ⟨Nat.le_of_ble_eq_true rfl, Nat.le_of_ble_eq_true rfl⟩ (Cp) ?_
    refine ex_s rfl ?_
    refine ex_q rfl ?_
    exact ⟨⟨_, rfl, fun q => absurd q c0⟩, by rw [gI _ 0 (by decide)]; exact g0' _, by rw [gI _ 0 (by decide)]; exact g19 _, by rw [gI _ 0 (by decide)]; exact g21 _, by rw [gI _ 0 (by decide), gH _ 12 (by decide) (by decide) (by decide)]; exact a3, by rw [gI _ 0 (by decide), gH _ 13 (by decide) (by decide) (by decide)]; exact a4, by rw [hFr_1, hIr_at], by rw [hFr_at], HS9, ⟨fun j h1 h2 h3 h4 => by rw [gI _ 0 (by decide)]; exact fr _ j h1 h2 h3 h4, by rw [gI _ 0 (by decide)]; exact g15 _, by rw [gI _ 2 (by decide), gT _ 2 (by decide), a9 2 (by decide)]; exact b4, by rw [gI _ 29 (by decide), gT _ 29 (by decide), a9 29 (by decide)]; exact b5, by rw [gF _ 6 (by decide), a10 6 (by decide)]; exact b6⟩⟩
end
