-- needs: 41
noncomputable section
/-- the cells that a change of the reference leaves alone -/
def FrO (h h' : AH) : Prop := (∀ j, j ≠ 0 → (j < 11 ∨ 13 < j) → h'.1 0 j = h.1 0 j) ∧ (∀ a, a ≠ 0 → a ≠ 1 → a ≠ 28 → (a < 10 ∨ 17 < a) → h'.1 a = h.1 a) ∧ (∀ a, a ≠ 5 → a ≠ 27 → (a < 19 ∨ 26 < a) → h'.2.1 a = h.2.1 a) ∧ h'.2.2 = h.2.2
theorem FrO.rf {h : AH} : FrO h h := ⟨fun _ _ _ => rfl, fun _ _ _ _ _ => rfl, fun _ _ _ _ => rfl, rfl⟩
theorem FrO.tr {a b c : AH} (h1 : FrO a b) (h2 : FrO b c) : FrO a c := ⟨fun j x y => (h2.1 j x y).trans (h1.1 j x y), fun k x y z u => (h2.2.1 k x y z u).trans (h1.2.1 k x y z u), fun k x y z => (h2.2.2.1 k x y z).trans (h1.2.2.1 k x y z), h2.2.2.2.trans h1.2.2.2⟩
theorem FrK.o {h h' : AH} (F : FrK h h') : FrO h h' := ⟨fun j _ y => F.1 j (by omega), fun a x _ _ u => F.2.1 a x u, fun a _ _ u => F.2.2.1 a u, F.2.2.2⟩
theorem FrO.hI0 {h : AH} {i : Nat} {x : Int32} (hi : i = 0 ∨ 11 ≤ i ∧ i ≤ 13) : FrO h (hI h 0 i x) := ⟨fun j a b => by rw [hI_at, upd_ne (by omega)], fun a x _ _ _ => hI_ne x, fun _ _ _ _ => rfl, rfl⟩
theorem FrO.setR {h : AH} {r : Nat → Int32} {w : Nat → UInt32} : FrO h (setR h r w) := ⟨fun j _ _ => by rw [setR_n _ _ _ (by decide)], fun a _ x _ _ => setR_n _ _ _ x, fun a x _ _ => setR_m _ _ _ x, rfl⟩
theorem FrO.hX {h : AH} {r sh : Nat → Int32} {w ld : Nat → UInt32} : FrO h (hX h r w ld sh) := ⟨fun j _ _ => by rw [hX_n (by decide) (by decide)], fun a _ x y _ => hX_n x y, fun a x y _ => hX_m x y, rfl⟩
/-- the history as it was; with the row and the masses put at its end -/
def HSame (h h' : AH) : Prop := h'.1 0 11 = h.1 0 11 ∧ ∀ i, i < 8 → h'.1 (10 + i) = h.1 (10 + i) ∧ h'.2.1 (19 + i) = h.2.1 (19 + i)
def HPush (K a fa : Nat) (h h' : AH) : Prop := h'.1 0 11 = nI (min (K + 1) 8) ∧ (∀ i, i < min K 7 → HRow h' i h (10 + (if K = 8 then i + 1 else i)) (19 + (if K = 8 then i + 1 else i))) ∧ HRow h' (min K 7) h a fa
def HNew (p : Bool) (K : Nat) (h h' : AH) : Prop := if p = true then HPush K 1 5 h h' else HSame h h'
theorem HSame.rf {h : AH} : HSame h h := ⟨rfl, fun _ _ => ⟨rfl, rfl⟩⟩
theorem HSame.tr {a b c : AH} (h1 : HSame a b) (h2 : HSame b c) : HSame a c := ⟨h2.1.trans h1.1, fun i hi => ⟨(h2.2 i hi).1.trans (h1.2 i hi).1, (h2.2 i hi).2.trans (h1.2 i hi).2⟩⟩
theorem HRow.to {h h' h2 : AH} {i a fa : Nat} (hi : i < 8) (H : HRow h' i h a fa) (S : HSame h' h2) : HRow h2 i h a fa := ⟨fun j hj => by rw [(S.2 i hi).1]; exact H.1 j hj, fun j hj => by rw [(S.2 i hi).2]; exact H.2 j hj⟩
theorem HPush.to {h h' h2 : AH} {K a fa : Nat} (H : HPush K a fa h h') (S : HSame h' h2) : HPush K a fa h h2 := ⟨S.1.trans H.1, fun i hi => (H.2.1 i hi).to (by omega) S, H.2.2.to (by omega) S⟩
theorem HPush.from {h0 h h' : AH} {K a fa : Nat} (ha : h.1 a = h0.1 a) (hf : h.2.1 fa = h0.2.1 fa) (H : HPush K a fa h h') (S : HSame h0 h) (hK : K ≤ 8) : HPush K a fa h0 h' := by
  refine ⟨H.1, fun i hi => ?_, ?_⟩
  · obtain ⟨a1, a2⟩ := H.2.1 i hi
    have hi2 : (if K = 8 then i + 1 else i) < 8 := by split <;> omega
    exact ⟨fun j hj => by rw [a1 j hj, (S.2 _ hi2).1], fun j hj => by rw [a2 j hj, (S.2 _ hi2).2]⟩
  · exact ⟨fun j hj => by rw [H.2.2.1 j hj, ha], fun j hj => by rw [H.2.2.2 j hj, hf]⟩
theorem HNew.to {h h' h2 : AH} {p : Bool} {K : Nat} (H : HNew p K h h') (S : HSame h' h2) : HNew p K h h2 := by
  unfold HNew at H ⊢
  cases p
  · exact HSame.tr H S
  · exact HPush.to H S
theorem HNew.from {h0 h h' : AH} {p : Bool} {K : Nat} (ha : h.1 1 = h0.1 1) (hf : h.2.1 5 = h0.2.1 5) (H : HNew p K h h') (S : HSame h0 h) (hK : K ≤ 8) : HNew p K h0 h' := by
  unfold HNew at H ⊢
  cases p
  · exact HSame.tr S H
  · exact HPush.from ha hf H S hK
theorem HSame.hI0 {h : AH} {i : Nat} {x : Int32} (hi : i ≠ 11) : HSame h (hI h 0 i x) := ⟨by rw [hI_at, upd_ne (Ne.symm hi)], fun j hj => ⟨hI_ne (by omega), rfl⟩⟩
theorem HSame.setR {h : AH} {r : Nat → Int32} {w : Nat → UInt32} : HSame h (setR h r w) := ⟨by rw [setR_n _ _ _ (by decide)], fun j hj => ⟨setR_n _ _ _ (by omega), setR_m _ _ _ (by omega)⟩⟩
theorem HSame.hX {h : AH} {r sh : Nat → Int32} {w ld : Nat → UInt32} : HSame h (hX h r w ld sh) := ⟨by rw [hX_n (by decide) (by decide)], fun j hj => ⟨hX_n (by omega) (by omega), hX_m (by omega) (by omega)⟩⟩
/-- what a change of the reference leaves: what it throws, reason and detail, row and masses, the history -/
def OpP (h h' : AH) (code re de : Int32) (r' : Nat → Int32) (w' : Nat → UInt32) (p : Bool) (K : Nat) : Prop :=
  h'.1 0 0 = code ∧ h'.1 0 12 = re ∧ h'.1 0 13 = de ∧ h'.1 1 = r' ∧ h'.2.1 5 = w' ∧ HNew p K h h' ∧ FrO h h'
/-- the flag that a text is carried out -/
def inT (h : AH) : Bool := decide (h.1 0 15 ≠ 0)
theorem bI1 : (1 : Int32) = bI True := rfl
theorem bI0 : (0 : Int32) = bI False := rfl
theorem hI_2 {h : AH} {k i : Nat} {x y : Int32} : hI (hI h k i x) k i y = hI h k i y := by
  refine Prod.ext ?_ rfl
  funext a j
  by_cases e : a = k ∧ j = i <;> simp [hI, e]
/-- what stands behind the checks: thrown is put, the rest is as it was -/
theorem OpP_0 {h h0 h' : AH} {code re de : Int32} {r' : Nat → Int32} {w' : Nat → UInt32} {p : Bool} {K : Nat} {x : Int32} (hK : K ≤ 8) (e : h0 = hI h 0 0 x) (H : OpP h0 h' code re de r' w' p K) : OpP h h' code re de r' w' p K := by
  obtain ⟨a1, a2, a3, a4, a5, a6, a7⟩ := H
  refine ⟨a1, a2, a3, a4, a5, a6.from (by rw [e]; exact hI_ne (by decide)) (by rw [e]; rfl) (by rw [e]; exact HSame.hI0 (by decide)) hK, ?_⟩
  rw [e] at a7
  exact (FrO.hI0 (Or.inl rfl)).tr a7
theorem OpP_x {h : AH} {code : Int32} {K : Nat} : OpP h (hI h 0 0 code) code (h.1 0 12) (h.1 0 13) (h.1 1) (h.2.1 5) false K :=
  ⟨by rw [hI_at, upd_eq], by rw [hI_at, upd_ne (by decide)], by rw [hI_at, upd_ne (by decide)], hI_ne (by decide), rfl, HSame.hI0 (by decide), FrO.hI0 (Or.inl rfl)⟩
theorem OpP_set {h h' : AH} {code re de : Int32} {r : Nat → Int32} {w : Nat → UInt32} {p : Bool} {K : Nat} {r' : Nat → Int32} {w' : Nat → UInt32} (H : OpP h h' code re de r w p K) : OpP h (setR h' r' w') code re de r' w' p K := by
  obtain ⟨a1, a2, a3, a4, a5, a6, a7⟩ := H
  exact ⟨by rw [setR_n _ _ _ (by decide)]; exact a1, by rw [setR_n _ _ _ (by decide)]; exact a2, by rw [setR_n _ _ _ (by decide)]; exact a3, setR_1 _ _ _, setR_5 _ _ _, a6.to HSame.setR, a7.tr FrO.setR⟩
theorem OpP_hX {h h' : AH} {code re de : Int32} {r : Nat → Int32} {w : Nat → UInt32} {p : Bool} {K : Nat} {r' sh : Nat → Int32} {w' ld : Nat → UInt32} (H : OpP h h' code re de r w p K) : OpP h (hX h' r' w' ld sh) code re de r' w' p K := by
  obtain ⟨a1, a2, a3, a4, a5, a6, a7⟩ := H
  exact ⟨by rw [hX_n (by decide) (by decide)]; exact a1, by rw [hX_n (by decide) (by decide)]; exact a2, by rw [hX_n (by decide) (by decide)]; exact a3, hX_1, hX_5, a6.to HSame.hX, a7.tr FrO.hX⟩
def heatC (hr te : Int32) : Int32 := if ¬ (0 ≤ hr ∧ hr ≤ 23) then 1 else if ¬ (-30 ≤ te ∧ te ≤ 20) then 2 else 0
def heatR (r : Nat → Int32) (hr te : Int32) : Nat → Int32 := if heatC hr te = 0 then upd r (5 + hr.toNatClampNeg) te else r
def visitC (v : Int32) : Int32 := if ¬ (0 ≤ v ∧ v ≤ 50) then 1 else 0
def visitR (r : Nat → Int32) (v : Int32) : Nat → Int32 := if visitC v = 0 then upd r 3 v else r
end
