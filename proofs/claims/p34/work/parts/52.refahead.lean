-- needs: 51
noncomputable section
/-- what looking ahead leaves alone: the rest is scratch -/
def FrB (h h' : AH) : Prop := (∀ j, j ≠ 0 → (j < 11 ∨ 13 < j) → h'.1 0 j = h.1 0 j) ∧ h'.1 2 = h.1 2 ∧ h'.1 29 = h.1 29 ∧ h'.2.1 6 = h.2.1 6
theorem FrB.rf {h : AH} : FrB h h := ⟨fun _ _ _ => rfl, rfl, rfl, rfl⟩
theorem FrB.tr {a b c : AH} (h1 : FrB a b) (h2 : FrB b c) : FrB a c := ⟨fun j x y => (h2.1 j x y).trans (h1.1 j x y), h2.2.1.trans h1.2.1, h2.2.2.1.trans h1.2.2.1, h2.2.2.2.trans h1.2.2.2⟩
theorem FrO.b {h h' : AH} (F : FrO h h') : FrB h h' := ⟨F.1, F.2.1 2 (by decide) (by decide) (by decide) (by decide), F.2.1 29 (by decide) (by decide) (by decide) (by decide), F.2.2.1 6 (by decide) (by decide) (by decide)⟩
def OqP (h h' : AH) (code re de : Int32) (r' : Nat → Int32) (w' : Nat → UInt32) (p : Bool) (K : Nat) : Prop :=
  h'.1 0 0 = code ∧ h'.1 0 12 = re ∧ h'.1 0 13 = de ∧ h'.1 1 = r' ∧ h'.2.1 5 = w' ∧ HNew p K h h' ∧ FrB h h'
theorem OpP.q {h h' : AH} {code re de : Int32} {r' : Nat → Int32} {w' : Nat → UInt32} {p : Bool} {K : Nat} (H : OpP h h' code re de r' w' p K) : OqP h h' code re de r' w' p K := ⟨H.1, H.2.1, H.2.2.1, H.2.2.2.1, H.2.2.2.2.1, H.2.2.2.2.2.1, H.2.2.2.2.2.2.b⟩
/-- the row and its copy while hours are looked at -/
def BgI (h g : AH) : Prop := (g.1 1 = h.1 1 ∧ g.2.1 5 = h.2.1 5 ∧ g.1 0 = h.1 0 ∧ HSame h g ∧ FrB h g) ∧ (∀ j, j < 445 → g.1 3 j = h.1 1 j) ∧ ∀ j, j < 40 → g.2.1 7 j = h.2.1 5 j
def bgH (h : AH) : AH := hFr (hIr h 3 (mapI (h.1 1) 445 (h.1 3))) 7 (mapF (h.2.1 5) 40 (h.2.1 7))
def edH (g : AH) : AH := hFr (hIr g 1 (mapI (g.1 3) 445 (g.1 1))) 5 (mapF (g.2.1 7) 40 (g.2.1 5))
theorem BgI.bg {h : AH} : BgI h (bgH h) := by
  unfold bgH
  refine ⟨⟨by rw [hFr_1, hIr_ne (by decide)], hFr_ne _ _ (by decide), by rw [hFr_1, hIr_ne (by decide)], ⟨by rw [hFr_1, hIr_ne (by decide)], fun i hi => ⟨by rw [hFr_1, hIr_ne (by omega)], hFr_ne _ _ (by omega)⟩⟩, ⟨fun j a b => by rw [hFr_1, hIr_ne (by decide)], by rw [hFr_1, hIr_ne (by decide)], by rw [hFr_1, hIr_ne (by decide)], hFr_ne _ _ (by decide)⟩⟩, fun j hj => by rw [hFr_1, hIr_at, mapI_lt hj], fun j hj => by rw [hFr_at, mapF_lt hj]⟩
theorem BgI.ed {h g : AH} (H : BgI h g) (z1 : Z9 (h.1 1)) (z2 : ZW (h.2.1 5)) {r' sh : Nat → Int32} {w' ld : Nat → UInt32} (z3 : Z9 r') (z4 : ZW w') : BgI h (edH (hX g r' w' ld sh)) := by
  obtain ⟨⟨a1, a2, a3, a4, a5⟩, a6, a7⟩ := H
  have e3 : (hX g r' w' ld sh).1 3 = g.1 3 := hX_n (by decide) (by decide)
  have e7 : (hX g r' w' ld sh).2.1 7 = g.2.1 7 := hX_m (by decide) (by decide)
  unfold edH
  rw [e3, e7, hX_1, hX_5]
  have F : FrB g (hFr (hIr (hX g r' w' ld sh) 1 (mapI (g.1 3) 445 r')) 5 (mapF (g.2.1 7) 40 w')) := ⟨fun j a b => by rw [hFr_1, hIr_ne (by decide), hX_n (by decide) (by decide)], by rw [hFr_1, hIr_ne (by decide), hX_n (by decide) (by decide)], by rw [hFr_1, hIr_ne (by decide), hX_n (by decide) (by decide)], (hFr_ne _ _ (by decide)).trans (hX_m (r := r') (sh := sh) (by decide) (by decide))⟩
  refine ⟨⟨by rw [hFr_1, hIr_at]; exact cpI1 a6 z1 z3, by rw [hFr_at]; exact cpF1 a7 z2 z4, by rw [hFr_1, hIr_ne (by decide), hX_n (by decide) (by decide)]; exact a3, a4.tr ⟨by rw [hFr_1, hIr_ne (by decide), hX_n (by decide) (by decide)], fun i hi => ⟨by rw [hFr_1, hIr_ne (by omega), hX_n (by omega) (by omega)], (hFr_ne _ _ (by omega)).trans (hX_m (r := r') (sh := sh) (by omega) (by omega))⟩⟩, a5.tr F⟩, fun j hj => ?_, fun j hj => ?_⟩
  · rw [hFr_1, hIr_ne (by decide), e3]; exact a6 j hj
  · exact (congrFun ((hFr_ne _ _ (by decide)).trans e7) j).trans (a7 j hj)
theorem BgI.at {h g : AH} (H : BgI h g) {code : Int32} {K : Nat} : OqP h (hI g 0 0 code) code (h.1 0 12) (h.1 0 13) (h.1 1) (h.2.1 5) false K := by
  obtain ⟨⟨a1, a2, a3, a4, a5⟩, a6, a7⟩ := H
  exact ⟨by rw [hI_at, upd_eq], by rw [hI_at, upd_ne (by decide), a3], by rw [hI_at, upd_ne (by decide), a3], by rw [hI_ne (by decide)]; exact a1, a2, a4.tr (HSame.hI0 (by decide)), a5.tr (FrO.hI0 (Or.inl rfl)).b⟩
theorem BgI.at0 {h g : AH} {x : Int32} (H : BgI (hI h 0 0 x) g) {K : Nat} : OqP h g x (h.1 0 12) (h.1 0 13) (h.1 1) (h.2.1 5) false K := by
  obtain ⟨⟨a1, a2, a3, a4, a5⟩, a6, a7⟩ := H
  refine ⟨by rw [a3, hI_at, upd_eq], by rw [a3, hI_at, upd_ne (by decide)], by rw [a3, hI_at, upd_ne (by decide)], by rw [a1, hI_ne (by decide)], a2, (HSame.hI0 (by decide)).tr a4, (FrO.hI0 (Or.inl rfl)).b.tr a5⟩
theorem hX_same {g : AH} {r : Nat → Int32} {w : Nat → UInt32} (e1 : g.1 1 = r) (e2 : g.2.1 5 = w) : hX g r w (g.2.1 27) (g.1 28) = g := by
  rw [← e1, ← e2]
  exact hX_self
def leftC (n : Int32) : Int32 := if 0 ≤ n ∧ n ≤ 48 then 0 else 1
def mbC (r : Nat → Int32) (x n : Int32) : Int32 := if ¬ (0 ≤ x ∧ x ≤ r 4 - 1) then 1 else if 0 ≤ n ∧ n ≤ 48 then 0 else 2
def mbA (r : Nat → Int32) (w : Nat → UInt32) (b n : Nat) : Int32 := if ofB (hoursR n r w) b 2 = 2 then -1 else (hoursW n r w b).toInt32
/-- the first hour after which a block is gone from the wall, 97: none -/
def gnP (r : Nat → Int32) (w : Nat → UInt32) (i : Nat) : Bool := decide (onN (hoursR i r w) ≠ onN r)
abbrev gnK (r : Nat → Int32) (w : Nat → UInt32) : Nat := fstP (gnP r w) 97 97 0
def gnC (r : Nat → Int32) (w : Nat → UInt32) : Int32 := if gnK r w < 97 then 0 else 1
end
