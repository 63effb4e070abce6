-- needs: 64
noncomputable section
/-- what reading a text leaves alone -/
def FrR (h h' : AH) : Prop := (∀ j, j ≠ 0 → (j < 11 ∨ 13 < j) → j ≠ 15 → (j < 19 ∨ 23 < j) → h'.1 0 j = h.1 0 j) ∧ h'.1 0 15 = 0 ∧ h'.1 2 = h.1 2 ∧ h'.1 29 = h.1 29 ∧ h'.2.1 6 = h.2.1 6
def RdP (h h' : AH) (code err re de : Int32) (r' : Nat → Int32) (w' : Nat → UInt32) (p : Bool) (K : Nat) : Prop :=
  h'.1 0 0 = code ∧ h'.1 0 19 = 0 ∧ h'.1 0 21 = err ∧ h'.1 0 12 = re ∧ h'.1 0 13 = de ∧ h'.1 1 = r' ∧ h'.2.1 5 = w' ∧ HNew p K h h' ∧ FrR h h'
theorem HPush.conv {h g h' : AH} {K : Nat} (H : HPush K 4 8 g h') (e1 : ∀ j, j < 445 → g.1 4 j = h.1 1 j) (e2 : ∀ j, j < 40 → g.2.1 8 j = h.2.1 5 j) (S : HSame h g) (hK : K ≤ 8) : HPush K 1 5 h h' := by
  refine ⟨H.1, fun i hi => ?_, ?_⟩
  · obtain ⟨a1, a2⟩ := H.2.1 i hi
    have hi2 : (if K = 8 then i + 1 else i) < 8 := by split <;> omega
    exact ⟨fun j hj => by rw [a1 j hj, (S.2 _ hi2).1], fun j hj => by rw [a2 j hj, (S.2 _ hi2).2]⟩
  · exact ⟨fun j hj => (H.2.2.1 j hj).trans (e1 j hj), fun j hj => (H.2.2.2 j hj).trans (e2 j hj)⟩
/-- the heap before the loop, beside the one before the call -/
def RdB (h g0 : AH) : Prop := HSame h g0 ∧ (∀ j, j ≠ 0 → (j < 11 ∨ 13 < j) → j ≠ 15 → (j < 20 ∨ 23 < j) → g0.1 0 j = h.1 0 j) ∧ g0.1 0 21 = -1 ∧ g0.1 2 = h.1 2 ∧ g0.1 29 = h.1 29 ∧ g0.2.1 6 = h.2.1 6 ∧ (∀ j, j < 445 → g0.1 4 j = h.1 1 j) ∧ ∀ j, j < 40 → g0.2.1 8 j = h.2.1 5 j
end
