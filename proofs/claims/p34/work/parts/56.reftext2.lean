-- needs: 55
noncomputable section
/-- a reader's step leaves also what was told -/
def FrN (h h' : AH) : Prop := FrT h h' ∧ h'.1 30 = h.1 30 ∧ h'.1 0 23 = h.1 0 23
theorem FrN.rf {h : AH} : FrN h h := ⟨FrT.rf, rfl, rfl⟩
theorem FrN.tr {a b c : AH} (h1 : FrN a b) (h2 : FrN b c) : FrN a c := ⟨h1.1.tr h2.1, h2.2.1.trans h1.2.1, h2.2.2.trans h1.2.2⟩
theorem FrN.hI0 {h : AH} {i : Nat} {x : Int32} (hi : i = 20 ∨ i = 22) : FrN h (hI h 0 i x) := ⟨FrT.hI0 (by omega), hI_ne (by decide), by rw [hI_at, upd_ne (by omega)]⟩
theorem mustS_t {I : Nat → Int32} {L : Nat} {s : TS} {c : Int32} (h : seeB I L s c c = true) : mustS I L s c = (s.1 + 1, false) := if_pos h
theorem mustS_f {I : Nat → Int32} {L : Nat} {s : TS} {c : Int32} (h : ¬ seeB I L s c c = true) : mustS I L s c = (s.1, true) := if_neg h
theorem seeB_w {I : Nat → Int32} {L : Nat} {s : TS} {a b : Int32} (h : seeB I L s a b = true) : s.2 = false ∧ s.1 < L ∧ a ≤ I s.1 ∧ I s.1 ≤ b := by
  unfold seeB at h
  rw [Bool.and_eq_true, Bool.and_eq_true] at h
  exact ⟨by cases q : s.2 with | true => rw [q] at h; exact absurd h.1.1 (by decide) | false => rfl, of_decide_eq_true h.1.2, of_decide_eq_true h.2⟩
end
