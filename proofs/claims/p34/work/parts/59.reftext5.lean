-- needs: 58
noncomputable section
theorem numL_le {I : Nat → Int32} {L : Nat} : ∀ (n v a : Nat), a ≤ (numL I L n v a).2
  | 0, v, a => Nat.le_refl _
  | n + 1, v, a => by
    unfold numL
    split
    · exact Nat.le_trans (by omega) (numL_le n _ (a + 1))
    · exact Nat.le_refl _
theorem numS_le {I : Nat → Int32} {L n : Nat} {s : TS} : s.1 ≤ (numS I L n s).2.1 := by
  unfold numS
  split
  · exact numL_le _ _ _
  · exact Nat.le_refl _
theorem mustS_le {I : Nat → Int32} {L : Nat} {s : TS} {c : Int32} : s.1 ≤ (mustS I L s c).1 := by
  unfold mustS
  split
  · exact Nat.le_succ _
  · exact Nat.le_refl _
theorem mustS_ub {I : Nat → Int32} {L : Nat} {s : TS} {c : Int32} : (mustS I L s c).1 ≤ s.1 + 1 := by
  unfold mustS
  split
  · exact Nat.le_refl _
  · exact Nat.le_succ _
theorem negS_le {I : Nat → Int32} {L : Nat} {s : TS} : s.1 ≤ (negS I L s).1 := Nat.le_add_right _ _
theorem ordK_le {I : Nat → Int32} {L : Nat} {s : TS} {o : Int32} : s.1 ≤ (ordK I L s o).1.1 := by
  unfold ordK
  split
  · exact Nat.le_trans numS_le (Nat.le_trans numS_le (Nat.le_trans mustS_le numS_le))
  · split
    · exact Nat.le_trans numS_le (Nat.le_trans mustS_le (Nat.le_trans numS_le (Nat.le_trans mustS_le numS_le)))
    · split
      · exact Nat.le_trans numS_le (Nat.le_trans mustS_le (Nat.le_trans negS_le numS_le))
      · exact numS_le
theorem rdOrd_le {I : Nat → Int32} {L : Nat} {s : TS} : s.1 ≤ (rdOrd I L s).1.1 ∧ ((rdOrd I L s).1.2 = false → s.1 + 1 ≤ (rdOrd I L s).1.1) := by
  unfold rdOrd
  split
  · have : s.1 + 1 ≤ (ordK I L (s.1 + 1, false) (I s.1)).1.1 := ordK_le (s := (s.1 + 1, false))
    exact ⟨Nat.le_trans (Nat.le_succ _) this, fun _ => this⟩
  · exact ⟨Nat.le_refl _, fun q => absurd (show true = false from q) (by decide)⟩
/-- the places before the orders of a text -/
def oS (I : Nat → Int32) (L : Nat) : Nat → TS
  | 0 => (0, false)
  | i + 1 => mustS I L (rdOrd I L (oS I L i)).1 59
abbrev rdI (I : Nat → Int32) (L i : Nat) : TS × Int32 × Int32 × Int32 × Int32 := rdOrd I L (oS I L i)
def stP9 (I : Nat → Int32) (L i : Nat) : Bool := (rdI I L i).1.2 || decide (L ≤ (rdI I L i).1.1)
abbrev oN0 (I : Nat → Int32) (L : Nat) : Nat := fstP (stP9 I L) 61 61 0
theorem stP9_f {I : Nat → Int32} {L i : Nat} (h : ¬ stP9 I L i = true) : (rdI I L i).1.2 = false ∧ (rdI I L i).1.1 < L := by
  unfold stP9 at h
  rw [Bool.or_eq_true] at h
  refine ⟨Bool.eq_false_iff.mpr (fun q => h (Or.inl q)), ?_⟩
  by_cases q : (rdI I L i).1.1 < L
  · exact q
  · exact absurd (Or.inr (decide_eq_true (by omega))) h
end
