-- needs: 15
noncomputable section
/-- the load by the blocks above: nothing stands above course 7 -/
theorem onB_CU {r : Nat → Int32} {k b : Nat} (hk : PlOk r k) (hb : PlOk r b) (e : ofB r k 4 = ofB r b 4 + 1) : CU r k = CU r b + 1 := by
  rw [hb.2.2.1, nI_1] at e
  exact CU_nI hk (by have := hb.2.2.2.1; omega) e
/-- how high a column is, by its first n courses -/
def hgtN (r : Nat → Int32) (j : Nat) : Nat → Nat
  | 0 => 0
  | n + 1 => if 0 ≤ gAt r n j then n + 1 else hgtN r j n
theorem hgtN_le (r : Nat → Int32) (j : Nat) : ∀ n, hgtN r j n ≤ n
  | 0 => Nat.le_refl _
  | n + 1 => by
    unfold hgtN
    split
    · exact Nat.le_refl _
    · exact Nat.le_succ_of_le (hgtN_le r j n)
/-- some k below n has p -/
def anyB (p : Nat → Bool) : Nat → Bool
  | 0 => false
  | n + 1 => p n || anyB p n
theorem anyB_iff {p : Nat → Bool} {n : Nat} : anyB p n = true ↔ ∃ k, k < n ∧ p k = true := by
  induction n with
  | zero => exact ⟨fun h => (Bool.false_ne_true h).elim, fun ⟨k, h, _⟩ => absurd h (Nat.not_lt_zero k)⟩
  | succ n ih =>
    unfold anyB
    rw [Bool.or_eq_true, ih]
    constructor
    · rintro (h | ⟨k, h1, h2⟩)
      · exact ⟨n, Nat.lt_succ_self n, h⟩
      · exact ⟨k, by omega, h2⟩
    · rintro ⟨k, h1, h2⟩
      by_cases hk : k = n
      · subst hk; exact Or.inl h2
      · exact Or.inr ⟨k, by omega, h2⟩
/-- a shadow from the left, from the right, at a distance -/
def shL (r : Nat → Int32) (b : Nat) : Nat → Bool := fun k => decide (0 < k ∧ k ≤ CO r b ∧ CU r b + k + 1 ≤ hgtN r (CO r b - k) 8)
def shR (r : Nat → Int32) (b : Nat) : Nat → Bool := fun k => decide (0 < k ∧ CO r b + LN r b - 1 + k ≤ 11 ∧ CU r b + k + 1 ≤ hgtN r (CO r b + LN r b - 1 + k) 8)
def shadR (r : Nat → Int32) (b : Nat) (hr : Int32) : Bool := if 6 ≤ hr ∧ hr ≤ 17 then (if hr < 12 then anyB (shL r b) 12 else anyB (shR r b) 12) else true
theorem bIb (x : Bool) : bI (x = true) = if x then 1 else 0 := by cases x <;> rfl
theorem or_t (x : Bool) : bI (x = true) ||| 1 = 1 := by cases x <;> decide
theorem or_f (x : Bool) : bI (x = true) ||| 0 = bI (x = true) := by cases x <;> decide
theorem anyB_t {p : Nat → Bool} {k : Nat} (h : p k = true) : bI (anyB p k = true) ||| 1 = bI (anyB p (k + 1) = true) := by
  rw [or_t]
  exact (bI_t (by unfold anyB; rw [h]; rfl)).symm
theorem anyB_f {p : Nat → Bool} {k : Nat} (h : ¬ p k = true) : bI (anyB p k = true) ||| 0 = bI (anyB p (k + 1) = true) := by
  rw [or_f]
  have e : anyB p (k + 1) = anyB p k := by
    show (p k || anyB p k) = _
    rw [Bool.eq_false_iff.mpr h]
    rfl
  rw [e]
theorem nI_sub {a b : Nat} (h : b ≤ a) : nI a - nI b = nI (a - b) := by
  obtain ⟨z, rfl⟩ := Nat.exists_eq_add_of_le h
  rw [← nI_add, Nat.add_sub_cancel_left, Int32.add_comm, Int32.add_sub_cancel]
theorem nI_sub_neg {a b : Nat} (h : a < b) (hb : b < 2 ^ 31) : nI a - nI b < 0 := by
  rw [Int32.lt_iff_toInt_lt, Int32.toInt_sub, nI_toInt (by omega), nI_toInt hb]
  show Int.bmod ((a : Int) - (b : Int)) (2 ^ 32) < 0
  simp only [Int.bmod]
  split <;> omega
end
