-- needs: 43
noncomputable section
/-- why a laying is refused -/
def filP (r : Nat → Int32) (c j : Nat) : Nat → Bool := fun i => decide (0 ≤ gAt r c (j + i))
abbrev filN (r : Nat → Int32) (c j L : Nat) : Nat := fstP (filP r c j) L L 0
def layQ (r : Nat → Int32) (b j c : Nat) : Int32 × Int32 := if ¬ ofB r b 2 = 0 then (6, nI b) else if 12 < j + LN r b then (7, nI (j + LN r b - 12)) else if filN r c j (LN r b) < LN r b then (8, gAt r c (j + filN r c j (LN r b))) else if 2 * cntP (supP r c j) (LN r b) < LN r b then (9, nI (cntP (supP r c j) (LN r b))) else (0, 0)
/-- a block's number, or none -/
theorem blk_or {r : Nat → Int32} (hw : Wel r) (x : Int32) : (∃ b, b < CN r ∧ x = nI b) ∨ ¬ (0 ≤ x ∧ x ≤ r 4 - 1) := by
  have h40 := hw.2.1
  by_cases q : 0 ≤ x ∧ x ≤ r 4 - 1
  · refine Or.inl ?_
    have e : r 4 - 1 = nI (CN r) - 1 := by rw [← hw.1]
    by_cases h0 : CN r = 0
    · exfalso
      rw [e, h0] at q
      exact absurd (Int32.le_trans q.1 q.2) (by decide)
    · obtain ⟨b, h1, h2⟩ := nI_of2 (x := x) (M := r 4 - 1) (n := CN r - 1) (by rw [e, nI_mod (by omega), nI_toInt (by omega)]) (Int32.not_lt.mpr q.1) q.2
      exact ⟨b, by omega, h2⟩
  · exact Or.inr q
theorem blk_in {r : Nat → Int32} (hw : Wel r) {b : Nat} (hb : b < CN r) : 0 ≤ nI b ∧ nI b ≤ r 4 - 1 := by
  have h40 := hw.2.1
  refine ⟨nI_pos' (by omega), ?_⟩
  have e : r 4 - 1 = nI (CN r) - 1 := by rw [← hw.1]
  rw [e, nI_mod (by omega)]
  exact nI_le (by omega) (by omega)
def layC (r : Nat → Int32) (x y z : Int32) : Int32 := if ¬ ((0 ≤ x ∧ x ≤ r 4 - 1) ∧ (0 ≤ y ∧ y ≤ 11) ∧ (0 ≤ z ∧ z ≤ 7)) then 1 else if (layQ r x.toNatClampNeg y.toNatClampNeg z.toNatClampNeg).1 = 0 then 0 else 2
def layR9 (r : Nat → Int32) (x y z : Int32) : Nat → Int32 := if layC r x y z = 0 then layR r x.toNatClampNeg y.toNatClampNeg z.toNatClampNeg else r
theorem upd_self {r : Nat → Int32} {i : Nat} {x : Int32} (h : x = r i) : upd r i x = r := by
  funext j
  unfold upd
  split
  · next e => rw [e, h]
  · rfl
theorem setB_5 {r : Nat → Int32} {b : Nat} {s co cu jt pl : Int32} : upd (upd (upd (upd (upd r (125 + 8 * b + 2) s) (125 + 8 * b + 3) co) (125 + 8 * b + 4) cu) (125 + 8 * b + 5) jt) (125 + 8 * b + 6) pl = setB r b s co cu jt pl (ofB r b 7) := by
  unfold setB
  refine (upd_self ?_).symm
  rw [upd_ne (by omega), upd_ne (by omega), upd_ne (by omega), upd_ne (by omega), upd_ne (by omega)]
def takeC (r : Nat → Int32) (x : Int32) : Int32 := if ¬ (0 ≤ x ∧ x ≤ r 4 - 1) then 1 else if ofB r x.toNatClampNeg 2 = 0 then 0 else 2
def takeR (r : Nat → Int32) (x : Int32) : Nat → Int32 := if takeC r x = 0 then goesR r x.toNatClampNeg 1 else r
end
