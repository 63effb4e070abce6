noncomputable section
/-- which of two texts the start names first -/
def nbB (i j : Nat) : Bool := if i = 12 then !(Nat.beq j 12) else (Nat.blt i j && !(Nat.beq j 12))
theorem nb_or : ∀ i, i < 13 → ∀ j, j < 13 → i ≠ j → nbB i j = true ∨ nbB j i = true := by decide
set_option maxRecDepth 100000 in
theorem xn_0 : ∀ j, j < 13 → nbB 0 j = true → Cond.not (Cond.eq (tmK 0) (tmK j)) ∈ flatC (Jvm.Cond.and given_1 narrow_1) := by decide +kernel
set_option maxRecDepth 100000 in
theorem xn_1 : ∀ j, j < 13 → nbB 1 j = true → Cond.not (Cond.eq (tmK 1) (tmK j)) ∈ flatC (Jvm.Cond.and given_1 narrow_1) := by decide +kernel
set_option maxRecDepth 100000 in
theorem xn_2 : ∀ j, j < 13 → nbB 2 j = true → Cond.not (Cond.eq (tmK 2) (tmK j)) ∈ flatC (Jvm.Cond.and given_1 narrow_1) := by decide +kernel
set_option maxRecDepth 100000 in
theorem xn_3 : ∀ j, j < 13 → nbB 3 j = true → Cond.not (Cond.eq (tmK 3) (tmK j)) ∈ flatC (Jvm.Cond.and given_1 narrow_1) := by decide +kernel
set_option maxRecDepth 100000 in
theorem xn_4 : ∀ j, j < 13 → nbB 4 j = true → Cond.not (Cond.eq (tmK 4) (tmK j)) ∈ flatC (Jvm.Cond.and given_1 narrow_1) := by decide +kernel
set_option maxRecDepth 100000 in
theorem xn_5 : ∀ j, j < 13 → nbB 5 j = true → Cond.not (Cond.eq (tmK 5) (tmK j)) ∈ flatC (Jvm.Cond.and given_1 narrow_1) := by decide +kernel
set_option maxRecDepth 100000 in
theorem xn_6 : ∀ j, j < 13 → nbB 6 j = true → Cond.not (Cond.eq (tmK 6) (tmK j)) ∈ flatC (Jvm.Cond.and given_1 narrow_1) := by decide +kernel
set_option maxRecDepth 100000 in
theorem xn_7 : ∀ j, j < 13 → nbB 7 j = true → Cond.not (Cond.eq (tmK 7) (tmK j)) ∈ flatC (Jvm.Cond.and given_1 narrow_1) := by decide +kernel
set_option maxRecDepth 100000 in
theorem xn_8 : ∀ j, j < 13 → nbB 8 j = true → Cond.not (Cond.eq (tmK 8) (tmK j)) ∈ flatC (Jvm.Cond.and given_1 narrow_1) := by decide +kernel
set_option maxRecDepth 100000 in
theorem xn_9 : ∀ j, j < 13 → nbB 9 j = true → Cond.not (Cond.eq (tmK 9) (tmK j)) ∈ flatC (Jvm.Cond.and given_1 narrow_1) := by decide +kernel
set_option maxRecDepth 100000 in
theorem xn_10 : ∀ j, j < 13 → nbB 10 j = true → Cond.not (Cond.eq (tmK 10) (tmK j)) ∈ flatC (Jvm.Cond.and given_1 narrow_1) := by decide +kernel
set_option maxRecDepth 100000 in
theorem xn_12 : ∀ j, j < 13 → nbB 12 j = true → Cond.not (Cond.eq (tmK 12) (tmK j)) ∈ flatC (Jvm.Cond.and given_1 narrow_1) := by decide +kernel
theorem xn : ∀ i, i < 13 → ∀ j, j < 13 → nbB i j = true → Cond.not (Cond.eq (tmK i) (tmK j)) ∈ flatC (Jvm.Cond.and given_1 narrow_1)
  | 0, _ => xn_0
  | 1, _ => xn_1
  | 2, _ => xn_2
  | 3, _ => xn_3
  | 4, _ => xn_4
  | 5, _ => xn_5
  | 6, _ => xn_6
  | 7, _ => xn_7
  | 8, _ => xn_8
  | 9, _ => xn_9
  | 10, _ => xn_10
  | 11, _ => fun j hj h => absurd h (by revert j; decide)
  | 12, _ => xn_12
  | n + 13, h => absurd h (by omega)
theorem x_ne (i : Nat) (hi : i < 13) (j : Nat) (hj : j < 13) (h : i ≠ j) : Cond.not (Cond.eq (tmK i) (tmK j)) ∈ flatC (Jvm.Cond.and given_1 narrow_1) ∨ Cond.not (Cond.eq (tmK j) (tmK i)) ∈ flatC (Jvm.Cond.and given_1 narrow_1) := (nb_or i hi j hj h).elim (fun z => Or.inl (xn i hi j hj z)) (fun z => Or.inr (xn j hj i hi z))
end
