-- needs: 45
noncomputable section
/-- filled cells, and the room that begins at a cell -/
def fF (r : Nat → Int32) (c j : Nat) : Bool := decide (c < 8 ∧ 0 ≤ gAt r c j)
def rmP (r : Nat → Int32) (c k : Nat) : Bool := !(!fF r c k && fF r (c + 1) k)
abbrev rmK (r : Nat → Int32) (c j : Nat) : Nat := fstP (rmP r c) 12 (12 - j) j
def roomN (r : Nat → Int32) (c j : Nat) : Nat := if j ≠ 0 ∧ fF r c (j - 1) = true ∧ rmK r c j < 12 ∧ fF r c (rmK r c j) = true then rmK r c j - j else 0
/-- how many rooms, the widest, and where it begins -/
def rmS (r : Nat → Int32) (c k : Nat) (s : Nat × Nat × Int32) : Nat × Nat × Int32 := (s.1 + (if 0 < roomN r c k then 1 else 0), if s.2.1 < roomN r c k then roomN r c k else s.2.1, if s.2.1 < roomN r c k then nI k else s.2.2)
abbrev rmI (r : Nat → Int32) (c n : Nat) : Nat × Nat × Int32 := iterN (rmS r c) n (0, 0, -1)
theorem roomN_le {r : Nat → Int32} {c j : Nat} : roomN r c j ≤ 12 := by unfold roomN; split <;> omega
theorem rmI_le {r : Nat → Int32} {c : Nat} : ∀ n, (rmI r c n).2.1 ≤ 12
  | 0 => Nat.zero_le 12
  | n + 1 => by
    show (rmS r c n (rmI r c n)).2.1 ≤ 12
    unfold rmS
    have := rmI_le (r := r) (c := c) n
    have := roomN_le (r := r) (c := c) (j := n)
    dsimp
    split <;> assumption
def roomsA (r : Nat → Int32) (c : Nat) (q : Int32) : Int32 := if q = 0 then nI (rmI r c 12).1 else if q = 1 then nI (rmI r c 12).2.1 else (rmI r c 12).2.2
def roomsC (z q : Int32) : Int32 := if ¬ (0 ≤ z ∧ z ≤ 7) then 1 else if 0 ≤ q ∧ q ≤ 2 then 0 else 2
def inRackC (p y : Int32) : Int32 := if (0 ≤ p ∧ p ≤ 1) ∧ (0 ≤ y ∧ y ≤ 4) then 0 else 1
end
