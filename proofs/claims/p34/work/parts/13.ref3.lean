-- needs: 12
noncomputable section
/-- the first k from a on, below n, with p; n if there is none -/
def fstP (p : Nat → Bool) (n : Nat) : Nat → Nat → Nat
  | 0, _ => n
  | m + 1, k => if p k = true then k else fstP p n m (k + 1)
theorem fstP_t {p : Nat → Bool} {n m k : Nat} (h : p k = true) : fstP p n (m + 1) k = k := if_pos h
theorem fstP_f {p : Nat → Bool} {n m k : Nat} (h : ¬ p k = true) : fstP p n (m + 1) k = fstP p n m (k + 1) := if_neg h
/-- a place's block, as the row tells it -/
def inP (r : Nat → Int32) (rack : Int32) (pl : Int32) : Nat → Bool := fun k => decide (ofB r k 2 = 0 ∧ ofB r k 0 = rack ∧ ofB r k 6 = pl)
/-- k's number, or -1 at n -/
def orM (k n : Nat) : Int32 := if k < n then nI k else -1
theorem orM_t {k n : Nat} (h : k < n) : orM k n = nI k := if_pos h
theorem orM_n {n : Nat} : orM n n = -1 := if_neg (Nat.lt_irrefl n)
theorem fstP_le {p : Nat → Bool} {n : Nat} : ∀ (m k : Nat), k + m = n → fstP p n m k ≤ n ∧ k ≤ fstP p n m k
  | 0, k, h => ⟨Nat.le_refl _, by show k ≤ n; omega⟩
  | m + 1, k, h => by
    unfold fstP
    split
    · exact ⟨by omega, Nat.le_refl _⟩
    · have := fstP_le (p := p) (n := n) m (k + 1) (by omega)
      exact ⟨this.1, by omega⟩
abbrev blkIn (r : Nat → Int32) (rack pl : Int32) : Nat := fstP (inP r rack pl) (CN r) (CN r) 0
theorem orM_neg {k n : Nat} (hn : n ≤ 40) : orM k n < 0 ↔ ¬ k < n := by
  unfold orM
  split
  · next h => exact ⟨fun q => absurd q (nI_pos (by omega)), fun q => absurd h q⟩
  · next h => exact ⟨fun _ => h, fun _ => by decide⟩
/-- the lowest free place of a rack, 5 if it is full -/
abbrev frP (r : Nat → Int32) (rack : Int32) : Nat → Bool := fun p => decide (¬ blkIn r rack (nI p) < CN r)
abbrev freeP (r : Nat → Int32) (rack : Int32) : Nat := fstP (frP r rack) 5 5 0
theorem nI_mod {c : Nat} (hc : 0 < c) : nI c - 1 = nI (c - 1) := pk_sub (b := 1) hc
theorem nn_of {x : UInt32} (h : x.toNat < 2139095040) : nn x := f_nn (Nat.le_of_lt h)
end
