-- needs: 18
noncomputable section
def fallS (c k : Nat) (r : Nat → Int32) : Nat → Int32 := if (decide (ofB r k 2 = 1) && decide (ofB r k 4 = nI c) && decide (¬ LN r k ≤ 2 * supN r k)) = true then goesR r k 4 else r
def fallC (c n : Nat) (r : Nat → Int32) : Nat → Int32 := iterN (fallS c) n r
def fallI (i : Nat) (r : Nat → Int32) : Nat → Int32 := iterN (fun i r => fallC (i + 1) (CN r) r) i r
abbrev fallR (r : Nat → Int32) : Nat → Int32 := fallI 7 r
theorem fallC_WC {r0 r : Nat → Int32} {c : Nat} (h : WC r0 r) : ∀ n, n ≤ CN r0 → WC r0 (fallC c n r) :=
  iterN_inv (I := fun _ t => WC r0 t) h (fun k t hk ht => by
    unfold fallS
    split
    · exact ht.goes hk
    · exact ht)
theorem fallI_WC {r0 r : Nat → Int32} (h : WC r0 r) : ∀ i, i ≤ 7 → WC r0 (fallI i r) :=
  iterN_inv (I := fun _ t => WC r0 t) h (fun k t hk ht => fallC_WC ht _ (by rw [ht.2.1]; exact Nat.le_refl _))
/-- a block that bears less than its load -/
def ovP (r : Nat → Int32) (w : Nat → UInt32) : Nat → Bool := fun k => decide (ofB r k 2 = 1) && decide (0 < Op.cmpValue (FP.fcmp (LDw r w k) (bornR r w k)) .l)
abbrev ovN (r : Nat → Int32) (w : Nat → UInt32) : Nat := fstP (ovP r w) (CN r) (CN r) 0
/-- how many blocks have a state -/
abbrev cntS (r : Nat → Int32) (s : Int32) (n : Nat) : Nat := cntP (fun k => decide (ofB r k 2 = s)) n
end
