-- needs: 09
noncomputable section
/-- the row's fields of a block; a place of the wall -/
abbrev ofB (r : Nat → Int32) (b x : Nat) : Int32 := r (125 + 8 * b + x)
abbrev gAt (r : Nat → Int32) (c j : Nat) : Int32 := r (29 + 12 * c + j)
/-- a condition as an int -/
def bI (P : Prop) [Decidable P] : Int32 := if P then 1 else 0
theorem bI_t {P : Prop} [Decidable P] (h : P) : bI P = 1 := if_pos h
theorem bI_f {P : Prop} [Decidable P] (h : ¬ P) : bI P = 0 := if_neg h
theorem bI_ne {P : Prop} [Decidable P] : bI P ≠ 0 ↔ P := by
  by_cases h : P
  · rw [bI_t h]; exact ⟨fun _ => h, fun _ => by decide⟩
  · rw [bI_f h]; exact ⟨fun q => absurd rfl q, fun q => absurd q h⟩
theorem bI_eq {P : Prop} [Decidable P] : bI P = 0 ↔ ¬ P := by
  by_cases h : P
  · rw [bI_t h]; exact ⟨fun q => absurd q (by decide), fun q => absurd h q⟩
  · rw [bI_f h]; exact ⟨fun _ => h, fun _ => rfl⟩
theorem kOk_bI {P : Prop} [Decidable P] : kOk 1 (bI P) = true := by
  by_cases h : P
  · rw [bI_t h]; rfl
  · rw [bI_f h]; rfl
theorem st_t {P : Prop} [Decidable P] (h : P) : some (Value.int 1) = some (Value.int (bI P)) := by rw [bI_t h]
theorem st_f {P : Prop} [Decidable P] (h : ¬ P) : some (Value.int 0) = some (Value.int (bI P)) := by rw [bI_f h]
theorem ix_of (b x : Nat) : ((125 : Int32) + 8 * nI b + nI x) = nI (125 + 8 * b + x) := by
  rw [show (125 : Int32) = nI 125 from rfl, show (8 : Int32) = nI 8 from rfl, pk_mul, nI_add, nI_add]
theorem ix_g (c j : Nat) : ((29 : Int32) + 12 * nI c + nI j) = nI (29 + 12 * c + j) := by
  rw [show (29 : Int32) = nI 29 from rfl, show (12 : Int32) = nI 12 from rfl, pk_mul, nI_add, nI_add]
theorem cl (n : Nat) (h : n < 2 ^ 31 := by omega) : (nI n).toNatClampNeg = n := nI_clamp h
theorem nle {x y : Int32} (h : x < y) : ¬ y ≤ x := Int32.not_le.mpr h
theorem nlt {x y : Int32} (h : x ≤ y) : ¬ y < x := Int32.not_lt.mpr h
theorem lt_of {x y : Int32} (h : ¬ y ≤ x) : x < y := Int32.not_le.mp h
theorem le_of {x y : Int32} (h : ¬ y < x) : x ≤ y := Int32.not_lt.mp h
theorem bI_k {P : Prop} [Decidable P] : kOk 1 (bI P) = true := kOk_bI
end
