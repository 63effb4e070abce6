-- needs: 9988
noncomputable section
/-- the first row -/
def r00 : Nat → Int32 := fun j => if j = 1 then 20 else if j = 2 then 200 else if 5 ≤ j ∧ j < 29 then -5 else if 29 ≤ j ∧ j < 125 then -1 else 0
def w00 : Nat → UInt32 := fun _ => 0
theorem cn00 : CN r00 = 0 := rfl
theorem inv00 : Inv 0 r00 w00 := by
  have v : ∀ b, ¬ b < CN r00 := fun b h => absurd h (Nat.not_lt_zero b)
  have wl : Wel r00 := ⟨rfl, Nat.zero_le _, fun b h => absurd h (v b)⟩
  have st : Str r00 := by
    refine ⟨wl, fun b h => absurd h (v b), fun c j b _ _ h => absurd h (v b), fun c j hc hj => Or.inl ?_, fun a b h => absurd h (v a)⟩
    show (if _ = 1 then (20 : Int32) else _) = -1
    rw [if_neg (by omega), if_neg (by omega), if_neg (by omega), if_pos (by omega)]
  have hd : HdW 0 r00 := by
    refine ⟨⟨rfl, Nat.le_refl _, by decide⟩, ⟨0, by decide, rfl⟩, fun i hi => ?_⟩
    have e : r00 (5 + i) = -5 := by
      show (if 5 + i = 1 then (20 : Int32) else _) = -5
      rw [if_neg (by omega), if_neg (by omega), if_pos (by omega)]
    rw [e]
    decide
  refine ⟨st, ⟨wl, fun b h => absurd h (v b), hd⟩, fun b h => absurd h (v b), fun j hj => ?_, fun _ _ => rfl, fun b h => absurd h (v b), ⟨200, rfl, rfl⟩, ⟨20, by decide, rfl⟩⟩
  show (if j = 1 then (20 : Int32) else _) = 0
  rw [if_neg (by omega), if_neg (by omega), if_neg (by omega), if_neg (by omega)]
end
