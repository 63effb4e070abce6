noncomputable section
/-- the first row -/
def r00 : Nat → Int32 := fun j => if j = 1 then 20 else if j = 2 then 200 else if 5 ≤ j ∧ j < 29 then -5 else if 29 ≤ j ∧ j < 125 then -1 else 0
def w00 : Nat → UInt32 := fun _ => 0
theorem cn00 : CN r00 = 0 := rfl
theorem inv00 : Inv 0 r00 w00 := by
  have v : ∀ b, ¬ b < CN r00 := fun b h => absurd h (Nat.not_lt_zero b)
  have wl : Wel r00 := ⟨rfl, Nat.zero_le _, fun b h => absurd h (v b)⟩
  have st : Str r00 := by
    refine ⟨wl, fun b h => absurd h (v b), fun c j b _ _ h => absurd h (v b), fun c j hc hj => Or.inl ?_, fun a b h => absurd h (v a)⟩
    show (if _ = 1 then (20 : Int32) else _) = -1
    rw [if_neg (by omega), if_neg (by omega), if_neg (by omega), if_pos (by omega)]
  have hd : HdW 0 r00 := by
    refine ⟨⟨rfl, Nat.le_refl _, by decide⟩, ⟨0, by decide, rfl⟩, fun i hi => ?_⟩
    have e : r00 (5 + i) = -5 := by
      show (if 5 + i = 1 then (20 : Int32) else _) = -5
      rw [if_neg (by omega), if_neg (by omega), if_pos (by omega)]
    rw [e]
    decide
  refine ⟨st, ⟨wl, fun b h => absurd h (v b), hd⟩, fun b h => absurd h (v b), fun j hj => ?_, fun _ _ => rfl, fun b h => absurd h (v b), ⟨200, rfl, rfl⟩, ⟨20, by decide, rfl⟩⟩
  show (if j = 1 then (20 : Int32) else _) = 0
  rw [if_neg (by omega), if_neg (by omega), if_neg (by omega), if_neg (by omega)]
/-- a palace's cells at the start, by their place in it -/
def pO (o j : Nat) : Int32 := if o = 0 then (if j = 1 then 20 else if j = 2 then 200 else 0) else if o = 1 then (if j < 24 then -5 else 0) else if o = 5 ∨ o = 6 ∨ o = 7 ∨ o = 9 then (if j < 40 then -1 else 0) else if o = 11 then (if j < 96 then -1 else 0) else if o = 12 then (if j < 10 then -1 else 0) else 0
/-- the cells at the start -/
def I00 (a j : Nat) : Int32 := if a = 206 then (if j = 8 then -1 else 0) else if 32 ≤ a ∧ a < 71 then pO ((a - 32) % 13) j else if 78 ≤ a ∧ a < 91 then pO (a - 78) j else if 102 ≤ a ∧ a < 206 then pO ((a - 102) % 13) j else 0
def h00 : AH := (I00, fun _ _ => 0, fun _ _ => 0, fun _ _ => 0)
theorem i32 {o j : Nat} (ho : o < 13) : h00.1 (32 + o) j = pO o j := by
  show (if 32 + o = 206 then (if j = 8 then (-1 : Int32) else 0) else _) = _
  rw [if_neg (by omega), if_pos (by omega), show (32 + o - 32) % 13 = o by omega]
theorem pal00 : Pal h00 32 r00 w00 := by
  have v : ∀ b, ¬ b < CN r00 := fun b h => absurd h (Nat.not_lt_zero b)
  have hr : ∀ i, 5 ≤ i → i < 29 → r00 i = -5 := fun i h1 h2 => by
    show (if i = 1 then (20 : Int32) else _) = -5
    rw [if_neg (by omega), if_neg (by omega), if_pos ⟨h1, h2⟩]
  have hr2 : ∀ i, 29 ≤ i → i < 125 → r00 i = -1 := fun i h1 h2 => by
    show (if i = 1 then (20 : Int32) else _) = -1
    rw [if_neg (by omega), if_neg (by omega), if_neg (by omega), if_pos ⟨h1, h2⟩]
  have p40 : ∀ o, (o = 5 ∨ o = 6 ∨ o = 7 ∨ o = 9) → ∀ j, j < 40 → h00.1 (32 + o) j = -1 := fun o ho j hj => by
    rw [i32 (by omega)]
    unfold pO
    rw [if_neg (by omega), if_neg (by omega), if_pos ho, if_pos hj]
  refine ⟨fun i hi => ?_, fun i hi => ?_, fun b h => absurd h (v b), fun b _ hb => ⟨p40 5 (by decide) b hb, p40 6 (by decide) b hb, p40 7 (by decide) b hb, ?_, p40 9 (by decide) b hb, ?_⟩, fun i hi => ?_, fun q p hq hp => ?_⟩
  · rcases (show i = 0 ∨ i = 1 ∨ i = 2 ∨ i = 3 ∨ i = 4 by omega) with e | e | e | e | e <;> subst e <;> decide
  · rw [i32 (o := 1) (by decide), hr _ (by omega) (by omega)]
    exact if_pos hi
  · exact i32 (o := 8) (by decide)
  · exact i32 (o := 10) (by decide)
  · rw [i32 (o := 11) (by decide), hr2 _ (by omega) (by omega)]
    exact if_pos hi
  · rw [i32 (o := 12) (by decide)]
    show _ = orM _ 0
    unfold orM
    rw [if_neg (Nat.not_lt_zero _)]
    exact if_pos (show q * 5 + p < 10 by omega)
theorem cs00 : CS h00 r00 w00 (false, fun _ => 0, fun _ => 0) (0, fun _ _ => 0, fun _ _ => 0) (0, 0) (0, -1, fun _ => 0) :=
  ⟨pal00, ⟨by decide, fun z => absurd z (by decide)⟩, ⟨Nat.zero_le _, 0, by decide, by decide, by decide, fun i hi => absurd hi (Nat.not_lt_zero i)⟩, ⟨by decide, by decide⟩, by decide, Nat.zero_le _, by decide, rfl⟩
theorem is00 : IS 0 r00 w00 (false, fun _ => 0, fun _ => 0) (0, fun _ _ => 0, fun _ _ => 0) := ⟨inv00, fun z => absurd z (by decide), fun i hi => absurd hi (Nat.not_lt_zero i)⟩
end
