-- needs: 40
noncomputable section
def mapI (g : Nat → Int32) (i : Nat) (f : Nat → Int32) : Nat → Int32 := fun b => if b < i then g b else f b
theorem mapI_u {g f : Nat → Int32} {i : Nat} : upd (mapI g i f) i (g i) = mapI g (i + 1) f := by
  funext b
  unfold upd mapI
  by_cases e1 : b = i
  · rw [if_pos e1, if_pos (by omega), e1]
  · rw [if_neg e1]
    by_cases e2 : b < i
    · rw [if_pos e2, if_pos (by omega)]
    · rw [if_neg e2, if_neg (by omega)]
theorem mapI_0 {g f : Nat → Int32} : mapI g 0 f = f := by funext b; exact if_neg (Nat.not_lt_zero b)
theorem mapI_lt {g f : Nat → Int32} {n i : Nat} (h : i < n) : mapI g n f i = g i := if_pos h
theorem mapF_lt {g f : Nat → UInt32} {n i : Nat} (h : i < n) : mapF g n f i = g i := if_pos h
theorem hFr_hIr {h : AH} {a b i : Nat} {f : Nat → UInt32} {x : Int32} : hI (hFr h b f) a i x = hFr (hI h a i x) b f := rfl
theorem hl_a : ∀ i ∈ List.range 8, ([10, 11, 12, 13, 14, 15, 16, 17] : List Nat)[i]? = some (10 + i) ∧ ([19, 20, 21, 22, 23, 24, 25, 26] : List Nat)[i]? = some (19 + i) := by decide +kernel
theorem ha_10 {i : Nat} (h : i < 8) : ([10, 11, 12, 13, 14, 15, 16, 17] : List Nat)[(nI i).toNatClampNeg]? = some (10 + i) := by rw [nI_clamp (by omega)]; exact (hl_a i (List.mem_range.mpr h)).1
theorem ha_19 {i : Nat} (h : i < 8) : ([19, 20, 21, 22, 23, 24, 25, 26] : List Nat)[(nI i).toNatClampNeg]? = some (19 + i) := by rw [nI_clamp (by omega)]; exact (hl_a i (List.mem_range.mpr h)).2
/-- what remembering leaves: the head but for kept, and all rows but the history's -/
def FrK (h h' : AH) : Prop := (∀ j, j ≠ 11 → h'.1 0 j = h.1 0 j) ∧ (∀ a, a ≠ 0 → (a < 10 ∨ 17 < a) → h'.1 a = h.1 a) ∧ (∀ a, (a < 19 ∨ 26 < a) → h'.2.1 a = h.2.1 a) ∧ h'.2.2 = h.2.2
theorem FrK.rf {h : AH} : FrK h h := ⟨fun _ _ => rfl, fun _ _ _ => rfl, fun _ _ => rfl, rfl⟩
theorem FrK.tr {a b c : AH} (h1 : FrK a b) (h2 : FrK b c) : FrK a c := ⟨fun j hj => (h2.1 j hj).trans (h1.1 j hj), fun x h0 hx => (h2.2.1 x h0 hx).trans (h1.2.1 x h0 hx), fun x hx => (h2.2.2.1 x hx).trans (h1.2.2.1 x hx), h2.2.2.2.trans h1.2.2.2⟩
theorem FrK.cp {h : AH} {i : Nat} {f : Nat → Int32} {g : Nat → UInt32} (hi : i < 8) : FrK h (hFr (hIr h (10 + i) f) (19 + i) g) := ⟨fun j _ => by rw [hFr_1, hIr_ne (by omega)], fun a h0 ha => by rw [hFr_1, hIr_ne (by omega)], fun a ha => by rw [hFr_ne _ _ (by omega)]; rfl, rfl⟩
/-- the history's row i holds what the row a held, its masses those of fa -/
def HRow (h' : AH) (i : Nat) (h : AH) (a fa : Nat) : Prop := (∀ j, j < 445 → h'.1 (10 + i) j = h.1 a j) ∧ ∀ j, j < 40 → h'.2.1 (19 + i) j = h.2.1 fa j
end
