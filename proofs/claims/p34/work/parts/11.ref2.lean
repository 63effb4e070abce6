-- needs: 10
noncomputable section
/-- the heap with the reference's row and masses put anew -/
def setR (h : AH) (r : Nat → Int32) (w : Nat → UInt32) : AH := (fun a j => if a = 1 then r j else h.1 a j, fun a j => if a = 5 then w j else h.2.1 a j, h.2.2)
theorem setR_1 (h : AH) (r : Nat → Int32) (w : Nat → UInt32) : (setR h r w).1 1 = r := by funext j; simp [setR]
theorem setR_5 (h : AH) (r : Nat → Int32) (w : Nat → UInt32) : (setR h r w).2.1 5 = w := by funext j; simp [setR]
theorem setR_n (h : AH) (r : Nat → Int32) (w : Nat → UInt32) {a : Nat} (ha : a ≠ 1) : (setR h r w).1 a = h.1 a := by funext j; simp [setR, ha]
theorem setR_m (h : AH) (r : Nat → Int32) (w : Nat → UInt32) {a : Nat} (ha : a ≠ 5) : (setR h r w).2.1 a = h.2.1 a := by funext j; simp [setR, ha]
theorem setR_self (h : AH) : setR h (h.1 1) (h.2.1 5) = h := by
  obtain ⟨g, f, z⟩ := h
  refine Prod.ext ?_ (Prod.ext ?_ rfl)
  · funext a j
    by_cases ha : a = 1 <;> simp [setR, ha]
  · funext a j
    by_cases ha : a = 5 <;> simp [setR, ha]
theorem setR_R (h : AH) (r r' : Nat → Int32) (w w' : Nat → UInt32) : setR (setR h r w) r' w' = setR h r' w' := by
  refine Prod.ext ?_ (Prod.ext ?_ rfl)
  · funext a j
    by_cases ha : a = 1 <;> simp [setR, ha]
  · funext a j
    by_cases ha : a = 5 <;> simp [setR, ha]
theorem hI_R (h : AH) (i : Nat) (x : Int32) : hI h 1 i x = setR h (upd (h.1 1) i x) (h.2.1 5) := by
  refine Prod.ext ?_ (Prod.ext ?_ rfl)
  · funext a j
    by_cases ha : a = 1
    · subst ha
      by_cases hj : j = i <;> simp [setR, hI, upd, hj]
    · simp [setR, hI, ha]
  · funext a j
    by_cases ha : a = 5 <;> simp [setR, hI, ha]
theorem hF_R (h : AH) (i : Nat) (x : UInt32) : hF h 5 i x = setR h (h.1 1) (vf_upd (h.2.1 5) i x) := by
  refine Prod.ext ?_ (Prod.ext ?_ rfl)
  · funext a j
    by_cases ha : a = 1 <;> simp [setR, hF, ha]
  · funext a j
    by_cases ha : a = 5
    · subst ha
      by_cases hj : j = i <;> simp [setR, hF, vf_upd, hj]
    · simp [setR, hF, ha]
/-- how many k below n have p -/
def cntP (p : Nat → Bool) : Nat → Nat
  | 0 => 0
  | n + 1 => cntP p n + if p n = true then 1 else 0
theorem cntP_le (p : Nat → Bool) (n : Nat) : cntP p n ≤ n := by
  induction n with
  | zero => exact Nat.le_refl _
  | succ n ih => unfold cntP; split <;> omega
theorem cntP_congr {p q : Nat → Bool} {n : Nat} (h : ∀ k, k < n → p k = q k) : cntP p n = cntP q n := by
  induction n with
  | zero => rfl
  | succ n ih => unfold cntP; rw [ih (fun k hk => h k (by omega)), h n (by omega)]
theorem vi {k N : Nat} (h : k < N := by omega) (h2 : N < 2 ^ 31 := by omega) : vp_in (nI k) N := vp_in_nI h h2
/-- v at L places of a course -/
def fillR (r : Nat → Int32) (c j L : Nat) (v : Int32) : Nat → Int32 := fun i => if 29 + 12 * c + j ≤ i ∧ i < 29 + 12 * c + j + L then v else r i
theorem fillR_0 (r : Nat → Int32) (c j : Nat) (v : Int32) : fillR r c j 0 v = r := by
  funext i
  unfold fillR
  rw [if_neg (by omega)]
theorem fillR_s (r : Nat → Int32) (c j L : Nat) (v : Int32) : fillR (upd r (29 + 12 * c + j) v) c (j + 1) L v = fillR r c j (L + 1) v := by
  funext i
  unfold fillR upd
  by_cases h1 : i = 29 + 12 * c + j
  · rw [if_neg (by omega), if_pos h1, if_pos (by omega)]
  · by_cases h2 : 29 + 12 * c + (j + 1) ≤ i ∧ i < 29 + 12 * c + (j + 1) + L
    · rw [if_pos h2, if_pos (by omega)]
    · rw [if_neg h2, if_neg h1, if_neg (by omega)]
theorem sv {x y : Int32} (h : x = y) : some (Value.int x) = some (Value.int y) := by rw [h]
theorem cnt_t {p : Nat → Bool} {k : Nat} (h : p k = true) : nI (cntP p k) + 1 = nI (cntP p (k + 1)) := by
  rw [nI_1]
  show _ = nI (cntP p k + if p k = true then 1 else 0)
  rw [if_pos h]
theorem cnt_f {p : Nat → Bool} {k : Nat} (h : ¬ p k = true) : nI (cntP p k) + 0 = nI (cntP p (k + 1)) := by
  rw [Int32.add_zero]
  show _ = nI (cntP p k + if p k = true then 1 else 0)
  rw [if_neg h, Nat.add_zero]
theorem nI_z {c : Nat} (hc : c < 2 ^ 31) : nI c = 0 ↔ c = 0 := nI_eq (b := 0) hc (by omega)
theorem nI_m1 {c : Nat} (h : 0 < c) : nI c - 1 = nI (c - 1) := pk_sub (b := 1) h
/-- of the places j .. of a course those that are filled in the course below -/
def supP (r : Nat → Int32) (c j : Nat) : Nat → Bool := fun k => decide (c = 0 ∨ 0 ≤ gAt r (c - 1) (j + k))
/-- a block's numbers, as numbers -/
abbrev LN (r : Nat → Int32) (b : Nat) : Nat := (ofB r b 1).toNatClampNeg
abbrev CO (r : Nat → Int32) (b : Nat) : Nat := (ofB r b 3).toNatClampNeg
abbrev CU (r : Nat → Int32) (b : Nat) : Nat := (ofB r b 4).toNatClampNeg
abbrev JT (r : Nat → Int32) (b : Nat) : Nat := (ofB r b 5).toNatClampNeg
def LnOk (r : Nat → Int32) (b : Nat) : Prop := ofB r b 1 = nI (LN r b) ∧ 1 ≤ LN r b ∧ LN r b ≤ 6
def PlOk (r : Nat → Int32) (b : Nat) : Prop := ofB r b 3 = nI (CO r b) ∧ CO r b + LN r b ≤ 12 ∧ ofB r b 4 = nI (CU r b) ∧ CU r b ≤ 7 ∧ ofB r b 5 = nI (JT r b) ∧ JT r b ≤ 9
/-- its supported columns -/
def supN (r : Nat → Int32) (b : Nat) : Nat := cntP (supP r (CU r b) (CO r b)) (LN r b)
end
