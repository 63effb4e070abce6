-- needs: 13
noncomputable section
/-- what giveOn does to the loads -/
def giveR (r : Nat → Int32) (w ld : Nat → UInt32) (k m : Nat) : Nat → UInt32 := fun b => if b < m ∧ (ofB r b 2 = 1 ∧ ofB r b 4 = ofB r k 4 - 1 ∧ 0 < colsN r k b) then FP.fadd (ld b) (shareF (w k) (ld k) (colsN r k b) (supN r k)) else ld b
theorem giveR_0 {r : Nat → Int32} {w ld : Nat → UInt32} {k : Nat} : giveR r w ld k 0 = ld := by
  funext b
  exact if_neg (fun q => Nat.not_lt_zero _ q.1)
theorem giveR_f {r : Nat → Int32} {w ld : Nat → UInt32} {k m : Nat} (h : ¬ (ofB r m 2 = 1 ∧ ofB r m 4 = ofB r k 4 - 1 ∧ 0 < colsN r k m)) : giveR r w ld k (m + 1) = giveR r w ld k m := by
  funext b
  unfold giveR
  by_cases hb : b = m
  · subst hb
    rw [if_neg (fun q => h q.2), if_neg (fun q => h q.2)]
  · by_cases hc : b < m ∧ (ofB r b 2 = 1 ∧ ofB r b 4 = ofB r k 4 - 1 ∧ 0 < colsN r k b)
    · rw [if_pos hc, if_pos ⟨by omega, hc.2⟩]
    · rw [if_neg hc, if_neg (fun q => hc ⟨by omega, q.2⟩)]
theorem giveR_t {r : Nat → Int32} {w ld : Nat → UInt32} {k m : Nat} (h : ofB r m 2 = 1 ∧ ofB r m 4 = ofB r k 4 - 1 ∧ 0 < colsN r k m) : giveR r w ld k (m + 1) = vf_upd (giveR r w ld k m) m (FP.fadd (ld m) (shareF (w k) (ld k) (colsN r k m) (supN r k))) := by
  funext b
  by_cases hb : b = m
  · subst hb
    simp only [giveR, vf_upd]
    rw [if_pos ⟨Nat.lt_succ_self _, h⟩, if_pos trivial]
  · simp only [giveR, vf_upd]
    rw [if_neg hb]
    by_cases hc : b < m ∧ (ofB r b 2 = 1 ∧ ofB r b 4 = ofB r k 4 - 1 ∧ 0 < colsN r k b)
    · rw [if_pos hc, if_pos ⟨by omega, hc.2⟩]
    · rw [if_neg hc, if_neg (fun q => hc ⟨by omega, q.2⟩)]
theorem ne_pred (x : Int32) : ¬ x = x - 1 := by
  intro h
  have h2 : x.toBitVec = x.toBitVec - 1#32 := congrArg Int32.toBitVec h
  generalize x.toBitVec = z at h2
  bv_omega
theorem giveR_ge {r : Nat → Int32} {w ld : Nat → UInt32} {k m b : Nat} (h : m ≤ b) : giveR r w ld k m b = ld b := if_neg (fun q => by omega)
theorem giveR_k {r : Nat → Int32} {w ld : Nat → UInt32} {k m : Nat} : giveR r w ld k m k = ld k := if_neg (fun q => ne_pred _ q.2.2.1)
theorem hFr_27 (h : AH) (f : Nat → UInt32) : (hFr h 27 f).2.1 27 = f := by funext j; simp [hFr]
theorem hFr_ne (h : AH) (f : Nat → UInt32) {k a : Nat} (ha : a ≠ k) : (hFr h k f).2.1 a = h.2.1 a := by funext j; simp [hFr, ha]
theorem hFr_hFr (h : AH) (k : Nat) (f g : Nat → UInt32) : hFr (hFr h k f) k g = hFr h k g := by
  refine Prod.ext rfl (Prod.ext ?_ rfl)
  funext a j
  by_cases ha : a = k <;> simp [hFr, ha]
theorem hF_r (h : AH) (k i : Nat) (x : UInt32) (f : Nat → UInt32) : hF (hFr h k f) k i x = hFr h k (vf_upd f i x) := by
  refine Prod.ext rfl (Prod.ext ?_ rfl)
  funext a j
  by_cases ha : a = k
  · subst ha
    by_cases hj : j = i <;> simp [hFr, hF, vf_upd, hj]
  · simp [hFr, hF, ha]
theorem hFr_self (h : AH) (k : Nat) : hFr h k (h.2.1 k) = h := by
  obtain ⟨g, f, z⟩ := h
  refine Prod.ext rfl (Prod.ext ?_ rfl)
  funext a j
  by_cases ha : a = k <;> simp [hFr, ha]
theorem hI_one (h : AH) (f : Nat → UInt32) (k : Nat) : (hFr h k f).1 = h.1 := rfl
/-- what giveOn meets is no NaN -/
def giveNN (r : Nat → Int32) (w ld : Nat → UInt32) (k : Nat) : Prop := ∀ m, m < CN r → (ofB r m 2 = 1 ∧ ofB r m 4 = ofB r k 4 - 1 ∧ 0 < colsN r k m) → nn (FP.fadd (w k) (ld k)) ∧ nn (FP.fmul (FP.fadd (w k) (ld k)) (FP.i2f (nI (colsN r k m)))) ∧ nn (shareF (w k) (ld k) (colsN r k m) (supN r k)) ∧ nn (FP.fadd (ld m) (shareF (w k) (ld k) (colsN r k m) (supN r k)))
theorem er_hh {d mi pc : Nat} {lc : LC} {st : List Value} {h h2 h' : AH} {v : Option Value} (e : h = h2) (K : EvR d mi pc lc st h2 v h') : EvR d mi pc lc st h v h' := e ▸ K
end
