-- needs: 17
noncomputable section
/-- a mass in the hour: at most 360, or below 0 -/
def hOk (x : UInt32) : Prop := x.toNat < 2139095040 ∨ 2 ^ 31 ≤ x.toNat ∧ x.toNat ≤ 2 ^ 31 + 2139095040
def sunF (s : Bool) (t : Int32) : UInt32 := FP.fsub 0x3f800000 (FP.fmul (if s = true then 0x3ba3d70a else 0x3c23d70a) (FP.i2f t))
def meltA (x : UInt32) (s : Bool) (t : Int32) : UInt32 := if 0 < t then FP.fmul x (sunF s t) else x
def warmA (x : UInt32) (cu v : Int32) : UInt32 := if cu < 2 then FP.fsub x (FP.fmul 0x3dcccccd (FP.i2f v)) else x
theorem melt_ok {x : UInt32} {s : Bool} {t : Int32} (hx : mOk x) (ht : 0 < t → t ≤ 20) : (0 < t → nn (FP.fmul (if s = true then 0x3ba3d70a else 0x3c23d70a) (FP.i2f t)) ∧ nn (sunF s t) ∧ nn (FP.fmul x (sunF s t))) ∧ (meltA x s t).toNat ≤ 0x43b40000 := by
  unfold meltA
  by_cases h0 : 0 < t
  · obtain ⟨n, hn, rfl⟩ := nI_of2 (M := 20) (n := 20) rfl (fun q => Int32.lt_irrefl (Int32.lt_trans q h0)) (ht h0)
    obtain ⟨a1, a2, a3, a4⟩ := sun_ok n (List.mem_range.mpr (by omega))
    have b : (FP.fmul (if s = true then 0x3ba3d70a else 0x3c23d70a) (FP.i2f (nI n))).toNat < 2139095040 ∧ (sunF s (nI n)).toNat ≤ 0x3f800000 := by
      unfold sunF
      cases s
      · exact ⟨a1, a3⟩
      · exact ⟨a2, a4⟩
    have c := f_mul1 (f := sunF s (nI n)) hx.fin b.2
    have c2 := hx.2
    rw [if_pos h0]
    exact ⟨fun _ => ⟨nn_of b.1, nn_of (Nat.lt_of_le_of_lt b.2 (by decide)), nn_of (Nat.lt_of_le_of_lt c hx.fin)⟩, Nat.le_trans c c2⟩
  · rw [if_neg h0]
    exact ⟨fun q => absurd q h0, hx.2⟩
theorem nn_2 {x : UInt32} (h : hOk x) : nn x := by
  rcases h with h | ⟨h1, h2⟩
  · exact nn_of h
  · exact f_nn2 h1 h2
theorem warm_ok2 {x : UInt32} {cu v : Int32} (hx : x.toNat ≤ 0x43b40000) (hv : ∃ n, n ≤ 50 ∧ v = nI n) : nn (FP.fmul 0x3dcccccd (FP.i2f v)) ∧ nn (FP.fsub x (FP.fmul 0x3dcccccd (FP.i2f v))) ∧ hOk (warmA x cu v) ∧ (0x3f800000 ≤ (warmA x cu v).toNat → (warmA x cu v).toNat < 2139095040 → mOk (warmA x cu v)) := by
  obtain ⟨n, hn, rfl⟩ := hv
  have a : (FP.fmul 0x3dcccccd (FP.i2f (nI n))).toNat < 2139095040 := warm_ok n (List.mem_range.mpr (by omega))
  have hx9 : x.toNat < 2139095040 := Nat.lt_of_le_of_lt hx (by decide)
  have b : hOk (FP.fsub x (FP.fmul 0x3dcccccd (FP.i2f (nI n)))) ∧ ((FP.fsub x (FP.fmul 0x3dcccccd (FP.i2f (nI n)))).toNat < 2139095040 → (FP.fsub x (FP.fmul 0x3dcccccd (FP.i2f (nI n)))).toNat ≤ x.toNat) := by
    by_cases h : (FP.fmul 0x3dcccccd (FP.i2f (nI n))).toNat ≤ x.toNat
    · have := (fsub_b hx9 a h).1 x.toNat (Nat.sub_le _ _)
      exact ⟨Or.inl (by omega), fun _ => this⟩
    · have := fsub_n hx9 a (by omega)
      exact ⟨Or.inr this, fun q => by omega⟩
  refine ⟨nn_of a, nn_2 b.1, ?_, fun q1 q2 => ⟨q1, ?_⟩⟩
  · unfold warmA
    split
    · exact b.1
    · exact Or.inl hx9
  · unfold warmA at q2 ⊢
    split
    · next h => rw [if_pos h] at q2; exact Nat.le_trans (b.2 q2) hx
    · exact hx
def meltS (r : Nat → Int32) (sh : Nat → Int32) (t : Int32) (k : Nat) (w : Nat → UInt32) : Nat → UInt32 := if decide (ofB r k 2 = 1) = true then vf_upd w k (warmA (meltA (w k) (decide (sh k ≠ 0)) t) (ofB r k 4) (r 3)) else w
def meltW (r : Nat → Int32) (sh : Nat → Int32) (t : Int32) (n : Nat) (w : Nat → UInt32) : Nat → UInt32 := iterN (meltS r sh t) n w
theorem meltW_ge {r sh : Nat → Int32} {t : Int32} {w : Nat → UInt32} : ∀ n k, n ≤ k → meltW r sh t n w k = w k
  | 0, k, _ => rfl
  | n + 1, k, h => by
    show meltS r sh t n (meltW r sh t n w) k = w k
    unfold meltS
    split
    · show (if k = n then _ else _) = _
      rw [if_neg (by omega)]
      exact meltW_ge n k (by omega)
    · exact meltW_ge n k (by omega)
theorem meltW_lt {r sh : Nat → Int32} {t : Int32} {w : Nat → UInt32} {n k : Nat} (h : k < n) : meltW r sh t n w k = if ofB r k 2 = 1 then warmA (meltA (w k) (decide (sh k ≠ 0)) t) (ofB r k 4) (r 3) else w k := by
  induction n with
  | zero => exact absurd h (Nat.not_lt_zero k)
  | succ n ih =>
    show meltS r sh t n (meltW r sh t n w) k = _
    by_cases hk : k = n
    · subst hk
      unfold meltS
      by_cases hs : ofB r k 2 = 1
      · rw [if_pos (decide_eq_true hs), if_pos hs, meltW_ge k k (Nat.le_refl k)]
        exact if_pos rfl
      · rw [if_neg (fun q => hs (of_decide_eq_true q)), if_neg hs, meltW_ge k k (Nat.le_refl k)]
    · have e : meltS r sh t n (meltW r sh t n w) k = meltW r sh t n w k := by
        unfold meltS
        split
        · exact if_neg hk
        · rfl
      rw [e]
      exact ih (by omega)
/-- below 1 -/
def lt1 (x : UInt32) : Bool := decide (¬ 0 ≤ Op.cmpValue (FP.fcmp x 0x3f800000) .g)
def remS (w : Nat → UInt32) (k : Nat) (r : Nat → Int32) : Nat → Int32 := if (decide (ofB r k 2 = 1) && lt1 (w k)) = true then goesR r k 2 else r
def remR (w : Nat → UInt32) (n : Nat) (r : Nat → Int32) : Nat → Int32 := iterN (remS w) n r
def WC (r0 r : Nat → Int32) : Prop := Wel r ∧ CN r = CN r0 ∧ ∀ i, i < 29 → r i = r0 i
theorem WC.goes {r0 r : Nat → Int32} {k : Nat} {y : Int32} (h : WC r0 r) (hk : k < CN r0) : WC r0 (goesR r k y) := ⟨goesR_Wel h.1 (by rw [h.2.1]; exact hk), by rw [goesR_CN]; exact h.2.1, fun i hi => by rw [goesR_hd hi]; exact h.2.2 i hi⟩
theorem remR_WC {r0 r : Nat → Int32} {w : Nat → UInt32} (h : WC r0 r) : ∀ n, n ≤ CN r0 → WC r0 (remR w n r) :=
  iterN_inv (I := fun _ t => WC r0 t) h (fun k t hk ht => by
    unfold remS
    split
    · exact ht.goes hk
    · exact ht)
theorem WC.rf {r : Nat → Int32} (h : Wel r) : WC r r := ⟨h, rfl, fun _ _ => rfl⟩
theorem WC.tr {a b c : Nat → Int32} (h : WC a b) (h2 : WC b c) : WC a c := ⟨h2.1, h2.2.1.trans h.2.1, fun i hi => (h2.2.2 i hi).trans (h.2.2 i hi)⟩
theorem hF_5 (h : AH) (r : Nat → Int32) (w : Nat → UInt32) (k : Nat) (x : UInt32) : hF (setR h r w) 5 k x = setR h r (vf_upd w k x) := by rw [hF_R, setR_1, setR_5, setR_R]
theorem vfu_2 {w : Nat → UInt32} {k : Nat} {x y : UInt32} : vf_upd (vf_upd w k x) k y = vf_upd w k y := by
  funext j
  unfold vf_upd
  by_cases h : j = k
  · rw [if_pos h, if_pos h]
  · rw [if_neg h, if_neg h, if_neg h]
theorem vfu_e {w : Nat → UInt32} {k : Nat} {x : UInt32} : vf_upd w k x k = x := if_pos rfl
theorem vfu_s {w : Nat → UInt32} {k : Nat} : vf_upd w k (w k) = w := by
  funext j
  unfold vf_upd
  by_cases h : j = k
  · rw [if_pos h, h]
  · rw [if_neg h]
end
