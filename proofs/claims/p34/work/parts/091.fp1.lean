-- needs:
noncomputable section
/-- a float's magnitude in units of the least number, by its bits -/
abbrev fU (m : Nat) : Nat := FP.Core.unitsOf FP.Core.b32 m
theorem fU_le {m k : Nat} : fU m ≤ fU k ↔ m ≤ k := FP.Core.unitsOf_le_iff
theorem fU_2 {K : Nat} (h : 1 ≤ K) : fU (K * 2 ^ 23) = 2 ^ (K + 22) := by
  have h1 := FP.Core.unitsOf_start (f := FP.Core.b32) h
  rw [FP.Core.tails_b32] at h1
  show FP.Core.unitsOf _ _ = _
  rw [h1, ← Nat.pow_add]
  congr 1
  omega
theorem f_fin {x : UInt32} (hx : x.toNat < 2139095040) : ∃ c q, FP.Core.val32 x = .fin false c q ∧ FP.Core.fits FP.Core.b32 (.fin false c q) ∧ FP.Core.zmag FP.Core.b32 (.fin false c q) = fU x.toNat := by
  obtain ⟨s, c, q, h1, h2, h3⟩ := FP.Core.fin_of_mag FP.Core.good_b32 (n := x.toNat) (by rw [FP.Core.mag_toNat32, FP.Core.infBits_b32]; omega)
  have h4 := FP.Core.sign_bits32 (a := x) (s := s) (Or.inl ⟨c, q, h1⟩)
  have h5 : s = false := by
    cases s with
    | false => rfl
    | true => have := h4.mp rfl; omega
  subst h5
  refine ⟨c, q, h1, h2, ?_⟩
  rw [h3, FP.Core.mag_toNat32]
  congr 1
  omega
/-- a rounded number of sign +: its bits -/
theorem f_rr {z : UInt32} {A B : Nat} {e : Int} (h : FP.Core.val32 z = FP.Core.roundRatio FP.Core.b32 false A B e) : z.toNat ≤ 2139095040 ∧ FP.Core.mag FP.Core.b32 z.toNat = z.toNat := by
  have hn : FP.Core.val32 z ≠ .nan := by rw [h]; exact FP.Core.roundRatio_ne_nan _ _ _ _ _
  have h1 := (FP.Core.ne_nan32 z).mp hn
  have h2 := FP.Core.sgn_bits32 hn
  rw [h, FP.Core.sgn_roundRatio] at h2
  have h3 : ¬ 2 ^ 31 ≤ z.toNat := fun q => by simp [q] at h2
  rw [FP.Core.mag_toNat32]
  omega
theorem f_rr_le {z : UInt32} {A B m : Nat} {e e0 : Int} (h : FP.Core.val32 z = FP.Core.roundRatio FP.Core.b32 false A B e) (hB : 0 < B) (h0 : e0 ≤ -149) (h0e : e0 ≤ e)
    (hm : FP.Core.inUnits A e e0 ≤ fU m * 2 ^ (-149 - e0).toNat * B) : z.toNat ≤ m := by
  have := FP.Core.mag_le (n := z.toNat) FP.Core.good_b32 h hB (by rw [FP.Core.qmin_b32]; exact h0) h0e (by rw [FP.Core.qmin_b32]; exact hm)
  rwa [(f_rr h).2] at this
theorem f_rr_ge {z : UInt32} {A B m : Nat} {e e0 : Int} (h : FP.Core.val32 z = FP.Core.roundRatio FP.Core.b32 false A B e) (hB : 0 < B) (h0 : e0 ≤ -149) (h0e : e0 ≤ e) (hmi : m ≤ 2139095040)
    (hm : fU m * 2 ^ (-149 - e0).toNat * B ≤ FP.Core.inUnits A e e0) : m ≤ z.toNat := by
  have := FP.Core.mag_ge (n := z.toNat) FP.Core.good_b32 h hB (by rw [FP.Core.qmin_b32]; exact h0) h0e (by rw [FP.Core.infBits_b32]; exact hmi) (by rw [FP.Core.qmin_b32]; exact hm)
  rwa [(f_rr h).2] at this
theorem fmul_b {x y : UInt32} (hx : x.toNat < 2139095040) (hy : y.toNat < 2139095040) : (FP.fmul x y).toNat ≤ 2139095040 ∧ (∀ m, fU x.toNat * fU y.toNat ≤ fU m * 2 ^ 149 → (FP.fmul x y).toNat ≤ m) ∧ (∀ m, m ≤ 2139095040 → fU m * 2 ^ 149 ≤ fU x.toNat * fU y.toNat → m ≤ (FP.fmul x y).toNat) := by
  obtain ⟨c, q, x1, x2, x3⟩ := f_fin hx
  obtain ⟨d, r, y1, y2, y3⟩ := f_fin hy
  obtain ⟨p1, p2, p3⟩ := FP.Core.product_units x2 y2
  rw [FP.Core.qmin_b32] at p2 p3
  have hv : FP.Core.val32 (FP.fmul x y) = FP.Core.roundRatio FP.Core.b32 false (c * d) 1 (q + r) := by
    rw [FP.Core.val32_fmul, x1, y1, p1]; rfl
  rw [x3, y3] at p3
  refine ⟨(f_rr hv).1, fun m hm => f_rr_le hv (by decide) (e0 := 2 * -149) (by decide) p2 ?_, fun m hi hm => f_rr_ge hv (by decide) (e0 := 2 * -149) (by decide) p2 hi ?_⟩
  · rw [p3, Nat.mul_one]; exact hm
  · rw [p3, Nat.mul_one]; exact hm
theorem f_sum {x y : UInt32} {z : UInt32} {c d : Nat} {q r : Int} {t : Bool} (x2 : FP.Core.fits FP.Core.b32 (.fin false c q)) (y2 : FP.Core.fits FP.Core.b32 (.fin t d r)) (x3 : FP.Core.zmag FP.Core.b32 (.fin false c q) = fU x.toNat) (y3 : FP.Core.zmag FP.Core.b32 (.fin t d r) = fU y.toNat)
    (hz : FP.Core.val32 z = FP.Core.round FP.Core.b32 (FP.Core.exactSum (.fin false c q) (.fin t d r))) : ∃ sg n e, FP.Core.val32 z = FP.Core.roundRatio FP.Core.b32 sg n 1 e ∧ (-149 : Int) ≤ e ∧ FP.Core.signed sg (FP.Core.inUnits n e (-149)) = (fU x.toNat : Int) + FP.Core.signed t (fU y.toNat) ∧ sg = FP.Core.sumSign false t (FP.Core.sumUnits false c q t d r (min q r)) := by
  obtain ⟨sg, n, e, p1, p2, p3⟩ := FP.Core.sum_units x2 y2
  rw [FP.Core.qmin_b32] at p2 p3
  refine ⟨sg, n, e, ?_, p2, ?_, ?_⟩
  · rw [hz, p1]; rfl
  · rw [p3]
    unfold FP.Core.zval
    rw [x3, y3]
    rfl
  · have : FP.Core.exactSum (.fin false c q) (.fin t d r) = .fin (FP.Core.sumSign false t (FP.Core.sumUnits false c q t d r (min q r))) (FP.Core.sumUnits false c q t d r (min q r)).natAbs (min q r) := rfl
    rw [this] at p1
    cases p1
    rfl
theorem fadd_b {x y : UInt32} (hx : x.toNat < 2139095040) (hy : y.toNat < 2139095040) : (FP.fadd x y).toNat ≤ 2139095040 ∧ (∀ m, fU x.toNat + fU y.toNat ≤ fU m → (FP.fadd x y).toNat ≤ m) ∧ (∀ m, m ≤ 2139095040 → fU m ≤ fU x.toNat + fU y.toNat → m ≤ (FP.fadd x y).toNat) := by
  obtain ⟨c, q, x1, x2, x3⟩ := f_fin hx
  obtain ⟨d, r, y1, y2, y3⟩ := f_fin hy
  obtain ⟨sg, n, e, hv, he, hs, hsg⟩ := f_sum (x := x) (y := y) (z := FP.fadd x y) x2 y2 x3 y3 (by rw [FP.Core.val32_fadd, x1, y1])
  have h0 : sg = false := by
    cases sg with
    | false => rfl
    | true =>
      exfalso
      unfold FP.Core.sumSign at hsg
      split at hsg
      · cases hsg
      · next h0 =>
        have h9 := of_decide_eq_true hsg.symm
        unfold FP.Core.sumUnits FP.Core.signed at h9
        simp at h9
        omega
  subst h0
  have hs2 : FP.Core.inUnits n e (-149) = fU x.toNat + fU y.toNat := by
    have : ((FP.Core.inUnits n e (-149) : Nat) : Int) = (fU x.toNat : Int) + (fU y.toNat : Int) := hs
    omega
  refine ⟨(f_rr hv).1, fun m hm => f_rr_le hv (by decide) (e0 := -149) (by decide) he ?_, fun m hi hm => f_rr_ge hv (by decide) (e0 := -149) (by decide) he hi ?_⟩
  · rw [hs2]; simpa using hm
  · rw [hs2]; simpa using hm
theorem fsub_s {x y : UInt32} (hx : x.toNat < 2139095040) (hy : y.toNat < 2139095040) : ∃ sg n e, FP.Core.val32 (FP.fsub x y) = FP.Core.roundRatio FP.Core.b32 sg n 1 e ∧ (-149 : Int) ≤ e ∧ FP.Core.signed sg (FP.Core.inUnits n e (-149)) = (fU x.toNat : Int) + -(fU y.toNat : Int) ∧ (n = 0 → sg = false) := by
  obtain ⟨c, q, x1, x2, x3⟩ := f_fin hx
  obtain ⟨d, r, y1, y2, y3⟩ := f_fin hy
  obtain ⟨sg, n, e, p1, p2, p3⟩ := FP.Core.sum_units x2 (FP.Core.negate_fits y2)
  rw [FP.Core.qmin_b32] at p2 p3
  refine ⟨sg, n, e, ?_, p2, ?_, ?_⟩
  · rw [FP.Core.val32_fsub, x1, y1]
    show FP.Core.round _ (FP.Core.exactSum (.fin false c q) (.fin (!false) d r)) = _
    rw [p1]; rfl
  · rw [p3]
    have a1 : FP.Core.zval FP.Core.b32 (.fin false c q) = (fU x.toNat : Int) := by rw [← x3]; rfl
    have a2 : FP.Core.zval FP.Core.b32 (FP.Core.negate (.fin false d r)) = -(fU y.toNat : Int) := by rw [← y3]; rfl
    show FP.Core.zval FP.Core.b32 (.fin false c q) + FP.Core.zval FP.Core.b32 (FP.Core.negate (.fin false d r)) = _
    rw [a1, a2]
  · have : FP.Core.exactSum (.fin false c q) (FP.Core.negate (.fin false d r)) = .fin (FP.Core.sumSign false true (FP.Core.sumUnits false c q true d r (min q r))) (FP.Core.sumUnits false c q true d r (min q r)).natAbs (min q r) := rfl
    rw [show FP.Core.exactSum (.fin false c q) (.fin (!false) d r) = FP.Core.exactSum (.fin false c q) (FP.Core.negate (.fin false d r)) from rfl, this] at p1
    cases p1
    intro h0
    have h0 := Int.natAbs_eq_zero.mp h0
    unfold FP.Core.sumSign
    rw [if_pos h0]
    rfl
/-- x - y for 0 ≤ y ≤ x -/
theorem fsub_b {x y : UInt32} (hx : x.toNat < 2139095040) (hy : y.toNat < 2139095040) (hxy : y.toNat ≤ x.toNat) : (∀ m, fU x.toNat - fU y.toNat ≤ fU m → (FP.fsub x y).toNat ≤ m) ∧ (∀ m, m ≤ 2139095040 → fU m ≤ fU x.toNat - fU y.toNat → m ≤ (FP.fsub x y).toNat) := by
  have hU := fU_le.mpr hxy
  obtain ⟨sg, n, e, hv, he, hs, hsg⟩ := fsub_s hx hy
  have h0 : sg = false := by
    cases sg with
    | false => rfl
    | true =>
      refine hsg ?_
      have h1 : -((FP.Core.inUnits n e (-149) : Nat) : Int) = (fU x.toNat : Int) + -(fU y.toNat : Int) := hs
      have h2 : FP.Core.inUnits n e (-149) = 0 := by omega
      unfold FP.Core.inUnits at h2
      rcases Nat.mul_eq_zero.mp h2 with h | h
      · exact h
      · exact absurd h (Nat.pos_iff_ne_zero.mp (Nat.two_pow_pos _))
  subst h0
  have hs2 : FP.Core.inUnits n e (-149) = fU x.toNat - fU y.toNat := by
    have : ((FP.Core.inUnits n e (-149) : Nat) : Int) = (fU x.toNat : Int) + -(fU y.toNat : Int) := hs
    omega
  refine ⟨fun m hm => f_rr_le hv (by decide) (e0 := -149) (by decide) he ?_, fun m hi hm => f_rr_ge hv (by decide) (e0 := -149) (by decide) he hi ?_⟩
  · rw [hs2]; simpa using hm
  · rw [hs2]; simpa using hm
/-- x - y for 0 ≤ x < y: no NaN, below 0 -/
theorem fsub_n {x y : UInt32} (hx : x.toNat < 2139095040) (hy : y.toNat < 2139095040) (hxy : x.toNat < y.toNat) : 2 ^ 31 ≤ (FP.fsub x y).toNat ∧ (FP.fsub x y).toNat ≤ 2 ^ 31 + 2139095040 := by
  have hU : fU x.toNat < fU y.toNat := FP.Core.unitsOf_lt_iff.mpr hxy
  obtain ⟨sg, n, e, hv, he, hs, hsg⟩ := fsub_s hx hy
  have h0 : sg = true := by
    cases sg with
    | true => rfl
    | false =>
      exfalso
      have : ((FP.Core.inUnits n e (-149) : Nat) : Int) = (fU x.toNat : Int) + -(fU y.toNat : Int) := hs
      omega
  subst h0
  have hn : FP.Core.val32 (FP.fsub x y) ≠ .nan := by rw [hv]; exact FP.Core.roundRatio_ne_nan _ _ _ _ _
  have h1 := (FP.Core.ne_nan32 _).mp hn
  have h2 := FP.Core.sgn_bits32 hn
  rw [hv, FP.Core.sgn_roundRatio] at h2
  have h3 := of_decide_eq_true h2.symm
  have h4 := (FP.fsub x y).toNat_lt
  show _ ∧ _ ≤ 2 ^ 31 + 2139095040
  have h5 : (FP.Core.fsub x y).toNat = (FP.fsub x y).toNat := rfl
  omega
theorem fdiv_b {x y : UInt32} (hx : x.toNat < 2139095040) (hy : y.toNat < 2139095040) (hy0 : 0 < y.toNat) : (FP.fdiv x y).toNat ≤ 2139095040 ∧ (∀ m, fU x.toNat * 2 ^ 149 ≤ fU m * fU y.toNat → (FP.fdiv x y).toNat ≤ m) ∧ (∀ m, m ≤ 2139095040 → fU m * fU y.toNat ≤ fU x.toNat * 2 ^ 149 → m ≤ (FP.fdiv x y).toNat) := by
  obtain ⟨c, q, x1, x2, x3⟩ := f_fin hx
  obtain ⟨d, r, y1, y2, y3⟩ := f_fin hy
  have hd0 : d ≠ 0 := by
    rintro rfl
    have h1 : FP.Core.zmag FP.Core.b32 (.fin false 0 r) = 0 := Nat.zero_mul _
    rw [y3] at h1
    have := FP.Core.unitsOf_eq_zero.mp h1
    omega
  have hv : FP.Core.val32 (FP.fdiv x y) = FP.Core.roundRatio FP.Core.b32 false c d (q - r) := by
    rw [FP.Core.val32_fdiv, x1, y1]
    simp only [FP.Core.quotient, if_neg hd0]
    rfl
  have hx1 := x2.2.1
  have hy1 := y2.2.1
  rw [FP.Core.qmin_b32] at hx1 hy1
  have e1 : FP.Core.inUnits c (q - r) (2 * -149 - r) = fU x.toNat * 2 ^ 149 := by
    rw [← x3]
    show c * _ = c * _ * _
    rw [FP.Core.qmin_b32, Nat.mul_assoc, ← Nat.pow_add]
    congr 2
    omega
  have e2 : 2 ^ (-149 - (2 * -149 - r)).toNat * d = fU y.toNat := by
    rw [← y3]
    show _ = d * _
    rw [FP.Core.qmin_b32, Nat.mul_comm]
    congr 2
    omega
  refine ⟨(f_rr hv).1, fun m hm => f_rr_le hv (by omega) (e0 := 2 * -149 - r) (by omega) (by omega) ?_, fun m hi hm => f_rr_ge hv (by omega) (e0 := 2 * -149 - r) (by omega) (by omega) hi ?_⟩
  · rw [e1, Nat.mul_assoc, e2]; exact hm
  · rw [e1, Nat.mul_assoc, e2]; exact hm
theorem f_nn {x : UInt32} (hx : x.toNat ≤ 2139095040) : x &&& 0x7fffffff ≤ 0x7f800000 := by
  rw [UInt32.le_iff_toNat_le, UInt32.toNat_and]
  show x.toNat &&& (2 ^ 31 - 1) ≤ _
  rw [Nat.and_two_pow_sub_one_eq_mod]
  show _ ≤ 2139095040
  omega
theorem f_nn2 {x : UInt32} (h1 : 2 ^ 31 ≤ x.toNat) (hx : x.toNat ≤ 2 ^ 31 + 2139095040) : x &&& 0x7fffffff ≤ 0x7f800000 := by
  rw [UInt32.le_iff_toNat_le, UInt32.toNat_and]
  show x.toNat &&& (2 ^ 31 - 1) ≤ _
  rw [Nat.and_two_pow_sub_one_eq_mod]
  show _ ≤ 2139095040
  omega
/-- comparing floats of sign + -/
theorem fcmp_b {x y : UInt32} (hx : x.toNat ≤ 2139095040) (hy : y.toNat ≤ 2139095040) : FP.fcmp x y = some (compare x.toNat y.toNat) := by
  have nx : FP.Core.val32 x ≠ .nan := (FP.Core.ne_nan32 x).mpr (by omega)
  have ny : FP.Core.val32 y ≠ .nan := (FP.Core.ne_nan32 y).mpr (by omega)
  have h := FP.Core.fcmp_key nx ny
  unfold FP.Core.fkey at h
  rw [if_neg (by omega), if_neg (by omega)] at h
  show FP.Core.fcmp x y = _
  rw [h, FP.Core.compare_ite, Nat.compare_eq_ite_lt]
  congr 1
  by_cases h1 : x.toNat < y.toNat
  · rw [if_pos (by omega), if_pos h1]
  · rw [if_neg (by omega), if_neg h1]
    by_cases h2 : x.toNat = y.toNat
    · rw [if_pos (by omega), if_neg (by omega)]
    · rw [if_neg (by omega), if_pos (by omega)]
end
