-- needs: 093
noncomputable section
/-- a float's magnitude in units of the least number, by its bits -/
abbrev dU (m : Nat) : Nat := FP.Core.unitsOf FP.Core.b64 m
theorem dU_le {m k : Nat} : dU m ≤ dU k ↔ m ≤ k := FP.Core.unitsOf_le_iff
theorem dU_2 {K : Nat} (h : 1 ≤ K) : dU (K * 2 ^ 52) = 2 ^ (K + 51) := by
  have h1 := FP.Core.unitsOf_start (f := FP.Core.b64) h
  rw [FP.Core.tails_b64] at h1
  show FP.Core.unitsOf _ _ = _
  rw [h1, ← Nat.pow_add]
  congr 1
  omega
theorem d_fin {x : UInt64} (hx : x.toNat < 9218868437227405312) : ∃ c q, FP.Core.val64 x = .fin false c q ∧ FP.Core.fits FP.Core.b64 (.fin false c q) ∧ FP.Core.zmag FP.Core.b64 (.fin false c q) = dU x.toNat := by
  obtain ⟨s, c, q, h1, h2, h3⟩ := FP.Core.fin_of_mag FP.Core.good_b64 (n := x.toNat) (by rw [FP.Core.mag_toNat64, FP.Core.infBits_b64]; omega)
  have h4 := FP.Core.sign_bits (a := x) (s := s) (Or.inl ⟨c, q, h1⟩)
  have h5 : s = false := by
    cases s with
    | false => rfl
    | true => have := h4.mp rfl; omega
  subst h5
  refine ⟨c, q, h1, h2, ?_⟩
  rw [h3, FP.Core.mag_toNat64]
  congr 1
  omega
/-- a rounded number of sign +: its bits -/
theorem d_rr {z : UInt64} {A B : Nat} {e : Int} (h : FP.Core.val64 z = FP.Core.roundRatio FP.Core.b64 false A B e) : z.toNat ≤ 9218868437227405312 ∧ FP.Core.mag FP.Core.b64 z.toNat = z.toNat := by
  have hn : FP.Core.val64 z ≠ .nan := by rw [h]; exact FP.Core.roundRatio_ne_nan _ _ _ _ _
  have h1 := (FP.Core.ne_nan z).mp hn
  have h2 := FP.Core.sgn_bits hn
  rw [h, FP.Core.sgn_roundRatio] at h2
  have h3 : ¬ 2 ^ 63 ≤ z.toNat := fun q => by simp [q] at h2
  rw [FP.Core.mag_toNat64]
  omega
theorem d_rr_le {z : UInt64} {A B m : Nat} {e e0 : Int} (h : FP.Core.val64 z = FP.Core.roundRatio FP.Core.b64 false A B e) (hB : 0 < B) (h0 : e0 ≤ -1074) (h0e : e0 ≤ e)
    (hm : FP.Core.inUnits A e e0 ≤ dU m * 2 ^ (-1074 - e0).toNat * B) : z.toNat ≤ m := by
  have := FP.Core.mag_le (n := z.toNat) FP.Core.good_b64 h hB (by rw [FP.Core.qmin_b64]; exact h0) h0e (by rw [FP.Core.qmin_b64]; exact hm)
  rwa [(d_rr h).2] at this
theorem d_rr_ge {z : UInt64} {A B m : Nat} {e e0 : Int} (h : FP.Core.val64 z = FP.Core.roundRatio FP.Core.b64 false A B e) (hB : 0 < B) (h0 : e0 ≤ -1074) (h0e : e0 ≤ e) (hmi : m ≤ 9218868437227405312)
    (hm : dU m * 2 ^ (-1074 - e0).toNat * B ≤ FP.Core.inUnits A e e0) : m ≤ z.toNat := by
  have := FP.Core.mag_ge (n := z.toNat) FP.Core.good_b64 h hB (by rw [FP.Core.qmin_b64]; exact h0) h0e (by rw [FP.Core.infBits_b64]; exact hmi) (by rw [FP.Core.qmin_b64]; exact hm)
  rwa [(d_rr h).2] at this
theorem dmul_b {x y : UInt64} (hx : x.toNat < 9218868437227405312) (hy : y.toNat < 9218868437227405312) : (FP.dmul x y).toNat ≤ 9218868437227405312 ∧ (∀ m, dU x.toNat * dU y.toNat ≤ dU m * 2 ^ 1074 → (FP.dmul x y).toNat ≤ m) ∧ (∀ m, m ≤ 9218868437227405312 → dU m * 2 ^ 1074 ≤ dU x.toNat * dU y.toNat → m ≤ (FP.dmul x y).toNat) := by
  obtain ⟨c, q, x1, x2, x3⟩ := d_fin hx
  obtain ⟨d, r, y1, y2, y3⟩ := d_fin hy
  obtain ⟨p1, p2, p3⟩ := FP.Core.product_units x2 y2
  rw [FP.Core.qmin_b64] at p2 p3
  have hv : FP.Core.val64 (FP.dmul x y) = FP.Core.roundRatio FP.Core.b64 false (c * d) 1 (q + r) := by
    rw [FP.Core.val64_dmul, x1, y1, p1]; rfl
  rw [x3, y3] at p3
  refine ⟨(d_rr hv).1, fun m hm => d_rr_le hv (by decide) (e0 := 2 * -1074) (by decide) p2 ?_, fun m hi hm => d_rr_ge hv (by decide) (e0 := 2 * -1074) (by decide) p2 hi ?_⟩
  · rw [p3, Nat.mul_one]; exact hm
  · rw [p3, Nat.mul_one]; exact hm
theorem d_sum {x y : UInt64} {z : UInt64} {c d : Nat} {q r : Int} {t : Bool} (x2 : FP.Core.fits FP.Core.b64 (.fin false c q)) (y2 : FP.Core.fits FP.Core.b64 (.fin t d r)) (x3 : FP.Core.zmag FP.Core.b64 (.fin false c q) = dU x.toNat) (y3 : FP.Core.zmag FP.Core.b64 (.fin t d r) = dU y.toNat)
    (hz : FP.Core.val64 z = FP.Core.round FP.Core.b64 (FP.Core.exactSum (.fin false c q) (.fin t d r))) : ∃ sg n e, FP.Core.val64 z = FP.Core.roundRatio FP.Core.b64 sg n 1 e ∧ (-1074 : Int) ≤ e ∧ FP.Core.signed sg (FP.Core.inUnits n e (-1074)) = (dU x.toNat : Int) + FP.Core.signed t (dU y.toNat) ∧ sg = FP.Core.sumSign false t (FP.Core.sumUnits false c q t d r (min q r)) := by
  obtain ⟨sg, n, e, p1, p2, p3⟩ := FP.Core.sum_units x2 y2
  rw [FP.Core.qmin_b64] at p2 p3
  refine ⟨sg, n, e, ?_, p2, ?_, ?_⟩
  · rw [hz, p1]; rfl
  · rw [p3]
    unfold FP.Core.zval
    rw [x3, y3]
    rfl
  · have : FP.Core.exactSum (.fin false c q) (.fin t d r) = .fin (FP.Core.sumSign false t (FP.Core.sumUnits false c q t d r (min q r))) (FP.Core.sumUnits false c q t d r (min q r)).natAbs (min q r) := rfl
    rw [this] at p1
    cases p1
    rfl
theorem dadd_b {x y : UInt64} (hx : x.toNat < 9218868437227405312) (hy : y.toNat < 9218868437227405312) : (FP.dadd x y).toNat ≤ 9218868437227405312 ∧ (∀ m, dU x.toNat + dU y.toNat ≤ dU m → (FP.dadd x y).toNat ≤ m) ∧ (∀ m, m ≤ 9218868437227405312 → dU m ≤ dU x.toNat + dU y.toNat → m ≤ (FP.dadd x y).toNat) := by
  obtain ⟨c, q, x1, x2, x3⟩ := d_fin hx
  obtain ⟨d, r, y1, y2, y3⟩ := d_fin hy
  obtain ⟨sg, n, e, hv, he, hs, hsg⟩ := d_sum (x := x) (y := y) (z := FP.dadd x y) x2 y2 x3 y3 (by rw [FP.Core.val64_dadd, x1, y1])
  have h0 : sg = false := by
    cases sg with
    | false => rfl
    | true =>
      exfalso
      unfold FP.Core.sumSign at hsg
      split at hsg
      · cases hsg
      · next h0 =>
        have h9 := of_decide_eq_true hsg.symm
        unfold FP.Core.sumUnits FP.Core.signed at h9
        simp at h9
        omega
  subst h0
  have hs2 : FP.Core.inUnits n e (-1074) = dU x.toNat + dU y.toNat := by
    have : ((FP.Core.inUnits n e (-1074) : Nat) : Int) = (dU x.toNat : Int) + (dU y.toNat : Int) := hs
    omega
  refine ⟨(d_rr hv).1, fun m hm => d_rr_le hv (by decide) (e0 := -1074) (by decide) he ?_, fun m hi hm => d_rr_ge hv (by decide) (e0 := -1074) (by decide) he hi ?_⟩
  · rw [hs2]; simpa using hm
  · rw [hs2]; simpa using hm
theorem dsub_s {x y : UInt64} (hx : x.toNat < 9218868437227405312) (hy : y.toNat < 9218868437227405312) : ∃ sg n e, FP.Core.val64 (FP.dsub x y) = FP.Core.roundRatio FP.Core.b64 sg n 1 e ∧ (-1074 : Int) ≤ e ∧ FP.Core.signed sg (FP.Core.inUnits n e (-1074)) = (dU x.toNat : Int) + -(dU y.toNat : Int) ∧ (n = 0 → sg = false) := by
  obtain ⟨c, q, x1, x2, x3⟩ := d_fin hx
  obtain ⟨d, r, y1, y2, y3⟩ := d_fin hy
  obtain ⟨sg, n, e, p1, p2, p3⟩ := FP.Core.sum_units x2 (FP.Core.negate_fits y2)
  rw [FP.Core.qmin_b64] at p2 p3
  refine ⟨sg, n, e, ?_, p2, ?_, ?_⟩
  · rw [FP.Core.val64_dsub, x1, y1]
    show FP.Core.round _ (FP.Core.exactSum (.fin false c q) (.fin (!false) d r)) = _
    rw [p1]; rfl
  · rw [p3]
    have a1 : FP.Core.zval FP.Core.b64 (.fin false c q) = (dU x.toNat : Int) := by rw [← x3]; rfl
    have a2 : FP.Core.zval FP.Core.b64 (FP.Core.negate (.fin false d r)) = -(dU y.toNat : Int) := by rw [← y3]; rfl
    show FP.Core.zval FP.Core.b64 (.fin false c q) + FP.Core.zval FP.Core.b64 (FP.Core.negate (.fin false d r)) = _
    rw [a1, a2]
  · have : FP.Core.exactSum (.fin false c q) (FP.Core.negate (.fin false d r)) = .fin (FP.Core.sumSign false true (FP.Core.sumUnits false c q true d r (min q r))) (FP.Core.sumUnits false c q true d r (min q r)).natAbs (min q r) := rfl
    rw [show FP.Core.exactSum (.fin false c q) (.fin (!false) d r) = FP.Core.exactSum (.fin false c q) (FP.Core.negate (.fin false d r)) from rfl, this] at p1
    cases p1
    intro h0
    have h0 := Int.natAbs_eq_zero.mp h0
    unfold FP.Core.sumSign
    rw [if_pos h0]
    rfl
/-- x - y for 0 ≤ y ≤ x -/
theorem dsub_b {x y : UInt64} (hx : x.toNat < 9218868437227405312) (hy : y.toNat < 9218868437227405312) (hxy : y.toNat ≤ x.toNat) : (∀ m, dU x.toNat - dU y.toNat ≤ dU m → (FP.dsub x y).toNat ≤ m) ∧ (∀ m, m ≤ 9218868437227405312 → dU m ≤ dU x.toNat - dU y.toNat → m ≤ (FP.dsub x y).toNat) := by
  have hU := dU_le.mpr hxy
  obtain ⟨sg, n, e, hv, he, hs, hsg⟩ := dsub_s hx hy
  have h0 : sg = false := by
    cases sg with
    | false => rfl
    | true =>
      refine hsg ?_
      have h1 : -((FP.Core.inUnits n e (-1074) : Nat) : Int) = (dU x.toNat : Int) + -(dU y.toNat : Int) := hs
      have h2 : FP.Core.inUnits n e (-1074) = 0 := by omega
      unfold FP.Core.inUnits at h2
      rcases Nat.mul_eq_zero.mp h2 with h | h
      · exact h
      · exact absurd h (Nat.pos_iff_ne_zero.mp (Nat.two_pow_pos _))
  subst h0
  have hs2 : FP.Core.inUnits n e (-1074) = dU x.toNat - dU y.toNat := by
    have : ((FP.Core.inUnits n e (-1074) : Nat) : Int) = (dU x.toNat : Int) + -(dU y.toNat : Int) := hs
    omega
  refine ⟨fun m hm => d_rr_le hv (by decide) (e0 := -1074) (by decide) he ?_, fun m hi hm => d_rr_ge hv (by decide) (e0 := -1074) (by decide) he hi ?_⟩
  · rw [hs2]; simpa using hm
  · rw [hs2]; simpa using hm
/-- x - y for 0 ≤ x < y: no NaN, below 0 -/
theorem dsub_n {x y : UInt64} (hx : x.toNat < 9218868437227405312) (hy : y.toNat < 9218868437227405312) (hxy : x.toNat < y.toNat) : 2 ^ 63 ≤ (FP.dsub x y).toNat ∧ (FP.dsub x y).toNat ≤ 2 ^ 63 + 9218868437227405312 := by
  have hU : dU x.toNat < dU y.toNat := FP.Core.unitsOf_lt_iff.mpr hxy
  obtain ⟨sg, n, e, hv, he, hs, hsg⟩ := dsub_s hx hy
  have h0 : sg = true := by
    cases sg with
    | true => rfl
    | false =>
      exfalso
      have : ((FP.Core.inUnits n e (-1074) : Nat) : Int) = (dU x.toNat : Int) + -(dU y.toNat : Int) := hs
      omega
  subst h0
  have hn : FP.Core.val64 (FP.dsub x y) ≠ .nan := by rw [hv]; exact FP.Core.roundRatio_ne_nan _ _ _ _ _
  have h1 := (FP.Core.ne_nan _).mp hn
  have h2 := FP.Core.sgn_bits hn
  rw [hv, FP.Core.sgn_roundRatio] at h2
  have h3 := of_decide_eq_true h2.symm
  have h4 := (FP.dsub x y).toNat_lt
  show _ ∧ _ ≤ 2 ^ 63 + 9218868437227405312
  have h5 : (FP.Core.dsub x y).toNat = (FP.dsub x y).toNat := rfl
  omega
theorem ddiv_b {x y : UInt64} (hx : x.toNat < 9218868437227405312) (hy : y.toNat < 9218868437227405312) (hy0 : 0 < y.toNat) : (FP.ddiv x y).toNat ≤ 9218868437227405312 ∧ (∀ m, dU x.toNat * 2 ^ 1074 ≤ dU m * dU y.toNat → (FP.ddiv x y).toNat ≤ m) ∧ (∀ m, m ≤ 9218868437227405312 → dU m * dU y.toNat ≤ dU x.toNat * 2 ^ 1074 → m ≤ (FP.ddiv x y).toNat) := by
  obtain ⟨c, q, x1, x2, x3⟩ := d_fin hx
  obtain ⟨d, r, y1, y2, y3⟩ := d_fin hy
  have hd0 : d ≠ 0 := by
    rintro rfl
    have h1 : FP.Core.zmag FP.Core.b64 (.fin false 0 r) = 0 := Nat.zero_mul _
    rw [y3] at h1
    have := FP.Core.unitsOf_eq_zero.mp h1
    omega
  have hv : FP.Core.val64 (FP.ddiv x y) = FP.Core.roundRatio FP.Core.b64 false c d (q - r) := by
    rw [FP.Core.val64_ddiv, x1, y1]
    simp only [FP.Core.quotient, if_neg hd0]
    rfl
  have hx1 := x2.2.1
  have hy1 := y2.2.1
  rw [FP.Core.qmin_b64] at hx1 hy1
  have e1 : FP.Core.inUnits c (q - r) (2 * -1074 - r) = dU x.toNat * 2 ^ 1074 := by
    rw [← x3]
    show c * _ = c * _ * _
    rw [FP.Core.qmin_b64, Nat.mul_assoc, ← Nat.pow_add]
    congr 2
    omega
  have e2 : 2 ^ (-1074 - (2 * -1074 - r)).toNat * d = dU y.toNat := by
    rw [← y3]
    show _ = d * _
    rw [FP.Core.qmin_b64, Nat.mul_comm]
    congr 2
    omega
  refine ⟨(d_rr hv).1, fun m hm => d_rr_le hv (by omega) (e0 := 2 * -1074 - r) (by omega) (by omega) ?_, fun m hi hm => d_rr_ge hv (by omega) (e0 := 2 * -1074 - r) (by omega) (by omega) hi ?_⟩
  · rw [e1, Nat.mul_assoc, e2]; exact hm
  · rw [e1, Nat.mul_assoc, e2]; exact hm
theorem d_nn {x : UInt64} (hx : x.toNat ≤ 9218868437227405312) : x &&& 0x7fffffffffffffff ≤ 0x7ff0000000000000 := by
  rw [UInt64.le_iff_toNat_le, UInt64.toNat_and]
  show x.toNat &&& (2 ^ 63 - 1) ≤ _
  rw [Nat.and_two_pow_sub_one_eq_mod]
  show _ ≤ 9218868437227405312
  omega
theorem d_nn2 {x : UInt64} (h1 : 2 ^ 63 ≤ x.toNat) (hx : x.toNat ≤ 2 ^ 63 + 9218868437227405312) : x &&& 0x7fffffffffffffff ≤ 0x7ff0000000000000 := by
  rw [UInt64.le_iff_toNat_le, UInt64.toNat_and]
  show x.toNat &&& (2 ^ 63 - 1) ≤ _
  rw [Nat.and_two_pow_sub_one_eq_mod]
  show _ ≤ 9218868437227405312
  omega
/-- comparing floats of sign + -/
theorem dcmp_b {x y : UInt64} (hx : x.toNat ≤ 9218868437227405312) (hy : y.toNat ≤ 9218868437227405312) : FP.dcmp x y = some (compare x.toNat y.toNat) := by
  have nx : FP.Core.val64 x ≠ .nan := (FP.Core.ne_nan x).mpr (by omega)
  have ny : FP.Core.val64 y ≠ .nan := (FP.Core.ne_nan y).mpr (by omega)
  have h := FP.Core.dcmp_key nx ny
  unfold FP.Core.dkey at h
  rw [if_neg (by omega), if_neg (by omega)] at h
  show FP.Core.dcmp x y = _
  rw [h, FP.Core.compare_ite, Nat.compare_eq_ite_lt]
  congr 1
  by_cases h1 : x.toNat < y.toNat
  · rw [if_pos (by omega), if_pos h1]
  · rw [if_neg (by omega), if_neg h1]
    by_cases h2 : x.toNat = y.toNat
    · rw [if_pos (by omega), if_neg (by omega)]
    · rw [if_neg (by omega), if_pos (by omega)]
theorem dU_s {m : Nat} (h : 2 ^ 52 ≤ m) : dU (m + 2 ^ 52) = 2 * dU m := by
  show FP.Core.unitsOf FP.Core.b64 _ = 2 * FP.Core.unitsOf FP.Core.b64 _
  unfold FP.Core.unitsOf
  rw [FP.Core.tails_b64, if_neg (by omega), if_neg (by omega)]
  have d1 : (m + 2 ^ 52) % 2 ^ 52 = m % 2 ^ 52 := by omega
  have d2 : (m + 2 ^ 52) / 2 ^ 52 - 1 = (m / 2 ^ 52 - 1) + 1 := by omega
  rw [d1, d2]
  generalize m / 2 ^ 52 - 1 = k
  rw [show (2 : Nat) ^ (k + 1) = 2 ^ k * 2 from Nat.pow_succ .., Nat.mul_comm 2, Nat.mul_assoc]
theorem d_half {x : UInt64} (h1 : 0x4000000000000000 ≤ x.toNat) (h2 : x.toNat < 9218868437227405312) : (FP.dmul x 0x3fe0000000000000).toNat = x.toNat - 2 ^ 52 := by
  obtain ⟨-, b2, b3⟩ := dmul_b (y := 0x3fe0000000000000) h2 (by decide)
  have e1 : dU (0x3fe0000000000000 : UInt64).toNat = 2 ^ 1073 := dU_2 (K := 1022) (by decide)
  have e2 := dU_s (m := x.toNat - 2 ^ 52) (by omega)
  rw [show x.toNat - 2 ^ 52 + 2 ^ 52 = x.toNat by omega] at e2
  have e3 : dU x.toNat * dU (0x3fe0000000000000 : UInt64).toNat = dU (x.toNat - 2 ^ 52) * 2 ^ 1074 := by rw [e1, e2]; omega
  have := b2 (x.toNat - 2 ^ 52) (Nat.le_of_eq e3)
  have := b3 (x.toNat - 2 ^ 52) (by omega) (Nat.le_of_eq e3.symm)
  omega
theorem d_rep {j e : Nat} (hj : j < 2 ^ 53) (he : 52 ≤ e) (he2 : e ≤ 2000) : ∃ m, m < 9218868437227405312 ∧ dU m = j * 2 ^ e := by
  by_cases h0 : j = 0
  · subst h0
    exact ⟨0, by decide, by rw [Nat.zero_mul]; exact FP.Core.unitsOf_zero _⟩
  have l1 : 2 ^ j.log2 ≤ j := Nat.log2_self_le h0
  have l2 : j < 2 ^ (j.log2 + 1) := Nat.lt_log2_self
  have l3 : j.log2 < 53 := (Nat.pow_lt_pow_iff_right (by decide : 1 < 2)).mp (Nat.lt_of_le_of_lt l1 hj)
  generalize j.log2 = t at l1 l2 l3
  have a1 : 2 ^ 52 ≤ j * 2 ^ (52 - t) := by
    calc 2 ^ 52 = 2 ^ t * 2 ^ (52 - t) := by rw [← Nat.pow_add]; congr 1; omega
      _ ≤ _ := Nat.mul_le_mul_right _ l1
  have a2 : j * 2 ^ (52 - t) < 2 ^ 53 := by
    calc j * 2 ^ (52 - t) < 2 ^ (t + 1) * 2 ^ (52 - t) := Nat.mul_lt_mul_of_pos_right l2 (Nat.two_pow_pos _)
      _ = 2 ^ 53 := by rw [← Nat.pow_add]; congr 1; omega
  obtain ⟨z, hz⟩ : ∃ z, j * 2 ^ (52 - t) = 2 ^ 52 + z := ⟨j * 2 ^ (52 - t) - 2 ^ 52, by omega⟩
  have hz2 : z < 2 ^ 52 := by omega
  refine ⟨(e + t - 51) * 2 ^ 52 + z, by omega, ?_⟩
  show FP.Core.unitsOf FP.Core.b64 _ = _
  unfold FP.Core.unitsOf
  rw [FP.Core.tails_b64, if_neg (by omega)]
  have d1 : ((e + t - 51) * 2 ^ 52 + z) % 2 ^ 52 = z := by omega
  have d2 : ((e + t - 51) * 2 ^ 52 + z) / 2 ^ 52 = e + t - 51 := by omega
  rw [d1, d2, ← hz, Nat.mul_assoc, ← Nat.pow_add]
  congr 2
  omega
theorem dU_one : dU 0x3ff0000000000000 = 2 ^ 1074 := dU_2 (K := 1023) (by decide)
theorem l2d_U {t : Nat} (ht : t < 2 ^ 52) : (FP.l2d (Int64.ofNat t)).toNat < 9218868437227405312 ∧ dU (FP.l2d (Int64.ofNat t)).toNat = t * 2 ^ 1074 := by
  have hti : (Int64.ofNat t).toInt = (t : Int) := Int64.toInt_ofNat_of_lt (by omega)
  obtain ⟨m, m1, m2⟩ := d_rep (j := t) (e := 1074) (by omega) (by decide) (by decide)
  have hv : FP.Core.val64 (FP.l2d (Int64.ofNat t)) = FP.Core.roundRatio FP.Core.b64 false t 1 0 := by
    rw [FP.Core.val64_l2d, hti]
    show FP.Core.roundRatio _ (decide ((t : Int) < 0)) (t : Int).natAbs 1 0 = _
    rw [decide_eq_false (by omega)]
    rfl
  have e0 : FP.Core.inUnits t 0 (-1074) = dU m * 2 ^ (-1074 - (-1074 : Int)).toNat * 1 := by
    rw [m2]
    show t * 2 ^ (0 - (-1074 : Int)).toNat = t * 2 ^ 1074 * 2 ^ 0 * 1
    rw [Nat.pow_zero, Nat.mul_one, Nat.mul_one]
    rfl
  have a1 := d_rr_le hv (by decide) (e0 := -1074) (by decide) (by decide) (Nat.le_of_eq e0)
  have a2 := d_rr_ge hv (by decide) (e0 := -1074) (by decide) (by decide) (Nat.le_of_lt m1) (Nat.le_of_eq e0.symm)
  have a3 : (FP.l2d (Int64.ofNat t)).toNat = m := Nat.le_antisymm a1 a2
  rw [a3]
  exact ⟨m1, m2⟩
/-- the digits behind the leading one of a float from 1 to 2 -/
theorem d_man {x : UInt64} (h1 : 0x3ff0000000000000 ≤ x.toNat) (h2 : x.toNat < 0x4000000000000000) : (FP.dsub x 0x3ff0000000000000).toNat < 9218868437227405312 ∧ (FP.dmul (FP.dsub x 0x3ff0000000000000) 0x4330000000000000).toNat < 9218868437227405312 ∧ FP.d2l (FP.dmul (FP.dsub x 0x3ff0000000000000) 0x4330000000000000) = Int64.ofNat (x.toNat - 0x3ff0000000000000) := by
  obtain ⟨t, ht⟩ : ∃ t, x.toNat = 0x3ff0000000000000 + t := ⟨x.toNat - 0x3ff0000000000000, by omega⟩
  have ht2 : t < 2 ^ 52 := by omega
  have ex : dU x.toNat = (2 ^ 52 + t) * 2 ^ 1022 := by
    rw [ht]
    show FP.Core.unitsOf FP.Core.b64 _ = _
    unfold FP.Core.unitsOf
    rw [FP.Core.tails_b64, if_neg (by omega)]
    have d1 : (0x3ff0000000000000 + t) % 2 ^ 52 = t := by omega
    have d2 : (0x3ff0000000000000 + t) / 2 ^ 52 - 1 = 1022 := by omega
    rw [d1, d2]
  obtain ⟨m, m1, m2⟩ := d_rep (j := t) (e := 1022) (by omega) (by decide) (by decide)
  have e9 : dU x.toNat - dU (0x3ff0000000000000 : UInt64).toNat = dU m := by
    rw [ex, m2, show dU (0x3ff0000000000000 : UInt64).toNat = 2 ^ 1074 from dU_one, Nat.add_mul, ← Nat.pow_add]
    omega
  obtain ⟨s1, s2⟩ := dsub_b (x := x) (y := 0x3ff0000000000000) (by omega) (by decide) h1
  have a1 := s1 m (Nat.le_of_eq e9)
  have a2 := s2 m (by omega) (Nat.le_of_eq e9.symm)
  have a3 : (FP.dsub x 0x3ff0000000000000).toNat = m := Nat.le_antisymm a1 a2
  obtain ⟨i1, i2⟩ := l2d_U ht2
  obtain ⟨-, b2, b3⟩ := dmul_b (x := FP.dsub x 0x3ff0000000000000) (y := 0x4330000000000000) (by omega) (by decide)
  have ec : dU (0x4330000000000000 : UInt64).toNat = 2 ^ 1126 := dU_2 (K := 1075) (by decide)
  have ed : dU (FP.dsub x 0x3ff0000000000000).toNat * dU (0x4330000000000000 : UInt64).toNat = dU (FP.l2d (Int64.ofNat t)).toNat * 2 ^ 1074 := by
    rw [a3, m2, ec, i2, Nat.mul_assoc, Nat.mul_assoc, ← Nat.pow_add, ← Nat.pow_add]
  have c1 := b2 _ (Nat.le_of_eq ed)
  have c2 := b3 _ (Nat.le_of_lt i1) (Nat.le_of_eq ed.symm)
  have c3 : FP.dmul (FP.dsub x 0x3ff0000000000000) 0x4330000000000000 = FP.l2d (Int64.ofNat t) := UInt64.toNat_inj.mp (Nat.le_antisymm c1 c2)
  refine ⟨by omega, by rw [c3]; exact i1, ?_⟩
  rw [c3, ht, show 0x3ff0000000000000 + t - 0x3ff0000000000000 = t by omega]
  have hti : (Int64.ofNat t).toInt = (t : Int) := Int64.toInt_ofNat_of_lt (by omega)
  exact FP.Core.d2l_int (FP.Core.l2d_int (by rw [hti]; show t ≤ _; omega))
end
