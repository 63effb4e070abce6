-- needs: 092
noncomputable section
theorem fU_s {m : Nat} (h : 2 ^ 23 ≤ m) : fU (m + 2 ^ 23) = 2 * fU m := by
  show FP.Core.unitsOf FP.Core.b32 _ = 2 * FP.Core.unitsOf FP.Core.b32 _
  unfold FP.Core.unitsOf
  rw [FP.Core.tails_b32, if_neg (by omega), if_neg (by omega)]
  have d1 : (m + 2 ^ 23) % 2 ^ 23 = m % 2 ^ 23 := by omega
  have d2 : (m + 2 ^ 23) / 2 ^ 23 - 1 = (m / 2 ^ 23 - 1) + 1 := by omega
  rw [d1, d2]
  generalize m / 2 ^ 23 - 1 = k
  rw [show (2 : Nat) ^ (k + 1) = 2 ^ k * 2 from Nat.pow_succ .., Nat.mul_comm 2, Nat.mul_assoc]
theorem f_half {x : UInt32} (h1 : 0x40000000 ≤ x.toNat) (h2 : x.toNat < 2139095040) : (FP.fmul x 0x3f000000).toNat = x.toNat - 2 ^ 23 := by
  obtain ⟨-, b2, b3⟩ := fmul_b (y := 0x3f000000) h2 (by decide)
  have e1 : fU (0x3f000000 : UInt32).toNat = 2 ^ 148 := fU_2 (K := 126) (by decide)
  have e2 := fU_s (m := x.toNat - 2 ^ 23) (by omega)
  rw [show x.toNat - 2 ^ 23 + 2 ^ 23 = x.toNat by omega] at e2
  have e3 : fU x.toNat * fU (0x3f000000 : UInt32).toNat = fU (x.toNat - 2 ^ 23) * 2 ^ 149 := by rw [e1, e2]; omega
  have := b2 (x.toNat - 2 ^ 23) (Nat.le_of_eq e3)
  have := b3 (x.toNat - 2 ^ 23) (by omega) (Nat.le_of_eq e3.symm)
  omega
theorem f_dbl {x : UInt32} (h1 : 2 ^ 23 ≤ x.toNat) (h2 : x.toNat < 0x7f000000) : (FP.fmul x 0x40000000).toNat = x.toNat + 2 ^ 23 := by
  obtain ⟨-, b2, b3⟩ := fmul_b (x := x) (y := 0x40000000) (by omega) (by decide)
  have e1 : fU (0x40000000 : UInt32).toNat = 2 ^ 150 := fU_2 (K := 128) (by decide)
  have e2 := fU_s h1
  have e3 : fU x.toNat * fU (0x40000000 : UInt32).toNat = fU (x.toNat + 2 ^ 23) * 2 ^ 149 := by rw [e1, e2]; omega
  have := b2 (x.toNat + 2 ^ 23) (Nat.le_of_eq e3)
  have := b3 (x.toNat + 2 ^ 23) (by omega) (Nat.le_of_eq e3.symm)
  omega
theorem i2f_U {t : Nat} (ht : t < 2 ^ 23) : (FP.i2f (Int32.ofNat t)).toNat < 2139095040 ∧ fU (FP.i2f (Int32.ofNat t)).toNat = t * 2 ^ 149 := by
  have hti : (Int32.ofNat t).toInt = (t : Int) := Int32.toInt_ofNat_of_lt (by omega)
  obtain ⟨m, m1, m2⟩ := f_rep (j := t) (e := 149) (by omega) (by decide) (by decide)
  have hv : FP.Core.val32 (FP.i2f (Int32.ofNat t)) = FP.Core.roundRatio FP.Core.b32 false t 1 0 := by
    rw [FP.Core.val32_i2f, hti]
    show FP.Core.roundRatio _ (decide ((t : Int) < 0)) (t : Int).natAbs 1 0 = _
    rw [decide_eq_false (by omega)]
    rfl
  have e0 : FP.Core.inUnits t 0 (-149) = fU m * 2 ^ (-149 - (-149 : Int)).toNat * 1 := by
    rw [m2]
    show t * 2 ^ (0 - (-149 : Int)).toNat = t * 2 ^ 149 * 2 ^ 0 * 1
    rw [Nat.pow_zero, Nat.mul_one, Nat.mul_one]
    rfl
  have a1 := f_rr_le hv (by decide) (e0 := -149) (by decide) (by decide) (Nat.le_of_eq e0)
  have a2 := f_rr_ge hv (by decide) (e0 := -149) (by decide) (by decide) (Nat.le_of_lt m1) (Nat.le_of_eq e0.symm)
  have a3 : (FP.i2f (Int32.ofNat t)).toNat = m := Nat.le_antisymm a1 a2
  rw [a3]
  exact ⟨m1, m2⟩
/-- the digits behind the leading one of a float from 1 to 2 -/
theorem f_man {x : UInt32} (h1 : 0x3f800000 ≤ x.toNat) (h2 : x.toNat < 0x40000000) : (FP.fsub x 0x3f800000).toNat < 2139095040 ∧ (FP.fmul (FP.fsub x 0x3f800000) 0x4b000000).toNat < 2139095040 ∧ FP.f2i (FP.fmul (FP.fsub x 0x3f800000) 0x4b000000) = Int32.ofNat (x.toNat - 0x3f800000) := by
  obtain ⟨t, ht⟩ : ∃ t, x.toNat = 0x3f800000 + t := ⟨x.toNat - 0x3f800000, by omega⟩
  have ht2 : t < 2 ^ 23 := by omega
  have ex : fU x.toNat = (2 ^ 23 + t) * 2 ^ 126 := by
    rw [ht]
    show FP.Core.unitsOf FP.Core.b32 _ = _
    unfold FP.Core.unitsOf
    rw [FP.Core.tails_b32, if_neg (by omega)]
    have d1 : (0x3f800000 + t) % 2 ^ 23 = t := by omega
    have d2 : (0x3f800000 + t) / 2 ^ 23 - 1 = 126 := by omega
    rw [d1, d2]
  obtain ⟨m, m1, m2⟩ := f_rep (j := t) (e := 126) (by omega) (by decide) (by decide)
  have e9 : fU x.toNat - fU (0x3f800000 : UInt32).toNat = fU m := by
    rw [ex, m2, show fU (0x3f800000 : UInt32).toNat = 2 ^ 149 from fU_one, Nat.add_mul, ← Nat.pow_add]
    omega
  obtain ⟨s1, s2⟩ := fsub_b (x := x) (y := 0x3f800000) (by omega) (by decide) h1
  have a1 := s1 m (Nat.le_of_eq e9)
  have a2 := s2 m (by omega) (Nat.le_of_eq e9.symm)
  have a3 : (FP.fsub x 0x3f800000).toNat = m := Nat.le_antisymm a1 a2
  obtain ⟨i1, i2⟩ := i2f_U ht2
  obtain ⟨-, b2, b3⟩ := fmul_b (x := FP.fsub x 0x3f800000) (y := 0x4b000000) (by omega) (by decide)
  have ec : fU (0x4b000000 : UInt32).toNat = 2 ^ 172 := fU_2 (K := 150) (by decide)
  have ed : fU (FP.fsub x 0x3f800000).toNat * fU (0x4b000000 : UInt32).toNat = fU (FP.i2f (Int32.ofNat t)).toNat * 2 ^ 149 := by
    rw [a3, m2, ec, i2, Nat.mul_assoc, Nat.mul_assoc, ← Nat.pow_add]
  have c1 := b2 _ (Nat.le_of_eq ed)
  have c2 := b3 _ (Nat.le_of_lt i1) (Nat.le_of_eq ed.symm)
  have c3 : FP.fmul (FP.fsub x 0x3f800000) 0x4b000000 = FP.i2f (Int32.ofNat t) := UInt32.toNat_inj.mp (Nat.le_antisymm c1 c2)
  refine ⟨by omega, by rw [c3]; exact i1, ?_⟩
  rw [c3, ht, show 0x3f800000 + t - 0x3f800000 = t by omega]
  have hti : (Int32.ofNat t).toInt = (t : Int) := Int32.toInt_ofNat_of_lt (by omega)
  exact FP.Core.f2i_int (FP.Core.i2f_int (by rw [hti]; show t ≤ _; omega))
theorem bits_or {E m : Nat} (hm : m < 2 ^ 23) (hE : E < 256) : (Int32.ofNat E <<< 23) ||| Int32.ofNat m = Int32.ofNat (E * 2 ^ 23 + m) := by
  apply Int32.toBitVec_inj.mp
  apply BitVec.eq_of_toNat_eq
  have e1 : (Int32.ofNat m).toBitVec.toNat = m := by
    rw [Int32.toBitVec_ofNat', BitVec.toNat_ofNat]
    exact Nat.mod_eq_of_lt (by omega)
  have e2 : (Int32.ofNat E).toBitVec.toNat = E := by
    rw [Int32.toBitVec_ofNat', BitVec.toNat_ofNat]
    exact Nat.mod_eq_of_lt (by omega)
  have e3 : (Int32.ofNat (E * 2 ^ 23 + m)).toBitVec.toNat = E * 2 ^ 23 + m := by
    rw [Int32.toBitVec_ofNat', BitVec.toNat_ofNat]
    exact Nat.mod_eq_of_lt (by omega)
  have e5 : (Int32.toBitVec 23).smod 32 = 23#32 := by decide
  rw [Int32.toBitVec_or, Int32.toBitVec_shiftLeft, BitVec.toNat_or, e1, e3, e5, BitVec.shiftLeft_eq', BitVec.toNat_shiftLeft, e2, BitVec.toNat_ofNat, Nat.shiftLeft_eq]
  rw [show 23 % 2 ^ 32 = 23 from rfl, Nat.mod_eq_of_lt (by omega), ← Nat.shiftLeft_eq, ← Nat.shiftLeft_add_eq_or_of_lt hm]
end
