-- needs: 091
noncomputable section
/-- j of the units 2 ^ e, written -/
theorem f_rep {j e : Nat} (hj : j < 2 ^ 24) (he : 23 ≤ e) (he2 : e ≤ 252) : ∃ m, m < 2139095040 ∧ fU m = j * 2 ^ e := by
  by_cases h0 : j = 0
  · subst h0
    exact ⟨0, by decide, by rw [Nat.zero_mul]; exact FP.Core.unitsOf_zero _⟩
  have l1 : 2 ^ j.log2 ≤ j := Nat.log2_self_le h0
  have l2 : j < 2 ^ (j.log2 + 1) := Nat.lt_log2_self
  have l3 : j.log2 < 24 := (Nat.pow_lt_pow_iff_right (by decide : 1 < 2)).mp (Nat.lt_of_le_of_lt l1 hj)
  generalize j.log2 = t at l1 l2 l3
  have a1 : 2 ^ 23 ≤ j * 2 ^ (23 - t) := by
    calc 2 ^ 23 = 2 ^ t * 2 ^ (23 - t) := by rw [← Nat.pow_add]; congr 1; omega
      _ ≤ _ := Nat.mul_le_mul_right _ l1
  have a2 : j * 2 ^ (23 - t) < 2 ^ 24 := by
    calc j * 2 ^ (23 - t) < 2 ^ (t + 1) * 2 ^ (23 - t) := Nat.mul_lt_mul_of_pos_right l2 (Nat.two_pow_pos _)
      _ = 2 ^ 24 := by rw [← Nat.pow_add]; congr 1; omega
  obtain ⟨z, hz⟩ : ∃ z, j * 2 ^ (23 - t) = 2 ^ 23 + z := ⟨j * 2 ^ (23 - t) - 2 ^ 23, by omega⟩
  have hz2 : z < 2 ^ 23 := by omega
  refine ⟨(e + t - 22) * 2 ^ 23 + z, by omega, ?_⟩
  show FP.Core.unitsOf FP.Core.b32 _ = _
  unfold FP.Core.unitsOf
  rw [FP.Core.tails_b32, if_neg (by omega)]
  have d1 : ((e + t - 22) * 2 ^ 23 + z) % 2 ^ 23 = z := by omega
  have d2 : ((e + t - 22) * 2 ^ 23 + z) / 2 ^ 23 = e + t - 22 := by omega
  rw [d1, d2, ← hz, Nat.mul_assoc, ← Nat.pow_add]
  congr 2
  omega
/-- a mass of a block that is not gone: from 1 to 360 -/
def mOk (x : UInt32) : Prop := 0x3f800000 ≤ x.toNat ∧ x.toNat ≤ 0x43b40000
theorem mOk.fin {x : UInt32} (h : mOk x) : x.toNat < 2139095040 := Nat.lt_of_le_of_lt h.2 (by decide)
theorem fU_one : fU 0x3f800000 = 2 ^ 149 := fU_2 (K := 127) (by decide)
theorem fU_360 : fU 0x43b40000 ≤ 2 ^ 158 := by
  have h : fU (136 * 2 ^ 23) = 2 ^ (136 + 22) := fU_2 (K := 136) (by decide)
  rw [show (2 : Nat) ^ 158 = 2 ^ (136 + 22) from rfl, ← h]
  exact fU_le.mpr (by decide)
/-- times a factor from 0 to 1 -/
theorem f_mul1 {x f : UInt32} (hx : x.toNat < 2139095040) (hf : f.toNat ≤ 0x3f800000) : (FP.fmul x f).toNat ≤ x.toNat := by
  refine (fmul_b hx (Nat.lt_of_le_of_lt hf (by decide))).2.1 _ ?_
  rw [← fU_one]
  exact Nat.mul_le_mul_left _ (fU_le.mpr hf)
/-- times a factor from 1 on -/
theorem f_mul2 {x f : UInt32} (hx : x.toNat < 2139095040) (hf : 0x3f800000 ≤ f.toNat) (hf2 : f.toNat < 2139095040) : x.toNat ≤ (FP.fmul x f).toNat := by
  refine (fmul_b hx hf2).2.2 _ (Nat.le_of_lt hx) ?_
  rw [← fU_one]
  exact Nat.mul_le_mul_left _ (fU_le.mpr hf)
/-- x times y below 2 ^ (a + b) -/
theorem f_mul3 {x y : UInt32} {a b : Nat} (hx : x.toNat < 2139095040) (hy : y.toNat < 2139095040) (ha : fU x.toNat ≤ 2 ^ (a + 149)) (hb : fU y.toNat ≤ 2 ^ (b + 149)) (hab : a + b ≤ 100) : (FP.fmul x y).toNat < 2139095040 ∧ fU (FP.fmul x y).toNat ≤ 2 ^ (a + b + 149) := by
  have h1 : fU ((a + b + 127) * 2 ^ 23) = 2 ^ (a + b + 127 + 22) := fU_2 (by omega)
  have h2 : (FP.fmul x y).toNat ≤ (a + b + 127) * 2 ^ 23 := by
    refine (fmul_b hx hy).2.1 _ ?_
    rw [h1]
    calc fU x.toNat * fU y.toNat ≤ 2 ^ (a + 149) * 2 ^ (b + 149) := Nat.mul_le_mul ha hb
      _ = 2 ^ (a + b + 127 + 22) * 2 ^ 149 := by rw [← Nat.pow_add, ← Nat.pow_add]; congr 1; omega
  refine ⟨by omega, ?_⟩
  have := fU_le.mpr h2
  rw [h1] at this
  exact this
theorem f_add3 {x y : UInt32} {a : Nat} (hx : x.toNat < 2139095040) (hy : y.toNat < 2139095040) (ha : fU x.toNat + fU y.toNat ≤ 2 ^ (a + 149)) (hab : a ≤ 100) : (FP.fadd x y).toNat < 2139095040 ∧ fU (FP.fadd x y).toNat ≤ 2 ^ (a + 149) := by
  have h1 : fU ((a + 127) * 2 ^ 23) = 2 ^ (a + 127 + 22) := fU_2 (by omega)
  have h2 : (FP.fadd x y).toNat ≤ (a + 127) * 2 ^ 23 := by
    refine (fadd_b hx hy).2.1 _ ?_
    rw [h1]
    exact ha
  refine ⟨by omega, ?_⟩
  have := fU_le.mpr h2
  rw [h1] at this
  exact this
theorem f_div3 {x y : UInt32} {a : Nat} (hx : x.toNat < 2139095040) (hy : 0x3f800000 ≤ y.toNat) (hy2 : y.toNat < 2139095040) (ha : fU x.toNat ≤ 2 ^ (a + 149)) (hab : a ≤ 100) : (FP.fdiv x y).toNat < 2139095040 ∧ fU (FP.fdiv x y).toNat ≤ 2 ^ (a + 149) := by
  have h1 : fU ((a + 127) * 2 ^ 23) = 2 ^ (a + 127 + 22) := fU_2 (by omega)
  have h2 : (FP.fdiv x y).toNat ≤ (a + 127) * 2 ^ 23 := by
    refine (fdiv_b hx hy2 (by omega)).2.1 _ ?_
    rw [h1]
    have := fU_le.mpr hy
    rw [fU_one] at this
    exact Nat.mul_le_mul ha this
  refine ⟨by omega, ?_⟩
  have := fU_le.mpr h2
  rw [h1] at this
  exact this
/-- whole numbers up to 8 as floats -/
theorem i2f_8 : ∀ n ∈ List.range 61, n ≠ 0 → 0x3f800000 ≤ (FP.i2f (Int32.ofNat n)).toNat ∧ (FP.i2f (Int32.ofNat n)).toNat < 2139095040 := by decide +kernel
theorem i2f_le8 : ∀ n ∈ List.range 7, (FP.i2f (Int32.ofNat n)).toNat ≤ 0x41000000 := by decide +kernel
/-- what a block lies with on another: (mass + load) * columns / supported columns -/
def shareF (w ld : UInt32) (n s : Nat) : UInt32 := FP.fdiv (FP.fmul (FP.fadd w ld) (FP.i2f (Int32.ofNat n))) (FP.i2f (Int32.ofNat s))
/-- a load: 0, or from 1/8 to 40 * 2 ^ (9 + 10 * n), n: how many courses may stand above -/
def ldOk (n : Nat) (x : UInt32) : Prop := x.toNat < 2139095040 ∧ (x.toNat = 0 ∨ 0x3e000000 ≤ x.toNat) ∧ fU x.toNat ≤ 40 * 2 ^ (158 + 10 * n)
theorem ldOk_0 (n : Nat) : ldOk n 0 := ⟨by decide, Or.inl rfl, by rw [show (0 : UInt32).toNat = 0 from rfl, show fU 0 = 0 from FP.Core.unitsOf_zero _]; exact Nat.zero_le _⟩
theorem share_ok {w ld : UInt32} {c s n : Nat} (hn : n ≤ 7) (hw : mOk w) (hl : ldOk n ld) (hc : c ≠ 0) (hc2 : c < 7) (hs : s ≠ 0) (hs2 : s < 7) :
    (FP.fadd w ld).toNat < 2139095040 ∧ (FP.fmul (FP.fadd w ld) (FP.i2f (Int32.ofNat c))).toNat < 2139095040 ∧ (shareF w ld c s).toNat < 2139095040 ∧ 0x3e000000 ≤ (shareF w ld c s).toNat ∧ fU (shareF w ld c s).toNat ≤ 2 ^ (158 + 10 * (n + 1)) := by
  obtain ⟨l1, l2, l3⟩ := hl
  have hw9 := hw.fin
  have hwU := Nat.le_trans (fU_le.mpr hw.2) fU_360
  obtain ⟨c1, c2⟩ := i2f_8 c (List.mem_range.mpr (by omega)) hc
  have c3 := i2f_le8 c (List.mem_range.mpr hc2)
  obtain ⟨s1, s2⟩ := i2f_8 s (List.mem_range.mpr (by omega)) hs
  have s3 := i2f_le8 s (List.mem_range.mpr hs2)
  have hU8 : fU 0x41000000 = 2 ^ 152 := fU_2 (K := 130) (by decide)
  have hp : (2 : Nat) ^ 158 ≤ 2 ^ (158 + 10 * n) := Nat.pow_le_pow_right (by decide) (by omega)
  obtain ⟨a1, a2⟩ := f_add3 (a := 16 + 10 * n) hw9 l1 (by
    have : 2 ^ (16 + 10 * n + 149) = 128 * 2 ^ (158 + 10 * n) := by rw [show (128 : Nat) = 2 ^ 7 from rfl, ← Nat.pow_add]; congr 1; omega
    omega) (by omega)
  have a3 : w.toNat ≤ (FP.fadd w ld).toNat := (fadd_b hw9 l1).2.2 _ (Nat.le_of_lt hw9) (Nat.le_add_right _ _)
  have c4 := fU_le.mpr c3
  rw [hU8] at c4
  obtain ⟨m1, m2⟩ := f_mul3 (a := 16 + 10 * n) (b := 3) a1 c2 a2 c4 (by omega)
  have m3 := f_mul2 a1 c1 c2
  obtain ⟨d1, d2⟩ := f_div3 (a := 16 + 10 * n + 3) m1 s1 s2 m2 (by omega)
  refine ⟨a1, m1, d1, ?_, ?_⟩
  · refine (fdiv_b m1 s2 (by omega)).2.2 _ (by decide) ?_
    have e1 : fU 0x3e000000 = 2 ^ 146 := fU_2 (K := 124) (by decide)
    have e2 : 2 ^ 149 ≤ fU (FP.fmul (FP.fadd w ld) (FP.i2f (Int32.ofNat c))).toNat := by
      rw [← fU_one]
      exact fU_le.mpr (by have := hw.1; omega)
    have s4 := fU_le.mpr s3
    rw [hU8] at s4
    rw [e1]
    calc 2 ^ 146 * fU (FP.i2f (Int32.ofNat s)).toNat ≤ 2 ^ 146 * 2 ^ 152 := Nat.mul_le_mul_left _ s4
      _ = 2 ^ 149 * 2 ^ 149 := by rw [← Nat.pow_add]
      _ ≤ _ := Nat.mul_le_mul_right _ e2
  · refine Nat.le_trans d2 (Nat.pow_le_pow_right (by decide) (by omega))
/-- a load with one block more upon it -/
theorem load_add {acc q : UInt32} {j n : Nat} (hn : n ≤ 7) (hj : j < 40) (h1 : acc.toNat < 2139095040) (h2 : acc.toNat = 0 ∨ 0x3e000000 ≤ acc.toNat) (h3 : fU acc.toNat ≤ j * 2 ^ (158 + 10 * n)) (q1 : q.toNat < 2139095040) (q2 : 0x3e000000 ≤ q.toNat) (q3 : fU q.toNat ≤ 2 ^ (158 + 10 * n)) :
    (FP.fadd acc q).toNat < 2139095040 ∧ 0x3e000000 ≤ (FP.fadd acc q).toNat ∧ fU (FP.fadd acc q).toNat ≤ (j + 1) * 2 ^ (158 + 10 * n) := by
  obtain ⟨m, m1, m2⟩ := f_rep (j := j + 1) (e := 158 + 10 * n) (by omega) (by omega) (by omega)
  obtain ⟨b1, b2, b3⟩ := fadd_b h1 q1
  have e1 : (FP.fadd acc q).toNat ≤ m := b2 m (by rw [m2, Nat.add_mul, Nat.one_mul]; omega)
  refine ⟨by omega, ?_, by rw [← m2]; exact fU_le.mpr e1⟩
  exact Nat.le_trans q2 (b3 _ (Nat.le_of_lt q1) (Nat.le_add_left _ _))
/-- the sun's factor: between a half and 1 -/
theorem sun_ok : ∀ n ∈ List.range 21, (FP.fmul 0x3c23d70a (FP.i2f (Int32.ofNat n))).toNat < 2139095040 ∧ (FP.fmul 0x3ba3d70a (FP.i2f (Int32.ofNat n))).toNat < 2139095040 ∧ (FP.fsub 0x3f800000 (FP.fmul 0x3c23d70a (FP.i2f (Int32.ofNat n)))).toNat ≤ 0x3f800000 ∧ (FP.fsub 0x3f800000 (FP.fmul 0x3ba3d70a (FP.i2f (Int32.ofNat n)))).toNat ≤ 0x3f800000 := by decide +kernel
theorem warm_ok : ∀ n ∈ List.range 51, (FP.fmul 0x3dcccccd (FP.i2f (Int32.ofNat n))).toNat < 2139095040 := by decide +kernel
/-- frost's factor of a joint: from 1 to 2 -/
theorem joint_ok : ∀ n ∈ List.range 10, (FP.fmul 0x3dcccccd (FP.i2f (Int32.ofNat n))).toNat < 2139095040 ∧ 0x3f800000 ≤ (FP.fadd 0x3f800000 (FP.fmul 0x3dcccccd (FP.i2f (Int32.ofNat n)))).toNat ∧ (FP.fadd 0x3f800000 (FP.fmul 0x3dcccccd (FP.i2f (Int32.ofNat n)))).toNat ≤ 0x40000000 := by decide +kernel
theorem new_ok : ∀ l ∈ List.range 7, l ≠ 0 → ∀ t ∈ List.range 61, 10 ≤ t → (FP.fmul (FP.i2f (Int32.ofNat l)) (FP.i2f (Int32.ofNat t))).toNat < 2139095040 ∧ 0x3f800000 ≤ (FP.fmul (FP.fmul (FP.i2f (Int32.ofNat l)) (FP.i2f (Int32.ofNat t))) 0x3f800000).toNat ∧ (FP.fmul (FP.fmul (FP.i2f (Int32.ofNat l)) (FP.i2f (Int32.ofNat t))) 0x3f800000).toNat ≤ 0x43b40000 ∧ 0x3f800000 ≤ (FP.fmul (FP.fmul (FP.i2f (Int32.ofNat l)) (FP.i2f (Int32.ofNat t))) 0x3f000000).toNat ∧ (FP.fmul (FP.fmul (FP.i2f (Int32.ofNat l)) (FP.i2f (Int32.ofNat t))) 0x3f000000).toNat ≤ 0x43b40000 := by decide +kernel
/-- what a block bears -/
def bornF (w : UInt32) (kind j : Nat) : UInt32 := FP.fmul (FP.fmul w (if kind = 0 then 0x40800000 else 0x40000000)) (FP.fadd 0x3f800000 (FP.fmul 0x3dcccccd (FP.i2f (Int32.ofNat j))))
theorem born_ok {w : UInt32} {kd j : Nat} (hw : mOk w) (hj : j < 10) : (FP.fmul w (if kd = 0 then 0x40800000 else 0x40000000)).toNat < 2139095040 ∧ (bornF w kd j).toNat < 2139095040 ∧ 0x3f800000 ≤ (bornF w kd j).toNat ∧ fU (bornF w kd j).toNat ≤ 2 ^ 162 := by
  obtain ⟨-, j1, j2⟩ := joint_ok j (List.mem_range.mpr hj)
  have hw9 := hw.fin
  have hwU := Nat.le_trans (fU_le.mpr hw.2) fU_360
  have f1 : 0x3f800000 ≤ (if kd = 0 then (0x40800000 : UInt32) else 0x40000000).toNat ∧ (if kd = 0 then (0x40800000 : UInt32) else 0x40000000).toNat ≤ 0x40800000 := by split <;> decide
  have e4 : fU 0x40800000 = 2 ^ (2 + 149) := fU_2 (K := 129) (by decide)
  have e2 : fU 0x40000000 = 2 ^ (1 + 149) := fU_2 (K := 128) (by decide)
  obtain ⟨a1, a2⟩ := f_mul3 (a := 9) (b := 2) (y := if kd = 0 then 0x40800000 else 0x40000000) hw9 (by omega) hwU (by rw [← e4]; exact fU_le.mpr f1.2) (by decide)
  have a3 := f_mul2 hw9 f1.1 (by omega)
  obtain ⟨b1, b2⟩ := f_mul3 (a := 11) (b := 1) a1 (Nat.lt_of_le_of_lt j2 (by decide)) a2 (by rw [← e2]; exact fU_le.mpr j2) (by decide)
  have b3 := f_mul2 a1 j1 (Nat.lt_of_le_of_lt j2 (by decide))
  refine ⟨a1, b1, ?_, Nat.le_trans b2 (by decide)⟩
  have := hw.1
  unfold bornF
  omega
/-- below 1, or not: for a float that is no NaN and either at most 360 or below 0 -/
theorem lt1_iff {x : UInt32} (hx : x.toNat < 2139095040 ∨ 2 ^ 31 ≤ x.toNat ∧ x.toNat ≤ 2 ^ 31 + 2139095040) : 0 ≤ Op.cmpValue (FP.fcmp x 0x3f800000) .g ↔ 0x3f800000 ≤ x.toNat ∧ x.toNat < 2139095040 := by
  rcases hx with h | ⟨h1, h2⟩
  · rw [fcmp_b (Nat.le_of_lt h) (by decide)]
    rw [Nat.compare_eq_ite_lt]
    show _ ↔ 1065353216 ≤ _ ∧ _
    have e1 : (0x3f800000 : UInt32).toNat = 1065353216 := rfl
    rw [e1]
    by_cases c1 : x.toNat < 1065353216
    · rw [if_pos c1]
      exact ⟨fun q => absurd q (by decide), fun q => by omega⟩
    · rw [if_neg c1]
      split
      · exact ⟨fun _ => by omega, fun _ => by decide⟩
      · exact ⟨fun _ => by omega, fun _ => by decide⟩
  · have nx : FP.Core.val32 x ≠ .nan := (FP.Core.ne_nan32 x).mpr (by omega)
    have h3 : FP.fcmp x 0x3f800000 = some .lt := by
      refine (FP.Core.fcmp_lt_key nx (by decide +kernel)).mpr ?_
      unfold FP.Core.fkey
      rw [if_pos h1, if_neg (by decide)]
      show _ < (1065353216 : Int)
      omega
    rw [h3]
    exact ⟨fun q => absurd q (by decide), fun q => by omega⟩
end
