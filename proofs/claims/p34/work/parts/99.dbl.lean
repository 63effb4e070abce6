-- needs: 98
noncomputable section
theorem f2d_b {x : UInt32} (hx : x.toNat < 2139095040) : (FP.f2d x).toNat ≤ 9218868437227405312 ∧ (∀ m, fU x.toNat * 2 ^ 925 ≤ dU m → (FP.f2d x).toNat ≤ m) ∧ (∀ m, m ≤ 9218868437227405312 → dU m ≤ fU x.toNat * 2 ^ 925 → m ≤ (FP.f2d x).toNat) := by
  obtain ⟨c, q, x1, x2, x3⟩ := f_fin hx
  have hq : (-149 : Int) ≤ q := by
    have := x2.2.1
    rw [FP.Core.qmin_b32] at this
    exact this
  have x3 : c * 2 ^ (q - -149).toNat = fU x.toNat := by
    rw [← x3]
    show _ = FP.Core.inUnits c q FP.Core.b32.qmin
    rw [FP.Core.qmin_b32]
    rfl
  have hv : FP.Core.val64 (FP.f2d x) = FP.Core.roundRatio FP.Core.b64 false c 1 q := by
    have nx : FP.Core.fIsNaN x = false := (FP.Core.notNaN_iff32 x).mpr (by rw [x1]; intro z; cases z)
    rw [FP.f2d_core nx, FP.Core.val64_f2d, x1]; rfl
  have hu : FP.Core.inUnits c q (-1074) = fU x.toNat * 2 ^ 925 := by
    unfold FP.Core.inUnits
    rw [show (q - -1074).toNat = (q - -149).toNat + 925 by omega, Nat.pow_add, ← Nat.mul_assoc, x3]
  refine ⟨(d_rr hv).1, fun m hm => d_rr_le hv (by decide) (e0 := -1074) (by decide) (by omega) ?_, fun m hi hm => d_rr_ge hv (by decide) (e0 := -1074) (by decide) (by omega) hi ?_⟩
  · rw [hu, Nat.mul_one, show (-1074 - -1074 : Int).toNat = 0 from rfl, Nat.pow_zero, Nat.mul_one]; exact hm
  · rw [hu, Nat.mul_one, show (-1074 - -1074 : Int).toNat = 0 from rfl, Nat.pow_zero, Nat.mul_one]; exact hm
/-- a mass as a double: from 1 to 512 -/
theorem f2d_m {x : UInt32} (hx : mOk x) : 2 ^ 1074 ≤ dU (FP.f2d x).toNat ∧ dU (FP.f2d x).toNat ≤ 512 * 2 ^ 1074 ∧ (FP.f2d x).toNat < 9218868437227405312 := by
  have hx2 : x.toNat < 2139095040 := Nat.lt_of_le_of_lt hx.2 (by decide)
  obtain ⟨-, b1, b2⟩ := f2d_b hx2
  have u1 : fU 0x3f800000 = 2 ^ 149 := fU_2 (K := 127) (by decide)
  have u2 : fU 0x44000000 = 2 ^ 158 := fU_2 (K := 136) (by decide)
  have v1 : 2 ^ 149 ≤ fU x.toNat := by rw [← u1]; exact fU_le.mpr hx.1
  have v2 : fU x.toNat ≤ 2 ^ 158 := by rw [← u2]; exact fU_le.mpr (Nat.le_trans hx.2 (by decide))
  have one : dU 0x3ff0000000000000 = 2 ^ 1074 := dU_one
  have big : dU 0x4080000000000000 = 2 ^ 1083 := dU_2 (K := 1032) (by decide)
  have c1 := b2 0x3ff0000000000000 (by decide) (by rw [one, show (1074 : Nat) = 149 + 925 from rfl, Nat.pow_add]; exact Nat.mul_le_mul_right _ v1)
  have c2 := b1 0x4080000000000000 (by rw [big, show (1083 : Nat) = 158 + 925 from rfl, Nat.pow_add]; exact Nat.mul_le_mul_right _ v2)
  refine ⟨by rw [← one]; exact dU_le.mpr c1, ?_, Nat.lt_of_le_of_lt c2 (by decide)⟩
  rw [show 512 * 2 ^ 1074 = 2 ^ 1083 by rw [show (1083 : Nat) = 9 + 1074 from rfl, Nat.pow_add]]
  rw [← big]
  exact dU_le.mpr c2
/-- a sum of masses, of which k are counted -/
theorem dadd_k {x y : UInt64} {k : Nat} (hk : k ≤ 100) (hx : x.toNat < 9218868437227405312) (x1 : k * 2 ^ 1074 ≤ dU x.toNat) (x2 : dU x.toNat ≤ k * 512 * 2 ^ 1074) (hy : y.toNat < 9218868437227405312) (y1 : 2 ^ 1074 ≤ dU y.toNat) (y2 : dU y.toNat ≤ 512 * 2 ^ 1074) : (k + 1) * 2 ^ 1074 ≤ dU (FP.dadd x y).toNat ∧ dU (FP.dadd x y).toNat ≤ (k + 1) * 512 * 2 ^ 1074 ∧ (FP.dadd x y).toNat < 9218868437227405312 := by
  obtain ⟨-, b1, b2⟩ := dadd_b hx hy
  obtain ⟨m1, a1, a2⟩ := d_rep (j := k + 1) (e := 1074) (by omega) (by decide) (by decide)
  obtain ⟨m2, a3, a4⟩ := d_rep (j := (k + 1) * 512) (e := 1074) (by omega) (by decide) (by decide)
  have e1 : (k + 1) * 2 ^ 1074 = k * 2 ^ 1074 + 2 ^ 1074 := by rw [Nat.add_mul, Nat.one_mul]
  have e2 : (k + 1) * 512 * 2 ^ 1074 = k * 512 * 2 ^ 1074 + 512 * 2 ^ 1074 := by rw [Nat.add_mul, Nat.one_mul, Nat.add_mul]
  have c1 := b2 m1 (by omega) (by rw [a2, e1]; exact Nat.add_le_add x1 y1)
  have c2 := b1 m2 (by rw [a4, e2]; exact Nat.add_le_add x2 y2)
  exact ⟨by rw [← a2]; exact dU_le.mpr c1, by rw [← a4]; exact dU_le.mpr c2, Nat.lt_of_le_of_lt c2 a3⟩
theorem dadd_0 {x : UInt64} (hx : x.toNat < 9218868437227405312) : FP.dadd x 0 = x := by
  obtain ⟨-, b1, b2⟩ := dadd_b hx (y := 0) (by decide)
  have z : dU (0 : UInt64).toNat = 0 := FP.Core.unitsOf_zero _
  have c1 := b1 x.toNat (by rw [z]; exact Nat.le_refl _)
  have c2 := b2 x.toNat (Nat.le_of_lt hx) (by rw [z]; exact Nat.le_refl _)
  exact UInt64.toNat_inj.mp (Nat.le_antisymm c1 c2)
def onQ (r : Nat → Int32) (n : Nat) : Nat := cntP (fun k => decide (ofB r k 2 = 1)) n
def sumD (r : Nat → Int32) (w : Nat → UInt32) : Nat → UInt64
  | 0 => 0
  | n + 1 => if ofB r n 2 = 1 then FP.dadd (sumD r w n) (FP.f2d (w n)) else sumD r w n
theorem sum_ok {r : Nat → Int32} {w : Nat → UInt32} (hw : Wel r) (hm : MasW r w) : ∀ n, n ≤ CN r → onQ r n ≤ n ∧ onQ r n * 2 ^ 1074 ≤ dU (sumD r w n).toNat ∧ dU (sumD r w n).toNat ≤ onQ r n * 512 * 2 ^ 1074 ∧ (sumD r w n).toNat < 9218868437227405312
  | 0, _ => ⟨Nat.le_refl _, by show 0 * _ ≤ _; rw [Nat.zero_mul]; exact Nat.zero_le _, by show dU (0 : UInt64).toNat ≤ _; rw [show dU (0 : UInt64).toNat = 0 from FP.Core.unitsOf_zero _]; exact Nat.zero_le _, by show (0 : UInt64).toNat < _; decide⟩
  | n + 1, hn => by
    obtain ⟨a0, a1, a2, a3⟩ := sum_ok hw hm n (by omega)
    have h40 := hw.2.1
    by_cases c : ofB r n 2 = 1
    · have e1 : onQ r (n + 1) = onQ r n + 1 := by show cntP _ n + (if decide (ofB r n 2 = 1) = true then 1 else 0) = _; rw [if_pos (decide_eq_true c)]; rfl
      have e2 : sumD r w (n + 1) = FP.dadd (sumD r w n) (FP.f2d (w n)) := if_pos c
      obtain ⟨m1, m2, m3⟩ := f2d_m (hm n (by omega) c)
      rw [e1, e2]
      have := dadd_k (by omega) a3 a1 a2 m3 m1 m2
      exact ⟨by omega, this⟩
    · have e1 : onQ r (n + 1) = onQ r n := by show cntP _ n + (if decide (ofB r n 2 = 1) = true then 1 else 0) = _; rw [if_neg (by rw [decide_eq_false c]; decide)]; rfl
      have e2 : sumD r w (n + 1) = sumD r w n := if_neg c
      rw [e1, e2]
      exact ⟨by omega, a1, a2, a3⟩
/-- the mean of the masses on the wall -/
def meanD (r : Nat → Int32) (w : Nat → UInt32) : UInt64 := FP.ddiv (sumD r w (CN r)) (FP.i2d (nI (onN r)))
theorem i2d_U {t : Nat} (ht : t < 2 ^ 31) : (FP.i2d (nI t)).toNat < 9218868437227405312 ∧ dU (FP.i2d (nI t)).toNat = t * 2 ^ 1074 := by
  have e : FP.i2d (nI t) = FP.l2d (Int64.ofNat t) := by
    show FP.Core.i2d _ = FP.Core.l2d _
    unfold FP.Core.i2d FP.Core.l2d
    rw [show (nI t).toInt = (t : Int) from nI_toInt ht, show (Int64.ofNat t).toInt = (t : Int) from Int64.toInt_ofNat_of_lt (by omega)]
  rw [e]
  exact l2d_U (by omega)
theorem mean_ok {r : Nat → Int32} {w : Nat → UInt32} (hw : Wel r) (hm : MasW r w) (h1 : 1 ≤ onN r) : 0x3ff0000000000000 ≤ (meanD r w).toNat ∧ (meanD r w).toNat < 9218868437227405312 := by
  obtain ⟨a0, a1, a2, a3⟩ := sum_ok hw hm (CN r) (Nat.le_refl _)
  have a0 : onN r ≤ CN r := a0
  have a1 : onN r * 2 ^ 1074 ≤ dU (sumD r w (CN r)).toNat := a1
  have a2 : dU (sumD r w (CN r)).toNat ≤ onN r * 512 * 2 ^ 1074 := a2
  have h40 := hw.2.1
  obtain ⟨i1, i2⟩ := i2d_U (t := onN r) (by omega)
  have i0 : 0 < (FP.i2d (nI (onN r))).toNat := Nat.pos_of_ne_zero (fun z => by
    rw [z, show dU 0 = 0 from FP.Core.unitsOf_zero _] at i2
    have := Nat.mul_pos (show 0 < onN r by omega) (show 0 < 2 ^ 1074 from Nat.two_pow_pos _)
    omega)
  obtain ⟨-, b1, b2⟩ := ddiv_b a3 i1 i0
  have one : dU 0x3ff0000000000000 = 2 ^ 1074 := dU_one
  have big : dU 0x4080000000000000 = 2 ^ 1083 := dU_2 (K := 1032) (by decide)
  have c1 := b2 0x3ff0000000000000 (by decide) (by rw [one, i2, Nat.mul_comm]; exact Nat.mul_le_mul_right _ a1)
  have c2 := b1 0x4080000000000000 (by
    rw [big, i2, show 2 ^ 1083 * (onN r * 2 ^ 1074) = onN r * 512 * 2 ^ 1074 * 2 ^ 1074 by
      rw [show (1083 : Nat) = 9 + 1074 from rfl, Nat.pow_add, show (2 : Nat) ^ 9 = 512 from rfl]
      rw [Nat.mul_comm (onN r) 512, Nat.mul_assoc 512, Nat.mul_assoc 512, Nat.mul_assoc 512, Nat.mul_comm (2 ^ 1074) (onN r * 2 ^ 1074)]]
    exact Nat.mul_le_mul_right _ a2)
  exact ⟨c1, Nat.lt_of_le_of_lt c2 (by decide)⟩
theorem cmp_d {x y : UInt64} {op : CmpOp} (hx : x.toNat ≤ 9218868437227405312) (hy : y.toNat ≤ 9218868437227405312) : (Op.cmpValue (FP.dcmp x y) op < 0 ↔ x.toNat < y.toNat) ∧ (0 ≤ Op.cmpValue (FP.dcmp x y) op ↔ y.toNat ≤ x.toNat) ∧ (Op.cmpValue (FP.dcmp x y) op = 0 ↔ x.toNat = y.toNat) := by
  rw [dcmp_b hx hy, Nat.compare_eq_ite_lt]
  by_cases c1 : x.toNat < y.toNat
  · rw [if_pos c1]
    cases op <;> exact ⟨⟨fun _ => c1, fun _ => by decide⟩, ⟨fun q => absurd q (by decide), fun q => by omega⟩, ⟨fun q => absurd q (by decide), fun q => by omega⟩⟩
  · rw [if_neg c1]
    by_cases c2 : y.toNat < x.toNat
    · rw [if_pos c2]
      cases op <;> exact ⟨⟨fun q => absurd q (by decide), fun q => by omega⟩, ⟨fun _ => by omega, fun _ => by decide⟩, ⟨fun q => absurd q (by decide), fun q => by omega⟩⟩
    · rw [if_neg c2]
      cases op <;> exact ⟨⟨fun q => absurd q (by decide), fun q => by omega⟩, ⟨fun _ => by omega, fun _ => by decide⟩, ⟨fun _ => by omega, fun _ => by decide⟩⟩
end
