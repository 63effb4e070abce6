noncomputable section
/-- a palace's cells -/
def Pal (k : Nat) : Prop := layAt k = (0, 6, [0, 0, 0, 0, 0, k + 1 + 3, k + 2 + 3, k + 3 + 3, k + 4 + 3, k + 5 + 3, k + 6 + 3, k + 7 + 3, k + 8 + 3, k + 9 + 3, k + 10 + 3, k + 11 + 3, k + 12 + 3])
  ∧ layAt (k + 1) = (1, 24, []) ∧ layAt (k + 2) = (1, 40, []) ∧ layAt (k + 3) = (1, 40, []) ∧ layAt (k + 4) = (4, 40, []) ∧ layAt (k + 5) = (1, 40, []) ∧ layAt (k + 6) = (1, 40, []) ∧ layAt (k + 7) = (1, 40, []) ∧ layAt (k + 8) = (1, 40, []) ∧ layAt (k + 9) = (1, 40, []) ∧ layAt (k + 10) = (1, 40, []) ∧ layAt (k + 11) = (1, 96, []) ∧ layAt (k + 12) = (1, 10, [])
theorem pal_32 : Pal 32 := ⟨rfl, rfl, rfl, rfl, rfl, rfl, rfl, rfl, rfl, rfl, rfl, rfl, rfl⟩
theorem vp_of {i : Int32} {n : Nat} {M : Int32} (h0 : ¬ i < 0) (h1 : ¬ M ≤ i) (hM : M.toNatClampNeg = n) : vp_in i n := by
  intro q
  rcases q with q | q
  · exact h0 q
  · apply h1
    rw [← hM] at q
    rw [Int32.le_iff_toInt_le]
    have a1 : (0 : Int) ≤ i.toInt := by
      have := Int32.not_lt.mp h0
      exact Int32.le_iff_toInt_le.mp this
    have e1 : i.toNatClampNeg = i.toInt.toNat := rfl
    have e2 : M.toNatClampNeg = M.toInt.toNat := rfl
    rw [e1, e2] at q
    omega
theorem e_isOnWall (d : Nat) {k : Nat} (hk : Pal k) (b : Int32) (h : AH) : EvM d mX8_isOnWall [.ref k, .int b] h (some (.int (if ¬ b < 0 ∧ b < 40 ∧ h.1 (k + 5) b.toNatClampNeg = 1 then 1 else 0))) h := by
  obtain ⟨y0, y1, y2, y3, y4, y5, y6, y7, y8, y9, y10, y11, y12⟩ := hk
  refine er_s rfl ?_
  refine er_b rfl rfl (fun c1 => ?_) (fun c1 => ?_)
  · refine er_s rfl ?_
    refine er_r ?_
    rw [if_neg (fun q => q.1 c1)]
    rfl
  refine er_s rfl ?_
  refine er_s rfl ?_
  refine er_b rfl rfl (fun c2 => ?_) (fun c2 => ?_)
  · refine er_s rfl ?_
    refine er_r ?_
    rw [if_neg (fun q => Int32.not_le.mpr q.2.1 c2)]
    rfl
  refine er_s rfl ?_
  refine er_f rfl y0 rfl ?_
  refine er_s rfl ?_
  refine er_il rfl y5 (vp_of c1 c2 rfl) ?_
  refine er_s rfl ?_
  refine er_b rfl rfl (fun c3 => ?_) (fun c3 => ?_)
  · refine er_s rfl ?_
    refine er_r ?_
    rw [if_neg (fun q => c3 q.2.2)]
    rfl
  · refine er_s rfl ?_
    refine er_g rfl rfl ?_
    refine er_r ?_
    rw [if_pos ⟨c1, Int32.not_le.mp c2, by simpa using c3⟩]
    rfl
end
