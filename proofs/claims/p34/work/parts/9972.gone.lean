noncomputable section
theorem nI_rf {n : Nat} (h : n < 2 ^ 31) : nI n ≠ rfS := fun z => by
  have := congrArg Int32.toInt z
  rw [nI_toInt h, show Int32.toInt rfS = -100000000 from rfl] at this
  omega
theorem k48 : Int32.toNatClampNeg 48 = 48 := rfl
theorem k6 : Int32.toNatClampNeg 6 = 6 := rfl
theorem acct_6 {r : Nat → Int32} {a b : Int32} : acctV r a b (Int32.toNatClampNeg 6) = nI (onN r) := by
  rw [k6]
  unfold acctV
  rw [if_neg (by decide), if_neg (by decide), if_pos rfl]
section
variable {r : Nat → Int32} {w : Nat → UInt32} {B : Nat}
theorem gone_no (h : gnC r w ≠ 0) : onN (hoursR 48 r w) = onN r := by
  have h1 : ¬ gnK r w < 97 := fun z => h (if_pos z)
  have := fstP_no (p := gnP r w) (n := 97) 97 0 rfl h1 48 (Nat.zero_le _) (by decide)
  unfold gnP at this
  exact Decidable.not_not.mp (fun z => this (decide_eq_true z))
theorem gone_yes (h : gnC r w = 0) : gnK r w < 97 := by
  by_cases z : gnK r w < 97
  · exact z
  · unfold gnC at h
    rw [if_neg z] at h
    exact absurd h (by decide)
theorem gone_lt {j : Nat} (hj : j < gnK r w) : onN (hoursR j r w) = onN r := by
  have := fstP_lt (p := gnP r w) (n := 97) 97 0 rfl j (Nat.zero_le _) hj
  unfold gnP at this
  exact Decidable.not_not.mp (fun z => this (decide_eq_true z))
theorem gone_at (I : Inv B r w) (hB : B + 97 < 2 ^ 30) (h : gnK r w < 97) : onN (hoursR (gnK r w) r w) < onN r := by
  have h1 := fstP_p (p := gnP r w) (n := 97) 97 0 h
  have h1 : onN (hoursR (gnK r w) r w) ≠ onN r := of_decide_eq_true h1
  have h2 := hours_on (gnK r w) B I.2.1 (by omega)
  omega
end
/-- what is told ahead of the first that goes -/
theorem c_isGone {l : Launch} (hfl : l.stackTraces = false) {h : AH} {r : Nat → Int32} {w : Nat → UInt32} {S : Sv} {K : Hs} {q : Int32 × Int32} {T : Tx} {B : Nat} (C : CS h r w S K q T) (I : Inv B r w) (hB9 : B + 97 < 2 ^ 30) : LX l mL_isGone 22 1 [.ref 31] h (fun v h' => v = some (.int 1) ∧ CS h' r w S K q T) := by
  have hB : B + 48 < 2 ^ 30 := by omega
  have hon := onN_le I.1.1
  refine lc_mk hfl (by decide) (Nat.le_of_ble_eq_true rfl) (fun p e R s m args below meth c D ca A ad => ?_)
  show WL p l e R s m args below meth c _ mL_isGone 22 1 D ca ad A ad [] _ 0 0 [(0, .ref 31)] [] h
  refine wl_s rfl rfl ?_
  refine wl_w (mj := mL_goneIn) (na := 1) rfl (by decide) (by decide +kernel) (by decide +kernel) (by decide +kernel) (by decide +kernel) rfl (Nat.le_of_ble_eq_true rfl) (by decide) (by omega) (l_goneIn hfl C I hB9) (fun v9 h9 p9 => ?_)
  obtain ⟨g, C⟩ := p9
  rcases g with ⟨g0, rfl⟩ | ⟨g0, rfl⟩
  skip
  · have g1 := gone_yes g0
    by_cases g2 : gnK r w ≤ 48
    · have g3 := gone_at I hB9 g1
      have g4 := gn_pos (r := r) (w := w)
      have g5 := gone_lt (r := r) (w := w) (j := gnK r w - 1) (by omega)
      iterate 3 refine wl_s rfl rfl ?_
      refine wl_v (i := 131) (mj := mX10_account) (na := 1) rfl (by decide +kernel) rfl ⟨Nat.le_of_ble_eq_true rfl, Nat.le_of_ble_eq_true rfl⟩ (by decide) (p_op_account 1 17 C I _) (px_good (acctC_ok (n := 6) (by decide))) (fun v9 h9 p9 => ?_)
      obtain ⟨rfl, C⟩ := p9
      rw [acct_6]
      iterate 3 refine wl_s rfl rfl ?_
      refine wl_b rfl rfl (fun _ => ?_) (fun q => absurd (nI_rf (by omega)) q)
      iterate 2 refine wl_s rfl rfl ?_
      refine wl_b rfl rfl (fun _ => ?_) (fun q => absurd (nI_le (b := 48) g2 (by decide)) q)
      iterate 2 refine wl_s rfl rfl ?_
      skip
      refine wl_v (i := 206) (mj := mX10_left) (na := 1) rfl (by decide +kernel) rfl ⟨Nat.le_of_ble_eq_true rfl, Nat.le_of_ble_eq_true rfl⟩ (by decide) (p_op_left 1 13 C I hB _) (px_good (leftC_ok g2)) (fun v9 h9 p9 => ?_)
      obtain ⟨rfl, C⟩ := p9
      rw [cl (gnK r w)]
      refine wl_s rfl rfl ?_
      refine wl_b rfl rfl (fun q => absurd q (nI_ge g3 (by omega))) (fun _ => ?_)
      iterate 4 refine wl_s rfl rfl ?_
      rw [nI_m1 (by omega)]
      refine wl_v (i := 206) (mj := mX10_left) (na := 1) rfl (by decide +kernel) rfl ⟨Nat.le_of_ble_eq_true rfl, Nat.le_of_ble_eq_true rfl⟩ (by decide) (p_op_left 1 13 C I hB _) (px_good (leftC_ok (by omega))) (fun v9 h9 p9 => ?_)
      obtain ⟨rfl, C⟩ := p9
      rw [cl (gnK r w - 1), g5]
      refine wl_s rfl rfl ?_
      refine wl_b rfl rfl (fun q => absurd q (fun z => z rfl)) (fun _ => ?_)
      refine wl_s rfl rfl ?_
      refine wl_g rfl rfl ?_
      refine wl_q (by decide) rfl (fun k q => by cases q) ?_
      exact ⟨rfl, C⟩
    · have g5 := gone_lt (r := r) (w := w) (j := 48) (by omega)
      iterate 3 refine wl_s rfl rfl ?_
      refine wl_v (i := 131) (mj := mX10_account) (na := 1) rfl (by decide +kernel) rfl ⟨Nat.le_of_ble_eq_true rfl, Nat.le_of_ble_eq_true rfl⟩ (by decide) (p_op_account 1 17 C I _) (px_good (acctC_ok (n := 6) (by decide))) (fun v9 h9 p9 => ?_)
      obtain ⟨rfl, C⟩ := p9
      rw [acct_6]
      iterate 3 refine wl_s rfl rfl ?_
      refine wl_b rfl rfl (fun _ => ?_) (fun q => absurd (nI_rf (by omega)) q)
      iterate 2 refine wl_s rfl rfl ?_
      refine wl_b rfl rfl (fun q => absurd q (nI_ge (a := 48) (by omega) (by omega))) (fun _ => ?_)
      iterate 2 refine wl_s rfl rfl ?_
      refine wl_v (i := 206) (mj := mX10_left) (na := 1) rfl (by decide +kernel) rfl ⟨Nat.le_of_ble_eq_true rfl, Nat.le_of_ble_eq_true rfl⟩ (by decide) (p_op_left 1 13 C I hB _) (px_good (leftC_ok (n := 48) (by decide))) (fun v9 h9 p9 => ?_)
      obtain ⟨rfl, C⟩ := p9
      rw [k48, g5]
      refine wl_s rfl rfl ?_
      refine wl_b rfl rfl (fun q => absurd q (fun z => z rfl)) (fun _ => ?_)
      refine wl_s rfl rfl ?_
      refine wl_g rfl rfl ?_
      refine wl_q (by decide) rfl (fun k q => by cases q) ?_
      exact ⟨rfl, C⟩
  · have g5 := gone_no g0
    iterate 3 refine wl_s rfl rfl ?_
    refine wl_v (i := 131) (mj := mX10_account) (na := 1) rfl (by decide +kernel) rfl ⟨Nat.le_of_ble_eq_true rfl, Nat.le_of_ble_eq_true rfl⟩ (by decide) (p_op_account 1 17 C I _) (px_good (acctC_ok (n := 6) (by decide))) (fun v9 h9 p9 => ?_)
    obtain ⟨rfl, C⟩ := p9
    rw [acct_6]
    iterate 3 refine wl_s rfl rfl ?_
    refine wl_b rfl rfl (fun q => absurd q (fun z => z rfl)) (fun _ => ?_)
    iterate 2 refine wl_s rfl rfl ?_
    refine wl_v (i := 206) (mj := mX10_left) (na := 1) rfl (by decide +kernel) rfl ⟨Nat.le_of_ble_eq_true rfl, Nat.le_of_ble_eq_true rfl⟩ (by decide) (p_op_left 1 13 C I hB _) (px_good (leftC_ok (n := 48) (by decide))) (fun v9 h9 p9 => ?_)
    obtain ⟨rfl, C⟩ := p9
    rw [k48, g5]
    refine wl_s rfl rfl ?_
    refine wl_b rfl rfl (fun q => absurd q (fun z => z rfl)) (fun _ => ?_)
    refine wl_s rfl rfl ?_
    refine wl_g rfl rfl ?_
    refine wl_q (by decide) rfl (fun k q => by cases q) ?_
    exact ⟨rfl, C⟩
end
