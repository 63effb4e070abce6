noncomputable section
theorem and_nI (z : Int32) (n : Nat) (hn : n < 2 ^ 31) : ∃ y, y ≤ n ∧ z &&& nI n = nI y := by
  refine ⟨(z.toBitVec &&& BitVec.ofNat 32 n).toNat, ?_, ?_⟩
  · rw [BitVec.toNat_and, BitVec.toNat_ofNat]
    exact Nat.le_trans Nat.and_le_right (Nat.mod_le _ _)
  · apply Int32.toBitVec_inj.mp
    rw [Int32.toBitVec_and]
    show z.toBitVec &&& BitVec.ofNat 32 n = BitVec.ofNat 32 (z.toBitVec &&& BitVec.ofNat 32 n).toNat
    rw [BitVec.ofNat_toNat, BitVec.setWidth_eq]
theorem sh1 {y : Nat} (hy : y < 65536) : nI y >>> (1 &&& 31 : Int32) = nI (y / 2) := by
  apply Int32.toInt_inj.mp
  rw [nI_toInt (by omega)]
  show ((nI y).toBitVec.sshiftRight 1).toInt = _
  rw [BitVec.toInt_sshiftRight]
  show (nI y).toInt >>> 1 = _
  rw [nI_toInt (by omega), Int.shiftRight_eq_div_pow]
  omega
theorem rm13 {n : Nat} (hn : n < 2 ^ 31) : nI n - nI n / 13 * 13 = nI (n % 13) := pk_rem (d := 13) hn (by decide) (by decide)
theorem le_nI {a b : Nat} (hb : b < 2 ^ 31) (ha : a < 2 ^ 31) (h : nI a ≤ nI b) : a ≤ b := Nat.le_of_not_lt (fun z => nI_ge z (by omega) h)
section
variable {h : AH} {r : Nat → Int32} {w : Nat → UInt32} {S : Sv} {K : Hs} {q : Int32 × Int32} {T : Tx} {B : Nat}
theorem un_ac (J : IS B r w S K) (hK : K.1 ≤ 8) (hB : B + 3000 < 2 ^ 30) {v : Option Value} {h' : AH} (p : (undoC K = 0 ∧ v = some (.int (nI (K.1 - 1))) ∧ CS h' (K.2.1 (K.1 - 1)) (K.2.2 (K.1 - 1)) S (K.1 - 1, K.2) q T) ∨ (undoC K ≠ 0 ∧ v = some (.int rfS) ∧ CS h' r w S K q T)) : AcQ (B + 3000) r w v h' := by
  have J2 := J.le (B' := B + 3000) (by omega) hB
  rcases p with ⟨g, rfl, C⟩ | ⟨g, rfl, C⟩
  · have k0 : K.1 ≠ 0 := fun z => by
      unfold undoC at g
      rw [if_pos z] at g
      exact absurd g (by decide)
    exact ⟨_, rfl, _, _, _, _, _, _, C, ⟨J2.2.2 _ (by omega), J2.2.1, fun i hi => J2.2.2 i (by have hi : i < K.1 - 1 := hi; omega)⟩, fun z => absurd z (nI_rf (by omega))⟩
  · exact ⟨_, rfl, _, _, _, _, _, _, C, J2, fun _ => ⟨rfl, rfl⟩⟩
theorem rs_ac (J : IS B r w S K) (hB : B + 3000 < 2 ^ 30) {v : Option Value} {h' : AH} (p : (restC S = 0 ∧ v = some (.int (S.2.1 4)) ∧ CS h' S.2.1 S.2.2 S (0, K.2) q T) ∨ (restC S ≠ 0 ∧ v = some (.int rfS) ∧ CS h' r w S K q T)) : AcQ (B + 3000) r w v h' := by
  have J2 := J.le (B' := B + 3000) (by omega) hB
  rcases p with ⟨g, rfl, C⟩ | ⟨g, rfl, C⟩
  · have k0 : S.1 = true := by
      by_cases z : S.1 = true
      · exact z
      · unfold restC at g
        rw [if_neg z] at g
        exact absurd g (by decide)
    have I := J.2.1 k0
    have h40 := I.1.1.2.1
    exact ⟨_, rfl, _, _, _, _, _, _, C, ⟨J2.2.1 k0, J2.2.1, fun i hi => absurd hi (Nat.not_lt_zero _)⟩, fun z => absurd (I.1.1.1.symm.trans z) (nI_rf (by omega))⟩
  · exact ⟨_, rfl, _, _, _, _, _, _, C, J2, fun _ => ⟨rfl, rfl⟩⟩
end
set_option maxHeartbeats 2000000 in
/-- one act, as a number of the script chooses it -/
theorem c_act {l : Launch} (hfl : l.stackTraces = false) {h : AH} {r : Nat → Int32} {w : Nat → UInt32} {S : Sv} {K : Hs} {q : Int32 × Int32} {T : Tx} {B : Nat} (C : CS h r w S K q T) (J : IS B r w S K) (hB9 : B + 3000 < 2 ^ 30) (x : Int32) : LX l mL_act 23 17 [.ref 31, .int x] h (AcQ (B + 3000) r w) := by
  have I := J.1
  have hB : B + 48 < 2 ^ 30 := by omega
  have hK := C.K8
  have J2 := J.le (B' := B + 3000) (by omega) hB9
  obtain ⟨y, hy, ey⟩ : ∃ y, y ≤ 65535 ∧ x >>> (4 &&& 31) &&& 65535 = nI y := and_nI (x >>> (4 &&& 31 : Int32)) 65535 (by decide)
  obtain ⟨k, hk, ek⟩ : ∃ k, k ≤ 15 ∧ x &&& 15 = nI k := and_nI x 15 (by decide)
  refine lc_mk hfl (by decide) (Nat.le_of_ble_eq_true rfl) (fun p e R s m args below meth c D ca A ad => ?_)
  show WL p l e R s m args below meth c _ mL_act 23 17 D ca ad A ad [] _ 0 0 [(0, .ref 31), (1, .int x)] [] h
  have T72 : WL p l e R s m args below meth c (vx_MQ below (LQ D ca ad A (AcQ (B + 3000) r w)) exitX args s 17 (64 * 17) (fun q : Nat => A q)) mL_act 23 17 D ca ad A ad [] (fun _ _ => 0) 0 72 [(0, .ref 31), (1, .int x), (2, .int (nI y)), (3, .int (nI y &&& 1)), (4, .int (nI (y / 2 % 13)))] [] h := by
    iterate 11 refine wl_s rfl rfl ?_
    refine wl_w (mj := mL_heat) (na := 3) rfl (by decide) (by decide +kernel) (by decide +kernel) (by decide +kernel) (by decide +kernel) rfl (Nat.le_of_ble_eq_true rfl) (by decide) (by decide) (l_heat hfl C I hB _ _) (fun v9 h9 p9 => ?_)
    replace p9 := opq_ac hK J hB9 (fun z => pa_116 I z) p9
    obtain ⟨y9, rfl, p9⟩ := p9
    refine wl_q (by decide) rfl (fun k q => by cases q) ?_
    exact ⟨_, rfl, p9⟩
  have T90 : WL p l e R s m args below meth c (vx_MQ below (LQ D ca ad A (AcQ (B + 3000) r w)) exitX args s 17 (64 * 17) (fun q : Nat => A q)) mL_act 23 17 D ca ad A ad [] (fun _ _ => 0) 0 90 [(0, .ref 31), (1, .int x), (2, .int (nI y)), (3, .int (nI y &&& 1)), (4, .int (nI (y / 2 % 13)))] [] h := by
    iterate 4 refine wl_s rfl rfl ?_
    refine wl_w (mj := mL_visit) (na := 2) rfl (by decide) (by decide +kernel) (by decide +kernel) (by decide +kernel) (by decide +kernel) rfl (Nat.le_of_ble_eq_true rfl) (by decide) (by decide) (l_visit hfl C I hB _) (fun v9 h9 p9 => ?_)
    replace p9 := opq_ac hK J hB9 (fun z => pa_118 I) p9
    obtain ⟨y9, rfl, p9⟩ := p9
    refine wl_q (by decide) rfl (fun k q => by cases q) ?_
    exact ⟨_, rfl, p9⟩
  have T99 : WL p l e R s m args below meth c (vx_MQ below (LQ D ca ad A (AcQ (B + 3000) r w)) exitX args s 17 (64 * 17) (fun q : Nat => A q)) mL_act 23 17 D ca ad A ad [] (fun _ _ => 0) 0 99 [(0, .ref 31), (1, .int x), (2, .int (nI y)), (3, .int (nI y &&& 1)), (4, .int (nI (y / 2 % 13)))] [] h := by
    iterate 10 refine wl_s rfl rfl ?_
    refine wl_b rfl rfl (fun c111 => ?_) (fun c111 => ?_)
    · refine wl_s rfl rfl ?_
      refine wl_w (mj := mL_saw) (na := 4) rfl (by decide) (by decide +kernel) (by decide +kernel) (by decide +kernel) (by decide +kernel) rfl (Nat.le_of_ble_eq_true rfl) (by decide) (by decide) (l_saw hfl C I hB _ _ _) (fun v9 h9 p9 => ?_)
      replace p9 := opq_ac hK J hB9 (fun z => pa_115 I) p9
      obtain ⟨y9, rfl, p9⟩ := p9
      refine wl_q (by decide) rfl (fun k q => by cases q) ?_
      exact ⟨_, rfl, p9⟩
    · iterate 3 refine wl_s rfl rfl ?_
      refine wl_g rfl rfl ?_
      refine wl_w (mj := mL_saw) (na := 4) rfl (by decide) (by decide +kernel) (by decide +kernel) (by decide +kernel) (by decide +kernel) rfl (Nat.le_of_ble_eq_true rfl) (by decide) (by decide) (l_saw hfl C I hB _ _ _) (fun v9 h9 p9 => ?_)
      replace p9 := opq_ac hK J hB9 (fun z => pa_115 I) p9
      obtain ⟨y9, rfl, p9⟩ := p9
      refine wl_q (by decide) rfl (fun k q => by cases q) ?_
      exact ⟨_, rfl, p9⟩
  have T125 : WL p l e R s m args below meth c (vx_MQ below (LQ D ca ad A (AcQ (B + 3000) r w)) exitX args s 17 (64 * 17) (fun q : Nat => A q)) mL_act 23 17 D ca ad A ad [] (fun _ _ => 0) 0 125 [(0, .ref 31), (1, .int x), (2, .int (nI y)), (3, .int (nI y &&& 1)), (4, .int (nI (y / 2 % 13)))] [] h := by
    iterate 3 refine wl_s rfl rfl ?_
    refine wl_b rfl rfl (fun c128 => ?_) (fun c128 => ?_)
    · iterate 4 refine wl_s rfl rfl ?_
      refine wl_w (mj := mL_pass) (na := 2) rfl (by decide) (by decide +kernel) (by decide +kernel) (by decide +kernel) (by decide +kernel) rfl (Nat.le_of_ble_eq_true rfl) (by decide) (by decide) (l_pass hfl C I hB _) (fun v9 h9 p9 => ?_)
      replace p9 := opq_ac hK J hB9 (fun z => pa_104 I hB z) p9
      obtain ⟨y9, rfl, p9⟩ := p9
      refine wl_q (by decide) rfl (fun k q => by cases q) ?_
      exact ⟨_, rfl, p9⟩
    · iterate 6 refine wl_s rfl rfl ?_
      refine wl_w (mj := mL_take) (na := 2) rfl (by decide) (by decide +kernel) (by decide +kernel) (by decide +kernel) (by decide +kernel) rfl (Nat.le_of_ble_eq_true rfl) (by decide) (by decide) (l_take hfl C I hB _) (fun v9 h9 p9 => ?_)
      replace p9 := opq_ac hK J hB9 (fun z => pa_120 I z) p9
      obtain ⟨y9, rfl, p9⟩ := p9
      refine wl_g rfl rfl ?_
      refine wl_q (by decide) rfl (fun k q => by cases q) ?_
      exact ⟨_, rfl, p9⟩
  have T153 : WL p l e R s m args below meth c (vx_MQ below (LQ D ca ad A (AcQ (B + 3000) r w)) exitX args s 17 (64 * 17) (fun q : Nat => A q)) mL_act 23 17 D ca ad A ad [] (fun _ _ => 0) 0 153 [(0, .ref 31), (1, .int x), (2, .int (nI y)), (3, .int (nI y &&& 1)), (4, .int (nI (y / 2 % 13)))] [] h := by
    iterate 4 refine wl_s rfl rfl ?_
    refine wl_w (mj := mL_pass) (na := 2) rfl (by decide) (by decide +kernel) (by decide +kernel) (by decide +kernel) (by decide +kernel) rfl (Nat.le_of_ble_eq_true rfl) (by decide) (by decide) (l_pass hfl C I hB _) (fun v9 h9 p9 => ?_)
    replace p9 := opq_ac hK J hB9 (fun z => pa_104 I hB z) p9
    obtain ⟨y9, rfl, p9⟩ := p9
    refine wl_q (by decide) rfl (fun k q => by cases q) ?_
    exact ⟨_, rfl, p9⟩
  have T162 : WL p l e R s m args below meth c (vx_MQ below (LQ D ca ad A (AcQ (B + 3000) r w)) exitX args s 17 (64 * 17) (fun q : Nat => A q)) mL_act 23 17 D ca ad A ad [] (fun _ _ => 0) 0 162 [(0, .ref 31), (1, .int x), (2, .int (nI y)), (3, .int (nI y &&& 1)), (4, .int (nI (y / 2 % 13)))] [] h := by
    refine wl_s rfl rfl ?_
    refine wl_tx rfl (by decide +kernel) ?_
    refine wl_s rfl rfl ?_
    refine wl_tx rfl (by decide +kernel) ?_
    refine wl_tl (by decide +kernel) ?_
    refine wl_s rfl rfl ?_
    rw [rm12 (by omega)]
    refine wl_ta (i := y % 12) (Nat.mod_lt _ (by decide)) (by decide +kernel) ?_
    refine wl_c (mj := mL_write) (na := 2) rfl (by decide) (by decide +kernel) (by decide +kernel) (by decide +kernel) (by decide +kernel) rfl (Nat.le_of_ble_eq_true rfl) (by decide) (by decide) (c_write hfl C (i := y % 12) (Nat.mod_lt _ (by decide))) (fun v9 h9 p9 => ?_)
    obtain ⟨rfl, C⟩ := p9
    refine wl_w (mj := mL_read) (na := 1) rfl (by decide) (by decide +kernel) (by decide +kernel) (by decide +kernel) (by decide +kernel) rfl (Nat.le_of_ble_eq_true rfl) (by decide) (by decide) (l_read hfl C I hB9) (fun v9 h9 p9 => ?_)
    replace p9 := rdq_ac hK J hB9 p9
    obtain ⟨y9, rfl, p9⟩ := p9
    refine wl_q (by decide) rfl (fun k q => by cases q) ?_
    exact ⟨_, rfl, p9⟩
  have T180 : WL p l e R s m args below meth c (vx_MQ below (LQ D ca ad A (AcQ (B + 3000) r w)) exitX args s 17 (64 * 17) (fun q : Nat => A q)) mL_act 23 17 D ca ad A ad [] (fun _ _ => 0) 0 180 [(0, .ref 31), (1, .int x), (2, .int (nI y)), (3, .int (nI y &&& 1)), (4, .int (nI (y / 2 % 13)))] [] h := by
    iterate 3 refine wl_s rfl rfl ?_
    refine wl_b rfl rfl (fun c183 => ?_) (fun c183 => ?_)
    · iterate 4 refine wl_s rfl rfl ?_
      refine wl_b rfl rfl (fun c197 => ?_) (fun c197 => ?_)
      · refine wl_s rfl rfl ?_
        refine wl_w (mj := mL_undo) (na := 1) rfl (by decide) (by decide +kernel) (by decide +kernel) (by decide +kernel) (by decide +kernel) rfl (Nat.le_of_ble_eq_true rfl) (by decide) (by decide) (l_undo hfl C J) (fun v9 h9 p9 => ?_)
        replace p9 := un_ac J hK hB9 p9
        obtain ⟨y9, rfl, p9⟩ := p9
        refine wl_q (by decide) rfl (fun k q => by cases q) ?_
        exact ⟨_, rfl, p9⟩
      · refine wl_s rfl rfl ?_
        refine wl_w (mj := mL_restore) (na := 1) rfl (by decide) (by decide +kernel) (by decide +kernel) (by decide +kernel) (by decide +kernel) rfl (Nat.le_of_ble_eq_true rfl) (by decide) (by decide) (l_restore hfl C J) (fun v9 h9 p9 => ?_)
        replace p9 := rs_ac J hB9 p9
        obtain ⟨y9, rfl, p9⟩ := p9
        refine wl_g rfl rfl ?_
        refine wl_q (by decide) rfl (fun k q => by cases q) ?_
        exact ⟨_, rfl, p9⟩
    · refine wl_s rfl rfl ?_
      refine wl_xc rfl rfl ⟨Nat.le_of_ble_eq_true rfl, Nat.le_of_ble_eq_true rfl⟩ (by decide) (p_op_save 18 C I) (fun rv9 h9 p9 => ?_)
      obtain ⟨rfl, C⟩ := p9
      refine wl_g rfl rfl ?_
      refine wl_q (by decide) rfl (fun k q => by cases q) ?_
      exact ⟨_, rfl, r, w, (true, r, w), K, q, T, C, ⟨J2.1, fun _ => J2.1, J2.2.2⟩, fun _ => ⟨rfl, rfl⟩⟩
  have T212 : WL p l e R s m args below meth c (vx_MQ below (LQ D ca ad A (AcQ (B + 3000) r w)) exitX args s 17 (64 * 17) (fun q : Nat => A q)) mL_act 23 17 D ca ad A ad [] (fun _ _ => 0) 0 212 [(0, .ref 31), (1, .int x), (2, .int (nI y)), (3, .int (nI y &&& 1)), (4, .int (nI (y / 2 % 13)))] [] h := by
    iterate 3 refine wl_s rfl rfl ?_
    refine wl_b rfl rfl (fun c215 => ?_) (fun c215 => ?_)
    · iterate 5 refine wl_s rfl rfl ?_
      refine wl_g rfl rfl ?_
      iterate 9 refine wl_s rfl rfl ?_
      refine wl_w (mj := mL_lay) (na := 4) rfl (by decide) (by decide +kernel) (by decide +kernel) (by decide +kernel) (by decide +kernel) rfl (Nat.le_of_ble_eq_true rfl) (by decide) (by decide) (l_lay hfl C I hB _ _ _) (fun v9 h9 p9 => ?_)
      replace p9 := opq_ac hK J hB9 (fun z => pa_108) p9
      obtain ⟨y9, rfl, p9⟩ := p9
      refine wl_q (by decide) rfl (fun k q => by cases q) ?_
      exact ⟨_, rfl, p9⟩
    · iterate 2 refine wl_s rfl rfl ?_
      refine wl_b rfl rfl (fun c222 => ?_) (fun c222 => ?_)
      · iterate 2 refine wl_s rfl rfl ?_
        refine wl_v (i := 122) (mj := mX10_height) (na := 1) rfl (by decide +kernel) rfl ⟨Nat.le_of_ble_eq_true rfl, Nat.le_of_ble_eq_true rfl⟩ (by decide) (p_op_height 1 18 C _) (px_good (heightC_ok (by have := le_nI (b := 11) (by decide) (by omega) c222; omega))) (fun v9 h9 p9 => ?_)
        obtain ⟨rfl, C⟩ := p9
        iterate 9 refine wl_s rfl rfl ?_
        refine wl_w (mj := mL_lay) (na := 4) rfl (by decide) (by decide +kernel) (by decide +kernel) (by decide +kernel) (by decide +kernel) rfl (Nat.le_of_ble_eq_true rfl) (by decide) (by decide) (l_lay hfl C I hB _ _ _) (fun v9 h9 p9 => ?_)
        replace p9 := opq_ac hK J hB9 (fun z => pa_108) p9
        obtain ⟨y9, rfl, p9⟩ := p9
        refine wl_q (by decide) rfl (fun k q => by cases q) ?_
        exact ⟨_, rfl, p9⟩
      · iterate 5 refine wl_s rfl rfl ?_
        refine wl_g rfl rfl ?_
        iterate 9 refine wl_s rfl rfl ?_
        refine wl_w (mj := mL_lay) (na := 4) rfl (by decide) (by decide +kernel) (by decide +kernel) (by decide +kernel) (by decide +kernel) rfl (Nat.le_of_ble_eq_true rfl) (by decide) (by decide) (l_lay hfl C I hB _ _ _) (fun v9 h9 p9 => ?_)
        replace p9 := opq_ac hK J hB9 (fun z => pa_108) p9
        obtain ⟨y9, rfl, p9⟩ := p9
        refine wl_q (by decide) rfl (fun k q => by cases q) ?_
        exact ⟨_, rfl, p9⟩
  iterate 5 refine wl_s rfl rfl ?_
  rw [ey]
  iterate 8 refine wl_s rfl rfl ?_
  rw [sh1 (by omega)]
  iterate 2 refine wl_s rfl rfl ?_
  rw [rm13 (by omega)]
  iterate 4 refine wl_s rfl rfl ?_
  rw [ek]
  rcases (show k = 0 ∨ k = 1 ∨ k = 2 ∨ k = 3 ∨ k = 4 ∨ k = 5 ∨ k = 6 ∨ k = 7 ∨ k = 8 ∨ k = 9 ∨ k = 10 ∨ k = 11 ∨ k = 12 ∨ k = 13 ∨ k = 14 ∨ k = 15 by omega) with d | d | d | d | d | d | d | d | d | d | d | d | d | d | d | d <;> subst d
  · exact wl_sw rfl rfl (wl_sub (sub5 rfl rfl rfl rfl rfl) T72)
  · exact wl_sw rfl rfl (wl_sub (sub5 rfl rfl rfl rfl rfl) T90)
  · exact wl_sw rfl rfl (wl_sub (sub5 rfl rfl rfl rfl rfl) T99)
  · exact wl_sw rfl rfl (wl_sub (sub5 rfl rfl rfl rfl rfl) T99)
  · exact wl_sw rfl rfl (wl_sub (sub5 rfl rfl rfl rfl rfl) T99)
  · exact wl_sw rfl rfl (wl_sub (sub5 rfl rfl rfl rfl rfl) T125)
  · exact wl_sw rfl rfl (wl_sub (sub5 rfl rfl rfl rfl rfl) T153)
  · exact wl_sw rfl rfl (wl_sub (sub5 rfl rfl rfl rfl rfl) T162)
  · exact wl_sw rfl rfl (wl_sub (sub5 rfl rfl rfl rfl rfl) T180)
  all_goals exact wl_sw rfl rfl (wl_sub (sub5 rfl rfl rfl rfl rfl) T212)
end
