noncomputable section
section
variable {r : Nat → Int32} {w : Nat → UInt32} {B : Nat}
theorem sv_some : ∀ (n v : Nat), svF r w n = some v → v < n ∧ svP r w v = true ∧ ∀ j, v < j → j < n → ¬ svP r w j = true
  | 0, v, h => by cases h
  | n + 1, v, h => by
    unfold svF at h
    split at h
    · next c =>
      cases h
      exact ⟨Nat.lt_succ_self _, c, fun j h1 h2 => absurd h2 (by omega)⟩
    · next c =>
      obtain ⟨a1, a2, a3⟩ := sv_some n v h
      refine ⟨by omega, a2, fun j h1 h2 => ?_⟩
      by_cases e : j = n
      · subst e; exact c
      · exact a3 j h1 (by omega)
theorem sv_none : ∀ (n : Nat), svF r w n = none → ∀ j, j < n → ¬ svP r w j = true
  | 0, h, j, hj => absurd hj (Nat.not_lt_zero j)
  | n + 1, h, j, hj => by
    unfold svF at h
    split at h
    · cases h
    · next c =>
      by_cases e : j = n
      · subst e; exact c
      · exact sv_none n h j (by omega)
theorem nh_le : nhR r ≤ 24 := by
  unfold nhR
  have := Nat.mod_lt (36 - hrOf r) (show 0 < 24 by decide)
  omega
theorem sv_yes {v : Nat} (h : svP r w v = true) : onN (hoursR (nhR r) (upd r 3 (nI v)) w) = onN r := of_decide_eq_true h
theorem sv_no (I : Inv B r w) (hB : B + 48 < 2 ^ 30) {v : Nat} (hv : v ≤ 50) (h : ¬ svP r w v = true) : onN (hoursR (nhR r) (upd r 3 (nI v)) w) < onN r := by
  have h1 : onN (hoursR (nhR r) (upd r 3 (nI v)) w) ≠ onN r := fun z => h (decide_eq_true z)
  have := nh_le (r := r)
  have h2 := hours_on (nhR r) B (I.vis hv).2.1 (by omega)
  rw [on_upd (by decide) (by decide)] at h2
  omega
theorem acct_0 (I : Inv B r w) {a b : Int32} : acctV r a b (Int32.toNatClampNeg 0) = nI (CK r) := I.2.1.2.2.1.1
theorem rm24 {n : Nat} (hn : n < 2 ^ 31) : nI n - nI n / 24 * 24 = nI (n % 24) := pk_rem (d := 24) hn (by decide) (by decide)
end
set_option maxHeartbeats 1000000 in
/-- what is told of safe visitors -/
theorem c_isSafe {l : Launch} (hfl : l.stackTraces = false) {h : AH} {r : Nat → Int32} {w : Nat → UInt32} {S : Sv} {K : Hs} {q : Int32 × Int32} {T : Tx} {B : Nat} (C : CS h r w S K q T) (J : IS B r w S K) (hB : B + 48 < 2 ^ 30) : LX l mL_isSafe 23 8 [.ref 31] h (fun v h' => v = some (.int 1) ∧ ∃ K', CS h' r w S K' q T ∧ IS B r w S K') := by
  have I := J.1
  have hon := onN_le I.1.1
  have hck := I.2.1.2.2.1
  have hr24 : hrOf r < 24 := Nat.mod_lt _ (by decide)
  have hnh := nh_le (r := r)
  obtain ⟨n3, hn3, e3⟩ := r3_ok I
  have g3 : ¬ r 3 < 0 := by rw [e3]; exact nI_pos (by omega)
  have gu : ∀ K : Hs, ¬ nI ((pushK K r w).1 - 1) < 0 := fun K => nI_pos (by have := Nat.min_le_right (K.1 + 1) 8; show min (K.1 + 1) 8 - 1 < _; omega)
  refine lc_mk hfl (by decide) (Nat.le_of_ble_eq_true rfl) (fun p e R s m args below meth c D ca A ad => ?_)
  show WL p l e R s m args below meth c _ mL_isSafe 23 8 D ca ad A ad [] _ 0 0 [(0, .ref 31)] [] h
  refine wl_s rfl rfl ?_
  refine wl_w (mj := mL_safe) (na := 1) rfl (by decide) (by decide +kernel) (by decide +kernel) (by decide +kernel) (by decide +kernel) rfl (Nat.le_of_ble_eq_true rfl) (by decide) (by omega) (l_safe hfl C I hB) (fun v9 h9 p9 => ?_)
  obtain ⟨g, C⟩ := p9
  rcases g with ⟨g0, rfl⟩ | ⟨g0, rfl⟩
  skip
  · obtain ⟨v, hv⟩ : ∃ v, svF r w 51 = some v := by
      cases z : svF r w 51 with
      | none => unfold sfC at g0; rw [if_pos z] at g0; exact absurd g0 (by decide)
      | some v => exact ⟨v, rfl⟩
    obtain ⟨v1, v2, v3⟩ := sv_some 51 v hv
    have y1 := sv_yes v2
    have I2 := I.vis (v := v) (by omega)
    have J2 := (J.push C.K8 I2)
    rw [show sfA r w = nI v by show oI (svF r w 51) = _; rw [hv]; rfl]
    by_cases v4 : v < 50
    · have y2 := sv_no I hB (v := v + 1) (by omega) (v3 (v + 1) (by omega) (by omega))
      have I3 := I.vis (v := v + 1) (by omega)
      iterate 4 refine wl_s rfl rfl ?_
      refine wl_v (i := 131) (mj := mX10_account) (na := 1) rfl (by decide +kernel) rfl ⟨Nat.le_of_ble_eq_true rfl, Nat.le_of_ble_eq_true rfl⟩ (by decide) (p_op_account 1 17 C I _) (px_good (acctC_ok (n := 0) (by decide))) (fun v9 h9 p9 => ?_)
      obtain ⟨rfl, C⟩ := p9
      refine wl_s rfl rfl ?_
      rw [acct_0 I]
      refine wl_s rfl rfl ?_
      rw [rm24 (by omega), show CK r % 24 = hrOf r from rfl]
      iterate 3 refine wl_s rfl rfl ?_
      rw [nh_e _ hr24]
      iterate 2 refine wl_s rfl rfl ?_
      rw [rm24 (by omega)]
      iterate 2 refine wl_s rfl rfl ?_
      rw [nI_1, show (36 - hrOf r) % 24 + 1 = nhR r from rfl]
      iterate 3 refine wl_s rfl rfl ?_
      refine wl_v (i := 131) (mj := mX10_account) (na := 1) rfl (by decide +kernel) rfl ⟨Nat.le_of_ble_eq_true rfl, Nat.le_of_ble_eq_true rfl⟩ (by decide) (p_op_account 1 17 C I _) (px_good (acctC_ok (n := 6) (by decide))) (fun v9 h9 p9 => ?_)
      obtain ⟨rfl, C⟩ := p9
      rw [acct_6]
      iterate 2 refine wl_s rfl rfl ?_
      refine wl_c (mj := mL_digest) (na := 1) rfl (by decide) (by decide +kernel) (by decide +kernel) (by decide +kernel) (by decide +kernel) rfl (Nat.le_of_ble_eq_true rfl) (by decide) (by omega) (c_digest hfl C I hB) (fun v9 h9 p9 => ?_)
      obtain ⟨rfl, C⟩ := p9
      iterate 3 refine wl_s rfl rfl ?_
      refine wl_b rfl rfl (fun q => absurd q (nI_rf (by omega))) (fun _ => ?_)
      iterate 2 refine wl_s rfl rfl ?_
      refine wl_w (mj := mL_visit) (na := 2) rfl (by decide) (by decide +kernel) (by decide +kernel) (by decide +kernel) (by decide +kernel) rfl (Nat.le_of_ble_eq_true rfl) (by decide) (by omega) (l_visit_ok hfl C I hB (v := v) (by omega)) (fun v9 h9 p9 => ?_)
      have hK := C.K8
      obtain ⟨rfl, C⟩ := p9
      refine wl_b rfl rfl (fun q => absurd q g3) (fun _ => ?_)
      iterate 2 refine wl_s rfl rfl ?_
      refine wl_v (i := 206) (mj := mX10_left) (na := 1) rfl (by decide +kernel) rfl ⟨Nat.le_of_ble_eq_true rfl, Nat.le_of_ble_eq_true rfl⟩ (by decide) (p_op_left 1 13 C I2 hB _) (px_good (leftC_ok (by omega))) (fun v9 h9 p9 => ?_)
      obtain ⟨rfl, C⟩ := p9
      rw [cl (nhR r), y1]
      refine wl_s rfl rfl ?_
      refine wl_b rfl rfl (fun q => absurd q (fun z => z rfl)) (fun _ => ?_)
      refine wl_s rfl rfl ?_
      refine wl_w (mj := mL_undo) (na := 1) rfl (by decide) (by decide +kernel) (by decide +kernel) (by decide +kernel) (by decide +kernel) rfl (Nat.le_of_ble_eq_true rfl) (by decide) (by omega) (l_undo_ok hfl hK C (J.push hK I2)) (fun v9 h9 p9 => ?_)
      obtain ⟨rfl, C⟩ := p9
      have J := J.top hK
      refine wl_b rfl rfl (fun q => absurd q (gu _)) (fun _ => ?_)
      refine wl_s rfl rfl ?_
      refine wl_g rfl rfl ?_
      iterate 3 refine wl_s rfl rfl ?_
      refine wl_b rfl rfl (fun _ => ?_) (fun q => absurd (nI_rf (by omega)) q)
      iterate 3 refine wl_s rfl rfl ?_
      rw [nI_1]
      iterate 2 refine wl_s rfl rfl ?_
      refine wl_b rfl rfl (fun q => absurd q (by decide)) (fun _ => ?_)
      iterate 2 refine wl_s rfl rfl ?_
      refine wl_b rfl rfl (fun q => absurd q (Int32.not_lt.mpr (nI_le (b := 50) (by omega) (by decide)))) (fun _ => ?_)
      iterate 2 refine wl_s rfl rfl ?_
      refine wl_w (mj := mL_visit) (na := 2) rfl (by decide) (by decide +kernel) (by decide +kernel) (by decide +kernel) (by decide +kernel) rfl (Nat.le_of_ble_eq_true rfl) (by decide) (by omega) (l_visit_ok hfl C I hB (v := v + 1) (by omega)) (fun v9 h9 p9 => ?_)
      have hK := C.K8
      obtain ⟨rfl, C⟩ := p9
      refine wl_b rfl rfl (fun q => absurd q g3) (fun _ => ?_)
      iterate 2 refine wl_s rfl rfl ?_
      refine wl_v (i := 206) (mj := mX10_left) (na := 1) rfl (by decide +kernel) rfl ⟨Nat.le_of_ble_eq_true rfl, Nat.le_of_ble_eq_true rfl⟩ (by decide) (p_op_left 1 13 C I3 hB _) (px_good (leftC_ok (by omega))) (fun v9 h9 p9 => ?_)
      obtain ⟨rfl, C⟩ := p9
      rw [cl (nhR r)]
      refine wl_s rfl rfl ?_
      refine wl_b rfl rfl (fun q => absurd q (nI_ge y2 (by omega))) (fun _ => ?_)
      refine wl_s rfl rfl ?_
      refine wl_w (mj := mL_undo) (na := 1) rfl (by decide) (by decide +kernel) (by decide +kernel) (by decide +kernel) (by decide +kernel) rfl (Nat.le_of_ble_eq_true rfl) (by decide) (by omega) (l_undo_ok hfl hK C (J.push hK I3)) (fun v9 h9 p9 => ?_)
      obtain ⟨rfl, C⟩ := p9
      have J := J.top hK
      refine wl_b rfl rfl (fun q => absurd q (gu _)) (fun _ => ?_)
      refine wl_s rfl rfl ?_
      refine wl_g rfl rfl ?_
      iterate 2 refine wl_s rfl rfl ?_
      refine wl_b rfl rfl (fun q => absurd q (by decide)) (fun _ => ?_)
      refine wl_s rfl rfl ?_
      refine wl_c (mj := mL_digest) (na := 1) rfl (by decide) (by decide +kernel) (by decide +kernel) (by decide +kernel) (by decide +kernel) rfl (Nat.le_of_ble_eq_true rfl) (by decide) (by omega) (c_digest hfl C I hB) (fun v9 h9 p9 => ?_)
      obtain ⟨rfl, C⟩ := p9
      iterate 2 refine wl_s rfl rfl ?_
      refine wl_b rfl rfl (fun q => absurd q (fun z => z lgS)) (fun _ => ?_)
      refine wl_s rfl rfl ?_
      refine wl_g rfl rfl ?_
      refine wl_q (by decide) rfl (fun k q => by cases q) ?_
      exact ⟨rfl, _, C, J⟩
    · have v5 : v = 50 := by omega
      subst v5
      iterate 4 refine wl_s rfl rfl ?_
      refine wl_v (i := 131) (mj := mX10_account) (na := 1) rfl (by decide +kernel) rfl ⟨Nat.le_of_ble_eq_true rfl, Nat.le_of_ble_eq_true rfl⟩ (by decide) (p_op_account 1 17 C I _) (px_good (acctC_ok (n := 0) (by decide))) (fun v9 h9 p9 => ?_)
      obtain ⟨rfl, C⟩ := p9
      refine wl_s rfl rfl ?_
      rw [acct_0 I]
      refine wl_s rfl rfl ?_
      rw [rm24 (by omega), show CK r % 24 = hrOf r from rfl]
      iterate 3 refine wl_s rfl rfl ?_
      rw [nh_e _ hr24]
      iterate 2 refine wl_s rfl rfl ?_
      rw [rm24 (by omega)]
      iterate 2 refine wl_s rfl rfl ?_
      rw [nI_1, show (36 - hrOf r) % 24 + 1 = nhR r from rfl]
      iterate 3 refine wl_s rfl rfl ?_
      refine wl_v (i := 131) (mj := mX10_account) (na := 1) rfl (by decide +kernel) rfl ⟨Nat.le_of_ble_eq_true rfl, Nat.le_of_ble_eq_true rfl⟩ (by decide) (p_op_account 1 17 C I _) (px_good (acctC_ok (n := 6) (by decide))) (fun v9 h9 p9 => ?_)
      obtain ⟨rfl, C⟩ := p9
      rw [acct_6]
      iterate 2 refine wl_s rfl rfl ?_
      refine wl_c (mj := mL_digest) (na := 1) rfl (by decide) (by decide +kernel) (by decide +kernel) (by decide +kernel) (by decide +kernel) rfl (Nat.le_of_ble_eq_true rfl) (by decide) (by omega) (c_digest hfl C I hB) (fun v9 h9 p9 => ?_)
      obtain ⟨rfl, C⟩ := p9
      iterate 3 refine wl_s rfl rfl ?_
      refine wl_b rfl rfl (fun q => absurd q (nI_rf (by omega))) (fun _ => ?_)
      iterate 2 refine wl_s rfl rfl ?_
      refine wl_w (mj := mL_visit) (na := 2) rfl (by decide) (by decide +kernel) (by decide +kernel) (by decide +kernel) (by decide +kernel) rfl (Nat.le_of_ble_eq_true rfl) (by decide) (by omega) (l_visit_ok hfl C I hB (v := 50) (by omega)) (fun v9 h9 p9 => ?_)
      have hK := C.K8
      obtain ⟨rfl, C⟩ := p9
      refine wl_b rfl rfl (fun q => absurd q g3) (fun _ => ?_)
      iterate 2 refine wl_s rfl rfl ?_
      refine wl_v (i := 206) (mj := mX10_left) (na := 1) rfl (by decide +kernel) rfl ⟨Nat.le_of_ble_eq_true rfl, Nat.le_of_ble_eq_true rfl⟩ (by decide) (p_op_left 1 13 C I2 hB _) (px_good (leftC_ok (by omega))) (fun v9 h9 p9 => ?_)
      obtain ⟨rfl, C⟩ := p9
      rw [cl (nhR r), y1]
      refine wl_s rfl rfl ?_
      refine wl_b rfl rfl (fun q => absurd q (fun z => z rfl)) (fun _ => ?_)
      refine wl_s rfl rfl ?_
      refine wl_w (mj := mL_undo) (na := 1) rfl (by decide) (by decide +kernel) (by decide +kernel) (by decide +kernel) (by decide +kernel) rfl (Nat.le_of_ble_eq_true rfl) (by decide) (by omega) (l_undo_ok hfl hK C (J.push hK I2)) (fun v9 h9 p9 => ?_)
      obtain ⟨rfl, C⟩ := p9
      have J := J.top hK
      refine wl_b rfl rfl (fun q => absurd q (gu _)) (fun _ => ?_)
      refine wl_s rfl rfl ?_
      refine wl_g rfl rfl ?_
      iterate 3 refine wl_s rfl rfl ?_
      refine wl_b rfl rfl (fun _ => ?_) (fun q => absurd (nI_rf (by omega)) q)
      iterate 3 refine wl_s rfl rfl ?_
      rw [nI_1]
      iterate 2 refine wl_s rfl rfl ?_
      refine wl_b rfl rfl (fun q => absurd q (by decide)) (fun _ => ?_)
      iterate 2 refine wl_s rfl rfl ?_
      refine wl_b rfl rfl (fun _ => ?_) (fun q => absurd (by decide) q)
      refine wl_s rfl rfl ?_
      refine wl_g rfl rfl ?_
      iterate 2 refine wl_s rfl rfl ?_
      refine wl_b rfl rfl (fun q => absurd q (by decide)) (fun _ => ?_)
      refine wl_s rfl rfl ?_
      refine wl_c (mj := mL_digest) (na := 1) rfl (by decide) (by decide +kernel) (by decide +kernel) (by decide +kernel) (by decide +kernel) rfl (Nat.le_of_ble_eq_true rfl) (by decide) (by omega) (c_digest hfl C I hB) (fun v9 h9 p9 => ?_)
      obtain ⟨rfl, C⟩ := p9
      iterate 2 refine wl_s rfl rfl ?_
      refine wl_b rfl rfl (fun q => absurd q (fun z => z lgS)) (fun _ => ?_)
      refine wl_s rfl rfl ?_
      refine wl_g rfl rfl ?_
      refine wl_q (by decide) rfl (fun k q => by cases q) ?_
      exact ⟨rfl, _, C, J⟩
  · have hv : svF r w 51 = none := by
      cases z : svF r w 51 with
      | none => rfl
      | some v => exact absurd (by unfold sfC; rw [if_neg (by rw [z]; exact fun y => by cases y)]) g0
    have y2 := sv_no I hB (v := 0) (by omega) (sv_none 51 hv 0 (by decide))
    have I3 := I.vis (v := 0) (by omega)
    iterate 4 refine wl_s rfl rfl ?_
    refine wl_v (i := 131) (mj := mX10_account) (na := 1) rfl (by decide +kernel) rfl ⟨Nat.le_of_ble_eq_true rfl, Nat.le_of_ble_eq_true rfl⟩ (by decide) (p_op_account 1 17 C I _) (px_good (acctC_ok (n := 0) (by decide))) (fun v9 h9 p9 => ?_)
    obtain ⟨rfl, C⟩ := p9
    refine wl_s rfl rfl ?_
    rw [acct_0 I]
    refine wl_s rfl rfl ?_
    rw [rm24 (by omega), show CK r % 24 = hrOf r from rfl]
    iterate 3 refine wl_s rfl rfl ?_
    rw [nh_e _ hr24]
    iterate 2 refine wl_s rfl rfl ?_
    rw [rm24 (by omega)]
    iterate 2 refine wl_s rfl rfl ?_
    rw [nI_1, show (36 - hrOf r) % 24 + 1 = nhR r from rfl]
    iterate 3 refine wl_s rfl rfl ?_
    refine wl_v (i := 131) (mj := mX10_account) (na := 1) rfl (by decide +kernel) rfl ⟨Nat.le_of_ble_eq_true rfl, Nat.le_of_ble_eq_true rfl⟩ (by decide) (p_op_account 1 17 C I _) (px_good (acctC_ok (n := 6) (by decide))) (fun v9 h9 p9 => ?_)
    obtain ⟨rfl, C⟩ := p9
    rw [acct_6]
    iterate 2 refine wl_s rfl rfl ?_
    refine wl_c (mj := mL_digest) (na := 1) rfl (by decide) (by decide +kernel) (by decide +kernel) (by decide +kernel) (by decide +kernel) rfl (Nat.le_of_ble_eq_true rfl) (by decide) (by omega) (c_digest hfl C I hB) (fun v9 h9 p9 => ?_)
    obtain ⟨rfl, C⟩ := p9
    iterate 3 refine wl_s rfl rfl ?_
    refine wl_b rfl rfl (fun _ => ?_) (fun q => absurd rfl q)
    refine wl_s rfl rfl ?_
    refine wl_g rfl rfl ?_
    iterate 3 refine wl_s rfl rfl ?_
    refine wl_b rfl rfl (fun q => absurd q (fun z => z rfl)) (fun _ => ?_)
    refine wl_s rfl rfl ?_
    refine wl_g rfl rfl ?_
    iterate 2 refine wl_s rfl rfl ?_
    refine wl_b rfl rfl (fun q => absurd q (by decide)) (fun _ => ?_)
    iterate 2 refine wl_s rfl rfl ?_
    refine wl_b rfl rfl (fun q => absurd q (by decide)) (fun _ => ?_)
    iterate 2 refine wl_s rfl rfl ?_
    refine wl_w (mj := mL_visit) (na := 2) rfl (by decide) (by decide +kernel) (by decide +kernel) (by decide +kernel) (by decide +kernel) rfl (Nat.le_of_ble_eq_true rfl) (by decide) (by omega) (l_visit_ok hfl C I hB (v := 0) (by omega)) (fun v9 h9 p9 => ?_)
    have hK := C.K8
    obtain ⟨rfl, C⟩ := p9
    refine wl_b rfl rfl (fun q => absurd q g3) (fun _ => ?_)
    iterate 2 refine wl_s rfl rfl ?_
    refine wl_v (i := 206) (mj := mX10_left) (na := 1) rfl (by decide +kernel) rfl ⟨Nat.le_of_ble_eq_true rfl, Nat.le_of_ble_eq_true rfl⟩ (by decide) (p_op_left 1 13 C I3 hB _) (px_good (leftC_ok (by omega))) (fun v9 h9 p9 => ?_)
    obtain ⟨rfl, C⟩ := p9
    rw [cl (nhR r)]
    refine wl_s rfl rfl ?_
    refine wl_b rfl rfl (fun q => absurd q (nI_ge y2 (by omega))) (fun _ => ?_)
    refine wl_s rfl rfl ?_
    refine wl_w (mj := mL_undo) (na := 1) rfl (by decide) (by decide +kernel) (by decide +kernel) (by decide +kernel) (by decide +kernel) rfl (Nat.le_of_ble_eq_true rfl) (by decide) (by omega) (l_undo_ok hfl hK C (J.push hK I3)) (fun v9 h9 p9 => ?_)
    obtain ⟨rfl, C⟩ := p9
    have J := J.top hK
    refine wl_b rfl rfl (fun q => absurd q (gu _)) (fun _ => ?_)
    refine wl_s rfl rfl ?_
    refine wl_g rfl rfl ?_
    iterate 2 refine wl_s rfl rfl ?_
    refine wl_b rfl rfl (fun q => absurd q (by decide)) (fun _ => ?_)
    refine wl_s rfl rfl ?_
    refine wl_c (mj := mL_digest) (na := 1) rfl (by decide) (by decide +kernel) (by decide +kernel) (by decide +kernel) (by decide +kernel) rfl (Nat.le_of_ble_eq_true rfl) (by decide) (by omega) (c_digest hfl C I hB) (fun v9 h9 p9 => ?_)
    obtain ⟨rfl, C⟩ := p9
    iterate 2 refine wl_s rfl rfl ?_
    refine wl_b rfl rfl (fun q => absurd q (fun z => z lgS)) (fun _ => ?_)
    refine wl_s rfl rfl ?_
    refine wl_g rfl rfl ?_
    refine wl_q (by decide) rfl (fun k q => by cases q) ?_
    exact ⟨rfl, _, C, J⟩
end
