noncomputable section
section
variable {p : Program} {l : Launch} {e : Env} {R : Room} {s : State} {m : MethodId} {args : Array Value} {below : List Frame} {meth : Method} {c : Code} {Q : State → Prop} {KC : Nat} {D : va_G} {ca : Nat → ClassId} {ad0 ad : Nat → Nat} {A : Nat → Prop} {E : EX} {G : Nat → Nat → Int32} {kc : Nat} {h : AH} {r : Nat → Int32} {w : Nat → UInt32} {S : Sv} {K : Hs} {q : Int32 × Int32} {T : Tx} {B : Nat}
set_option maxHeartbeats 2000000 in
/-- the law's second half: what is checked behind the acts -/
theorem law_b (hfl : l.stackTraces = false) (hB : B + 100000 < 2 ^ 30) {kc0 : Nat} (hkc : kc0 + 400 ≤ 2000) (KF : ∀ (kc : Nat) (lc : LC) (h : AH), WL p l e R s m args below meth c Q mL_law 25 2000 D ca ad0 A ad E G kc 342 lc [.int 1] h) (C : CS h r w S K q T) (J : IS B r w S K) : WL p l e R s m args below meth c Q mL_law 25 2000 D ca ad0 A ad E G kc0 100 [(0, .ref 214), (1, .ref 31)] [] h := by
  refine wl_s rfl rfl ?_
  refine wl_c (mj := mL_isFit) (na := 1) rfl (by decide) (by decide +kernel) (by decide +kernel) (by decide +kernel) (by decide +kernel) rfl (Nat.le_of_ble_eq_true rfl) (by decide) (by omega) (c_isFit hfl C J.1 (by omega)) (fun v9 h9 p9 => ?_)
  obtain ⟨rfl, C⟩ := p9
  iterate 2 refine wl_s rfl rfl ?_
  refine wl_w (mj := mL_read) (na := 1) rfl (by decide) (by decide +kernel) (by decide +kernel) (by decide +kernel) (by decide +kernel) rfl (Nat.le_of_ble_eq_true rfl) (by decide) (by omega) (l_read hfl C J.1 (by omega)) (fun v9 h9 p9 => ?_)
  replace p9 := rdq_0 (h := h9) C.K8 J (by omega) p9
  obtain ⟨y9, rfl, r, w, K, q, T, C, J, hT⟩ := p9
  iterate 2 refine wl_s rfl rfl ?_
  refine wl_c (mj := mL_digest) (na := 1) rfl (by decide) (by decide +kernel) (by decide +kernel) (by decide +kernel) (by decide +kernel) rfl (Nat.le_of_ble_eq_true rfl) (by decide) (by omega) (c_digest hfl C J.1 (by omega)) (fun v9 h9 p9 => ?_)
  obtain ⟨rfl, C⟩ := p9
  iterate 2 refine wl_s rfl rfl ?_
  refine wl_xc rfl rfl ⟨Nat.le_of_ble_eq_true rfl, Nat.le_of_ble_eq_true rfl⟩ (by decide) (p_op_save 18 C J.1) (fun rv9 h9 p9 => ?_)
  obtain ⟨rfl, C⟩ := p9
  replace J : IS (B + 3000) r w (true, r, w) K := ⟨J.1, fun _ => J.1, J.2.2⟩
  iterate 2 refine wl_s rfl rfl ?_
  refine wl_b rfl rfl (fun q => absurd q (by decide)) (fun _ => ?_)
  refine wl_s rfl rfl ?_
  refine wl_c (mj := mL_isGone) (na := 1) rfl (by decide) (by decide +kernel) (by decide +kernel) (by decide +kernel) (by decide +kernel) rfl (Nat.le_of_ble_eq_true rfl) (by decide) (by omega) (c_isGone hfl C J.1 (by omega)) (fun v9 h9 p9 => ?_)
  obtain ⟨rfl, C⟩ := p9
  refine wl_b rfl rfl (fun q => absurd q (by decide)) (fun _ => ?_)
  refine wl_s rfl rfl ?_
  refine wl_c (mj := mL_isSafe) (na := 1) rfl (by decide) (by decide +kernel) (by decide +kernel) (by decide +kernel) (by decide +kernel) rfl (Nat.le_of_ble_eq_true rfl) (by decide) (by omega) (c_isSafe hfl C J (by omega)) (fun v9 h9 p9 => ?_)
  obtain ⟨rfl, K, C, J⟩ := p9
  refine wl_b rfl rfl (fun q => absurd q (by decide)) (fun _ => ?_)
  iterate 2 refine wl_s rfl rfl ?_
  refine wl_c (mj := mL_isAhead) (na := 2) rfl (by decide) (by decide +kernel) (by decide +kernel) (by decide +kernel) (by decide +kernel) rfl (Nat.le_of_ble_eq_true rfl) (by decide) (by omega) (c_isAhead hfl C J (by omega) (n := 1) (by decide) (by decide)) (fun v9 h9 p9 => ?_)
  obtain ⟨rfl, K, C, J⟩ := p9
  refine wl_b rfl rfl (fun q => absurd q (by decide)) (fun _ => ?_)
  iterate 2 refine wl_s rfl rfl ?_
  refine wl_c (mj := mL_isAhead) (na := 2) rfl (by decide) (by decide +kernel) (by decide +kernel) (by decide +kernel) (by decide +kernel) rfl (Nat.le_of_ble_eq_true rfl) (by decide) (by omega) (c_isAhead hfl C J (by omega) (n := 13) (by decide) (by decide)) (fun v9 h9 p9 => ?_)
  obtain ⟨rfl, K, C, J⟩ := p9
  refine wl_b rfl rfl (fun q => absurd q (by decide)) (fun _ => ?_)
  iterate 2 refine wl_s rfl rfl ?_
  refine wl_c (mj := mL_isAhead) (na := 2) rfl (by decide) (by decide +kernel) (by decide +kernel) (by decide +kernel) (by decide +kernel) rfl (Nat.le_of_ble_eq_true rfl) (by decide) (by omega) (c_isAhead hfl C J (by omega) (n := 48) (by decide) (by decide)) (fun v9 h9 p9 => ?_)
  obtain ⟨rfl, K, C, J⟩ := p9
  refine wl_b rfl rfl (fun q => absurd q (by decide)) (fun _ => ?_)
  refine wl_s rfl rfl ?_
  refine wl_g rfl rfl ?_
  iterate 3 refine wl_s rfl rfl ?_
  refine wl_mono (kc2 := kc0 + 100) (by omega) (by omega) (wl_sub (sub6 rfl rfl rfl rfl rfl rfl) (lt_loop (kc0 := kc0 + 100) (B := B + 3000) hfl (by omega) (by omega) (fun h K q T C J => ?_) 12 0 _ _ _ _ _ rfl (Nat.le_refl _) C hT J))
  have hK := C.K8
  have J2 : IS (B + 3000 + 36000) (upd r 3 (nI 20)) w (true, r, w) (pushK K r w) := J.push hK (J.1.vis (by decide))
  iterate 2 refine wl_s rfl rfl ?_
  refine wl_w (mj := mL_visit) (na := 2) rfl (by decide) (by decide +kernel) (by decide +kernel) (by decide +kernel) (by decide +kernel) rfl (Nat.le_of_ble_eq_true rfl) (by decide) (by omega) (l_visit_ok hfl C J.1 (by omega) (v := 20) (by decide)) (fun v9 h9 p9 => ?_)
  obtain ⟨rfl, C⟩ := p9
  iterate 3 refine wl_s rfl rfl ?_
  refine wl_mono (kc2 := kc0 + 365) (by omega) (by omega) (wl_sub (sub6 rfl rfl rfl rfl rfl rfl) (lp_loop (kc0 := kc0 + 365) (B := B + 3000 + 36000) hfl (by omega) (by omega) (fun h r2 w2 K C J => ?_) 3 0 _ _ _ _ rfl C J2))
  refine wl_s rfl rfl ?_
  refine wl_b rfl rfl (fun q => absurd q (by decide)) (fun _ => ?_)
  refine wl_s rfl rfl ?_
  skip
  refine wl_w (mj := mL_restore) (na := 1) rfl (by decide) (by decide +kernel) (by decide +kernel) (by decide +kernel) (by decide +kernel) rfl (Nat.le_of_ble_eq_true rfl) (by decide) (by omega) (l_restore hfl C J) (fun v9 h9 p9 => ?_)
  rcases p9 with ⟨-, rfl, C⟩ | ⟨z, -⟩
  · have J3 : IS (B + 3000 + 36000 + 27) r w (true, r, w) (0, K.2) := ⟨J.2.1 rfl, J.2.1, fun i hi => absurd hi (Nat.not_lt_zero i)⟩
    refine wl_s rfl rfl ?_
    refine wl_b rfl rfl (fun q => absurd q (fun z => z rfl)) (fun _ => ?_)
    refine wl_s rfl rfl ?_
    refine wl_c (mj := mL_digest) (na := 1) rfl (by decide) (by decide +kernel) (by decide +kernel) (by decide +kernel) (by decide +kernel) rfl (Nat.le_of_ble_eq_true rfl) (by decide) (by omega) (c_digest hfl C J3.1 (by omega)) (fun v9 h9 p9 => ?_)
    obtain ⟨rfl, C⟩ := p9
    iterate 2 refine wl_s rfl rfl ?_
    refine wl_b rfl rfl (fun q => absurd q (fun z => z lgS)) (fun _ => ?_)
    refine wl_s rfl rfl ?_
    refine wl_w (mj := mL_undo) (na := 1) rfl (by decide) (by decide +kernel) (by decide +kernel) (by decide +kernel) (by decide +kernel) rfl (Nat.le_of_ble_eq_true rfl) (by decide) (by omega) (l_undo hfl C J3) (fun v9 h9 p9 => ?_)
    replace p9 := p9.elim (fun z => absurd (show (1 : Int32) = 0 from z.1) (by decide)) (fun z => z.2)
    obtain ⟨rfl, C⟩ := p9
    refine wl_s rfl rfl ?_
    refine wl_b rfl rfl (fun q => absurd q (fun z => z rfl)) (fun _ => ?_)
    refine wl_s rfl rfl ?_
    refine wl_g rfl rfl ?_
    exact KF _ _ _
  · exact absurd rfl z
set_option maxHeartbeats 2000000 in
/-- the law behind the object that it makes -/
theorem law_a (hfl : l.stackTraces = false) {b L : Nat} {xs : Nat → Int32} (hL9 : L < 2 ^ 31) (hXs : va_X b L xs s s.heap) (hbl : b < s.heap.size) (hbA : ¬ A b) (had : ad 214 = b) (KF : ∀ (kc : Nat) (lc : LC) (h : AH), WL p l e R s m args below meth c Q mL_law 25 2000 D ca ad0 A ad E G kc 342 lc [.int 1] h) (C : CS h r w S K q T) (J : IS 0 r w S K) : WL p l e R s m args below meth c Q mL_law 25 2000 D ca ad0 A ad E G 181 8 [(0, .ref 214), (1, .ref 31)] [] h := by
  iterate 4 refine wl_s rfl rfl ?_
  refine wl_w (mj := mL_saw) (na := 4) rfl (by decide) (by decide +kernel) (by decide +kernel) (by decide +kernel) (by decide +kernel) rfl (Nat.le_of_ble_eq_true rfl) (by decide) (by omega) (l_saw hfl C J.1 (by omega) _ _ _) (fun v9 h9 p9 => ?_)
  replace p9 := opq_ac C.K8 J (by omega) (fun z => pa_115 J.1) p9
  obtain ⟨y9, rfl, r, w, S, K, q, T, C, J, -⟩ := p9
  iterate 5 refine wl_s rfl rfl ?_
  refine wl_w (mj := mL_saw) (na := 4) rfl (by decide) (by decide +kernel) (by decide +kernel) (by decide +kernel) (by decide +kernel) rfl (Nat.le_of_ble_eq_true rfl) (by decide) (by omega) (l_saw hfl C J.1 (by omega) _ _ _) (fun v9 h9 p9 => ?_)
  replace p9 := opq_ac C.K8 J (by omega) (fun z => pa_115 J.1) p9
  obtain ⟨y9, rfl, r, w, S, K, q, T, C, J, -⟩ := p9
  iterate 5 refine wl_s rfl rfl ?_
  refine wl_w (mj := mL_lay) (na := 4) rfl (by decide) (by decide +kernel) (by decide +kernel) (by decide +kernel) (by decide +kernel) rfl (Nat.le_of_ble_eq_true rfl) (by decide) (by omega) (l_lay hfl C J.1 (by omega) _ _ _) (fun v9 h9 p9 => ?_)
  replace p9 := opq_ac C.K8 J (by omega) (fun z => pa_108) p9
  obtain ⟨y9, rfl, r, w, S, K, q, T, C, J, -⟩ := p9
  iterate 5 refine wl_s rfl rfl ?_
  refine wl_w (mj := mL_lay) (na := 4) rfl (by decide) (by decide +kernel) (by decide +kernel) (by decide +kernel) (by decide +kernel) rfl (Nat.le_of_ble_eq_true rfl) (by decide) (by omega) (l_lay hfl C J.1 (by omega) _ _ _) (fun v9 h9 p9 => ?_)
  replace p9 := opq_ac C.K8 J (by omega) (fun z => pa_108) p9
  obtain ⟨y9, rfl, r, w, S, K, q, T, C, J, -⟩ := p9
  iterate 2 refine wl_s rfl rfl ?_
  refine wl_sl (by decide +kernel) hXs hbl hbA had ?_
  refine wl_s rfl rfl ?_
  refine wl_b rfl rfl (fun c44 => ?_) (fun c44 => ?_)
  · iterate 4 refine wl_s rfl rfl ?_
    refine wl_mono (kc2 := 200) (by omega) (by omega) (wl_sub (sub4 rfl rfl rfl rfl) (la_loop (N := 40) (kc0 := 200) (B0 := 12000) hfl hL9 hXs hbl hbA had (by decide) (by omega) (by omega) (fun h r w S K q T C J => law_b hfl (by omega) (by omega) KF C J) 40 0 12000 _ _ _ _ _ _ _ rfl (by omega) C (J.le (by omega) (by omega))))
  · refine wl_s rfl rfl ?_
    refine wl_sl (by decide +kernel) hXs hbl hbA had ?_
    refine wl_g rfl rfl ?_
    iterate 3 refine wl_s rfl rfl ?_
    refine wl_mono (kc2 := 200) (by omega) (by omega) (wl_sub (sub4 rfl rfl rfl rfl) (la_loop (N := L) (kc0 := 200) (B0 := 12000) hfl hL9 hXs hbl hbA had (Nat.le_of_not_lt (fun z => c44 (nI_le (a := 40) (by omega) hL9))) (by omega) (by omega) (fun h r w S K q T C J => law_b hfl (by omega) (by omega) KF C J) L 0 12000 _ _ _ _ _ _ _ (Nat.zero_add _) (by omega) C (J.le (by omega) (by omega))))
end
end
