noncomputable section
theorem hE1 : ((212, 40) : Nat × Nat) ∈ ([(212, 40)] : EX) := List.mem_cons_self
theorem hU1 : ∀ y ∈ ([(212, 40)] : EX), y.1 = 212 → y = (212, 40) := fun y hy _ => List.mem_singleton.mp hy
theorem mbA_0 {n : Nat} {r : Nat → Int32} {w : Nat → UInt32} {b : Nat} : mbA (hoursR n r w) (hoursW n r w) b 0 = mbA r w b n := rfl
section
variable {p : Program} {l : Launch} {e : Env} {R : Room} {s : State} {m : MethodId} {args : Array Value} {below : List Frame} {meth : Method} {c : Code} {Q : State → Prop} {KC : Nat} {D : va_G} {ca : Nat → ClassId} {ad0 ad : Nat → Nat} {A : Nat → Prop} {E : EX} {G : Nat → Nat → Int32} {kc : Nat} {h : AH} {r : Nat → Int32} {w : Nat → UInt32} {S : Sv} {K : Hs} {q : Int32 × Int32} {T : Tx} {B : Nat}
theorem ah_1 (I : Inv B r w) (hB : B + 48 < 2 ^ 30) {n : Nat} (hn : n ≤ 48) {x9 : Int64} {y9 : Int32} (KE : ∀ (G : Nat → Nat → Int32) (h : AH), (∀ j, j < CN r → G 212 j = mbA r w j n) → CS h r w S K q T → WL p l e R s m args below meth c Q mL_isAhead 24 KC D ca ad0 A ad [(212, 40)] G kc 53 [(0, .ref 31), (1, .int (nI n)), (2, .long x9), (4, .int y9), (5, .int (nI (CN r))), (6, .ref 212), (7, .int (nI (CN r)))] [] h) : ∀ (t k : Nat) (G : Nat → Nat → Int32) (h : AH), k + t = CN r → (∀ j, j < k → G 212 j = mbA r w j n) → CS h r w S K q T → WL p l e R s m args below meth c Q mL_isAhead 24 KC D ca ad0 A ad [(212, 40)] G kc 28 [(0, .ref 31), (1, .int (nI n)), (2, .long x9), (4, .int y9), (5, .int (nI (CN r))), (6, .ref 212), (7, .int (nI k))] [] h := by
  have h40 := I.1.1.2.1
  intro t
  induction t with
  | zero =>
    intro k G h ht hG C
    have hk : k = CN r := by omega
    subst hk
    iterate 2 refine wl_s rfl rfl ?_
    refine wl_b rfl rfl (fun _ => ?_) (fun q => absurd (Int32.le_refl _) q)
    exact KE _ _ hG C
  | succ t ih =>
    intro k G h ht hG C
    have hk : k < CN r := by omega
    have hk4 : k < 40 := by omega
    iterate 2 refine wl_s rfl rfl ?_
    refine wl_b rfl rfl (fun q => absurd q (nI_ge hk (by omega))) (fun _ => ?_)
    iterate 5 refine wl_s rfl rfl ?_
    refine wl_v (i := 137) (mj := mX10_massBits) (na := 2) rfl (by decide +kernel) rfl ⟨Nat.le_of_ble_eq_true rfl, Nat.le_of_ble_eq_true rfl⟩ (by decide) (p_op_massBits 1 13 C I hB _ _) (px_good (mbC_ok I.1.1 hk hn)) (fun v9 h9 p9 => ?_)
    obtain ⟨rfl, C⟩ := p9
    rw [cl k, cl n]
    refine wl_es (kx := 212) (n := 40) (by decide +kernel) hE1 hU1 (vp_in_nI hk4 (by decide)) ?_
    refine wl_s rfl rfl ?_
    refine wl_g rfl rfl ?_
    rw [nI_1]
    refine wl_sub (sub7 rfl rfl rfl rfl rfl rfl rfl) (ih (k + 1) _ _ (by omega) (fun j hj => ?_) C)
    rw [cl k]
    try dsimp only
    rw [if_pos rfl]
    unfold upd
    by_cases e9 : j = k
    · subst e9
      exact if_pos rfl
    · rw [if_neg e9]
      exact hG j (by omega)
theorem ah_2 (I : Inv B r w) (hB : B + 48 < 2 ^ 30) {x9 : Int64} (hG : ∀ j, j < CN r → G 212 j = mbA r w j 0) (KE : ∀ (h : AH), CS h r w S K q T → WL p l e R s m args below meth c Q mL_isAhead 24 KC D ca ad0 A ad [(212, 40)] G kc 131 [(0, .ref 31), (2, .long x9), (7, .int 1)] [] h) : ∀ (t k : Nat) (h : AH), k + t = CN r → CS h r w S K q T → WL p l e R s m args below meth c Q mL_isAhead 24 KC D ca ad0 A ad [(212, 40)] G kc 91 [(0, .ref 31), (2, .long x9), (5, .int (nI (CN r))), (6, .ref 212), (7, .int 1), (8, .int (nI k))] [] h := by
  have h40 := I.1.1.2.1
  intro t
  induction t with
  | zero =>
    intro k h ht C
    have hk : k = CN r := by omega
    subst hk
    refine wl_s rfl rfl ?_
    refine wl_b rfl rfl (fun q => absurd q (by decide)) (fun _ => ?_)
    iterate 2 refine wl_s rfl rfl ?_
    refine wl_b rfl rfl (fun _ => ?_) (fun q => absurd (Int32.le_refl _) q)
    exact wl_sub (sub3 rfl rfl rfl) (KE _ C)
  | succ t ih =>
    intro k h ht C
    have hk : k < CN r := by omega
    have hk4 : k < 40 := by omega
    refine wl_s rfl rfl ?_
    refine wl_b rfl rfl (fun q => absurd q (by decide)) (fun _ => ?_)
    iterate 2 refine wl_s rfl rfl ?_
    refine wl_b rfl rfl (fun q => absurd q (nI_ge hk (by omega))) (fun _ => ?_)
    iterate 3 refine wl_s rfl rfl ?_
    refine wl_v (i := 137) (mj := mX10_massBits) (na := 2) rfl (by decide +kernel) rfl ⟨Nat.le_of_ble_eq_true rfl, Nat.le_of_ble_eq_true rfl⟩ (by decide) (p_op_massBits 1 13 C I hB _ _) (px_good (mbC_ok (n := 0) I.1.1 hk (by decide))) (fun v9 h9 p9 => ?_)
    obtain ⟨rfl, C⟩ := p9
    rw [cl k, k0]
    iterate 2 refine wl_s rfl rfl ?_
    refine wl_el (kx := 212) (n := 40) (by decide +kernel) hE1 (vp_in_nI hk4 (by decide)) ?_
    rw [cl k, hG k hk]
    refine wl_b rfl rfl (fun q => absurd q (fun z => z rfl)) (fun _ => ?_)
    refine wl_s rfl rfl ?_
    refine wl_g rfl rfl ?_
    iterate 2 refine wl_s rfl rfl ?_
    refine wl_g rfl rfl ?_
    rw [nI_1]
    exact wl_sub (sub6 rfl rfl rfl rfl rfl rfl) (ih (k + 1) _ (by omega) C)
end
set_option maxHeartbeats 1000000 in
/-- what is told ahead comes, and is undone -/
theorem c_isAhead {l : Launch} (hfl : l.stackTraces = false) {h : AH} {r : Nat → Int32} {w : Nat → UInt32} {S : Sv} {K : Hs} {q : Int32 × Int32} {T : Tx} {B : Nat} (C : CS h r w S K q T) (J : IS B r w S K) (hB9 : B + 96 < 2 ^ 30) {n : Nat} (h1 : 1 ≤ n) (hn : n ≤ 48) : LX l mL_isAhead 24 7 [.ref 31, .int (nI n)] h (fun v h' => v = some (.int 1) ∧ ∃ K', CS h' r w S K' q T ∧ IS B r w S K') := by
  have hB : B + 48 < 2 ^ 30 := by omega
  have I := J.1
  have hK := C.K8
  have h40 := I.1.1.2.1
  have I2 := I.hours n (by omega)
  have J2 : IS (B + n) (hoursR n r w) (hoursW n r w) S (pushK K r w) := (J.le (B' := B + n) (by omega) (by omega)).push hK I2
  have hon := onN_le I2.1.1
  have hon1 := onN_le I.1.1
  have ecn : CN (hoursR n r w) = CN r := hours_CN n B I.2.1 (by omega)
  refine lc_mk hfl (by decide) (Nat.le_of_ble_eq_true rfl) (fun p e R s m args below meth c D ca A ad => ?_)
  show WL p l e R s m args below meth c _ mL_isAhead 24 7 D ca ad A ad [] _ 0 0 [(0, .ref 31), (1, .int (nI n))] [] h
  refine wl_s rfl rfl ?_
  refine wl_c (mj := mL_digest) (na := 1) rfl (by decide) (by decide +kernel) (by decide +kernel) (by decide +kernel) (by decide +kernel) rfl (Nat.le_of_ble_eq_true rfl) (by decide) (by decide) (c_digest hfl C I hB) (fun v9 h9 p9 => ?_)
  obtain ⟨rfl, C⟩ := p9
  iterate 3 refine wl_s rfl rfl ?_
  refine wl_v (i := 206) (mj := mX10_left) (na := 1) rfl (by decide +kernel) rfl ⟨Nat.le_of_ble_eq_true rfl, Nat.le_of_ble_eq_true rfl⟩ (by decide) (p_op_left 1 13 C I hB _) (px_good (leftC_ok hn)) (fun v9 h9 p9 => ?_)
  obtain ⟨rfl, C⟩ := p9
  rw [cl n]
  iterate 3 refine wl_s rfl rfl ?_
  refine wl_v (i := 131) (mj := mX10_account) (na := 1) rfl (by decide +kernel) rfl ⟨Nat.le_of_ble_eq_true rfl, Nat.le_of_ble_eq_true rfl⟩ (by decide) (p_op_account 1 17 C I _) (px_good (acctC_ok (n := 4) (by decide))) (fun v9 h9 p9 => ?_)
  obtain ⟨rfl, C⟩ := p9
  rw [acct_4 I.1.1]
  iterate 2 refine wl_s rfl rfl ?_
  skip
  refine wl_new (kx := 212) (N := 40) (by decide +kernel) (Or.inl rfl) (fun x hx => absurd hx List.not_mem_nil) rfl (by decide) rfl rfl (by decide) (fun ad1 => ?_)
  iterate 3 refine wl_s rfl rfl ?_
  refine wl_sub (sub7 rfl rfl rfl rfl rfl rfl rfl) (ah_1 I hB hn (fun G h hG C => ?_) (CN r) 0 _ _ (Nat.zero_add _) (fun j hj => absurd hj (Nat.not_lt_zero _)) C)
  refine wl_s rfl rfl ?_
  refine wl_c (mj := mL_digest) (na := 1) rfl (by decide) (by decide +kernel) (by decide +kernel) (by decide +kernel) (by decide +kernel) rfl (Nat.le_of_ble_eq_true rfl) (by decide) (by decide) (c_digest hfl C I hB) (fun v9 h9 p9 => ?_)
  obtain ⟨rfl, C⟩ := p9
  iterate 2 refine wl_s rfl rfl ?_
  refine wl_b rfl rfl (fun q => absurd q (fun z => z lgS)) (fun _ => ?_)
  iterate 2 refine wl_s rfl rfl ?_
  refine wl_w (mj := mL_pass) (na := 2) rfl (by decide) (by decide +kernel) (by decide +kernel) (by decide +kernel) (by decide +kernel) rfl (Nat.le_of_ble_eq_true rfl) (by decide) (by decide) (l_pass_ok hfl C I hB h1 hn) (fun v9 h9 p9 => ?_)
  obtain ⟨rfl, C⟩ := p9
  have I := I2
  refine wl_b rfl rfl (fun q => absurd q (Int32.not_lt.mpr (nI_pos' (by omega)))) (fun _ => ?_)
  iterate 2 refine wl_s rfl rfl ?_
  refine wl_v (i := 131) (mj := mX10_account) (na := 1) rfl (by decide +kernel) rfl ⟨Nat.le_of_ble_eq_true rfl, Nat.le_of_ble_eq_true rfl⟩ (by decide) (p_op_account 1 17 C I _) (px_good (acctC_ok (n := 6) (by decide))) (fun v9 h9 p9 => ?_)
  obtain ⟨rfl, C⟩ := p9
  rw [acct_6]
  refine wl_s rfl rfl ?_
  refine wl_b rfl rfl (fun q => absurd q (fun z => z rfl)) (fun _ => ?_)
  refine wl_s rfl rfl ?_
  refine wl_g rfl rfl ?_
  iterate 3 refine wl_s rfl rfl ?_
  rw [← ecn]
  refine wl_sub (sub6 rfl rfl rfl rfl rfl rfl) (ah_2 I2 (by omega) (fun j hj => (hG j (by omega)).trans mbA_0.symm) (fun h C => ?_) (CN (hoursR n r w)) 0 _ (Nat.zero_add _) C)
  refine wl_s rfl rfl ?_
  refine wl_b rfl rfl (fun q => absurd q (by decide)) (fun _ => ?_)
  refine wl_s rfl rfl ?_
  refine wl_c (mj := mL_isFit) (na := 1) rfl (by decide) (by decide +kernel) (by decide +kernel) (by decide +kernel) (by decide +kernel) rfl (Nat.le_of_ble_eq_true rfl) (by decide) (by decide) (c_isFit hfl C I2 (by omega)) (fun v9 h9 p9 => ?_)
  obtain ⟨rfl, C⟩ := p9
  refine wl_b rfl rfl (fun q => absurd q (by decide)) (fun _ => ?_)
  refine wl_s rfl rfl ?_
  refine wl_w (mj := mL_undo) (na := 1) rfl (by decide) (by decide +kernel) (by decide +kernel) (by decide +kernel) (by decide +kernel) rfl (Nat.le_of_ble_eq_true rfl) (by decide) (by decide) (l_undo_ok hfl hK C J2) (fun v9 h9 p9 => ?_)
  obtain ⟨rfl, C⟩ := p9
  refine wl_b rfl rfl (fun q => absurd q (Int32.not_lt.mpr (nI_pos' (by have : (pushK K r w).1 = min (K.1 + 1) 8 := rfl; omega)))) (fun _ => ?_)
  refine wl_s rfl rfl ?_
  refine wl_c (mj := mL_digest) (na := 1) rfl (by decide) (by decide +kernel) (by decide +kernel) (by decide +kernel) (by decide +kernel) rfl (Nat.le_of_ble_eq_true rfl) (by decide) (by decide) (c_digest hfl C J.1 hB) (fun v9 h9 p9 => ?_)
  obtain ⟨rfl, C⟩ := p9
  iterate 2 refine wl_s rfl rfl ?_
  refine wl_b rfl rfl (fun q => absurd q (fun z => z lgS)) (fun _ => ?_)
  refine wl_s rfl rfl ?_
  refine wl_g rfl rfl ?_
  refine wl_q (by decide) rfl (fun k q => by cases q) ?_
  exact ⟨rfl, _, C, J.top hK⟩
end
