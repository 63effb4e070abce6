noncomputable section
theorem IS.up {B B2 : Nat} {r : Nat → Int32} {w : Nat → UInt32} {S : Sv} {K : Hs} (J : IS B r w S K) (h1 : B ≤ B2) (h2 : B2 < 2 ^ 30) : IS B2 r w S K := J.le h1 h2
theorem rdq_0 {h : AH} {r : Nat → Int32} {w : Nat → UInt32} {S : Sv} {K : Hs} {q : Int32 × Int32} {T : Tx} {B : Nat} (hK : K.1 ≤ 8) (J : IS B r w S K) (hB : B + 3000 < 2 ^ 30) {v : Option Value} {h' : AH} (p : RdQ r w S K q T v h') : ∃ y, v = some (.int y) ∧ ∃ r' w' K' q' T', CS h' r' w' S K' q' T' ∧ IS (B + 3000) r' w' S K' ∧ T'.1 = 0 := by
  rcases p with ⟨g1, rfl, q', C⟩ | ⟨g1, rfl, q', C⟩
  · exact ⟨_, rfl, _, _, _, _, _, C, (J.le (by omega) hB).push hK (rd_inv J.1 hB), rfl⟩
  · exact ⟨_, rfl, _, _, _, _, _, C, J.le (by omega) hB, rfl⟩
section
variable {p : Program} {l : Launch} {e : Env} {R : Room} {s : State} {m : MethodId} {args : Array Value} {below : List Frame} {meth : Method} {c : Code} {Q : State → Prop} {KC : Nat} {D : va_G} {ca : Nat → ClassId} {ad0 ad : Nat → Nat} {A : Nat → Prop} {E : EX} {G : Nat → Nat → Int32} {kc : Nat} {h : AH} {r : Nat → Int32} {w : Nat → UInt32} {S : Sv} {K : Hs} {q : Int32 × Int32} {T : Tx} {B : Nat}
theorem lt_step (hfl : l.stackTraces = false) (C : CS h r w S K q T) (hT : T.1 = 0) (J : IS B r w S K) (hB : B + 3100 < 2 ^ 30) {k : Nat} (hk : k < 12) {n6 : Int32} (hkc : kc + 22 ≤ 2000) (KE : ∀ (h : AH) (K : Hs) (q : Int32 × Int32) (T : Tx), CS h r w S K q T → T.1 = 0 → IS (B + 3000) r w S K → WL p l e R s m args below meth c Q mL_law 25 2000 D ca ad0 A ad E G (kc + 22) 175 [(0, .ref 214), (1, .ref 31), (3, .int 1), (4, .long (dg r w)), (6, .int n6), (7, .int (nI (k + 1)))] [] h) : WL p l e R s m args below meth c Q mL_law 25 2000 D ca ad0 A ad E G kc 175 [(0, .ref 214), (1, .ref 31), (3, .int 1), (4, .long (dg r w)), (6, .int n6), (7, .int (nI k))] [] h := by
  have hK := C.K8
  have I := J.1
  have hw9 := tx_rd hT hk
  have g61 : oN0 (apT (txB.getD k []) T).2.2 (apT (txB.getD k []) T).1 ≤ 61 := (fstP_le 61 0 rfl).1
  refine wl_s rfl rfl ?_
  refine wl_b rfl rfl (fun q => absurd q (by decide)) (fun _ => ?_)
  refine wl_s rfl rfl ?_
  refine wl_tx rfl (by decide +kernel) ?_
  refine wl_tl (by decide +kernel) ?_
  refine wl_b rfl rfl (fun q => absurd q (nI_ge (b := 12) hk (by decide))) (fun _ => ?_)
  refine wl_s rfl rfl ?_
  refine wl_tx rfl (by decide +kernel) ?_
  refine wl_s rfl rfl ?_
  refine wl_ta (i := k) hk (by decide +kernel) ?_
  refine wl_c (mj := mL_write) (na := 2) rfl (by decide) (by decide +kernel) (by decide +kernel) (by decide +kernel) (by decide +kernel) rfl (Nat.le_of_ble_eq_true rfl) (by decide) (by omega) (c_write hfl C hk) (fun v9 h9 p9 => ?_)
  obtain ⟨rfl, C⟩ := p9
  skip
  refine wl_w (mj := mL_read) (na := 1) rfl (by decide) (by decide +kernel) (by decide +kernel) (by decide +kernel) (by decide +kernel) rfl (Nat.le_of_ble_eq_true rfl) (by decide) (by omega) (l_read hfl C I (by omega)) (fun v9 h9 p9 => ?_)
  rcases p9 with ⟨g1, rfl, q', C⟩ | ⟨g1, rfl, q', C⟩
  · have I2 := rd_inv (T := apT (txB.getD k []) T) (q := q) I (by omega)
    have J2 : IS (B + 3000) _ _ S (pushK K r w) := (J.le (B' := B + 3000) (by omega) (by omega)).push hK I2
    iterate 3 refine wl_s rfl rfl ?_
    refine wl_b rfl rfl (fun _ => ?_) (fun q => absurd (nI_rf (by omega)) q)
    refine wl_s rfl rfl ?_
    refine wl_c (mj := mL_isFit) (na := 1) rfl (by decide) (by decide +kernel) (by decide +kernel) (by decide +kernel) (by decide +kernel) rfl (Nat.le_of_ble_eq_true rfl) (by decide) (by omega) (c_isFit hfl C I2 (by omega)) (fun v9 h9 p9 => ?_)
    obtain ⟨rfl, C⟩ := p9
    refine wl_b rfl rfl (fun q => absurd q (by decide)) (fun _ => ?_)
    refine wl_s rfl rfl ?_
    refine wl_w (mj := mL_undo) (na := 1) rfl (by decide) (by decide +kernel) (by decide +kernel) (by decide +kernel) (by decide +kernel) rfl (Nat.le_of_ble_eq_true rfl) (by decide) (by omega) (l_undo_ok hfl hK C J2) (fun v9 h9 p9 => ?_)
    obtain ⟨rfl, C⟩ := p9
    refine wl_b rfl rfl (fun q => absurd q (Int32.not_lt.mpr (nI_pos' (by have : (pushK K r w).1 = min (K.1 + 1) 8 := rfl; omega)))) (fun _ => ?_)
    refine wl_s rfl rfl ?_
    refine wl_c (mj := mL_digest) (na := 1) rfl (by decide) (by decide +kernel) (by decide +kernel) (by decide +kernel) (by decide +kernel) rfl (Nat.le_of_ble_eq_true rfl) (by decide) (by omega) (c_digest hfl C I (by omega)) (fun v9 h9 p9 => ?_)
    obtain ⟨rfl, C⟩ := p9
    iterate 2 refine wl_s rfl rfl ?_
    refine wl_b rfl rfl (fun q => absurd q (fun z => z lgS)) (fun _ => ?_)
    refine wl_s rfl rfl ?_
    refine wl_g rfl rfl ?_
    iterate 2 refine wl_s rfl rfl ?_
    refine wl_g rfl rfl ?_
    rw [nI_1]
    exact wl_mono (by omega) hkc (wl_sub (sub6 rfl rfl rfl rfl rfl rfl) (KE _ _ _ _ C rfl ((J.le (by omega) (by omega)).top hK)))
  · have e9 : rdE (apT (txB.getD k []) T) = -1 := if_neg (by rw [hw9]; decide)
    rw [e9] at C
    iterate 3 refine wl_s rfl rfl ?_
    refine wl_b rfl rfl (fun q => absurd q (fun z => z rfl)) (fun _ => ?_)
    refine wl_s rfl rfl ?_
    refine wl_xc rfl rfl ⟨Nat.le_of_ble_eq_true rfl, Nat.le_of_ble_eq_true rfl⟩ (by decide) (p_op_errorPosition 19 C) (fun rv9 h9 p9 => ?_)
    obtain ⟨rfl, C⟩ := p9
    refine wl_s rfl rfl ?_
    refine wl_b rfl rfl (fun q => absurd q (fun z => z rfl)) (fun _ => ?_)
    refine wl_g rfl rfl ?_
    refine wl_s rfl rfl ?_
    refine wl_c (mj := mL_digest) (na := 1) rfl (by decide) (by decide +kernel) (by decide +kernel) (by decide +kernel) (by decide +kernel) rfl (Nat.le_of_ble_eq_true rfl) (by decide) (by omega) (c_digest hfl C I (by omega)) (fun v9 h9 p9 => ?_)
    obtain ⟨rfl, C⟩ := p9
    iterate 2 refine wl_s rfl rfl ?_
    refine wl_b rfl rfl (fun q => absurd q (fun z => z lgS)) (fun _ => ?_)
    refine wl_s rfl rfl ?_
    refine wl_g rfl rfl ?_
    iterate 2 refine wl_s rfl rfl ?_
    refine wl_g rfl rfl ?_
    rw [nI_1]
    exact wl_mono (by omega) hkc (wl_sub (sub6 rfl rfl rfl rfl rfl rfl) (KE _ _ _ _ C rfl (J.le (by omega) (by omega))))
theorem lt_loop (hfl : l.stackTraces = false) (hB : B + 60000 < 2 ^ 30) {n6 : Int32} {kc0 : Nat} (hkc : kc0 + 264 ≤ 2000) (KE : ∀ (h : AH) (K : Hs) (q : Int32 × Int32) (T : Tx), CS h r w S K q T → IS (B + 36000) r w S K → WL p l e R s m args below meth c Q mL_law 25 2000 D ca ad0 A ad E G (kc0 + 264) 257 [(0, .ref 214), (1, .ref 31), (3, .int 1), (4, .long (dg r w)), (6, .int n6)] [] h) : ∀ (n k B9 : Nat) (h : AH) (K : Hs) (q : Int32 × Int32) (T : Tx), k + n = 12 → B9 ≤ B + 3000 * k → CS h r w S K q T → T.1 = 0 → IS B9 r w S K → WL p l e R s m args below meth c Q mL_law 25 2000 D ca ad0 A ad E G (kc0 + 22 * k) 175 [(0, .ref 214), (1, .ref 31), (3, .int 1), (4, .long (dg r w)), (6, .int n6), (7, .int (nI k))] [] h := by
  intro n
  induction n with
  | zero =>
    intro k B9 h K q T hn hB9 C hT J
    have hk : k = 12 := by omega
    subst hk
    refine wl_s rfl rfl ?_
    refine wl_b rfl rfl (fun q => absurd q (by decide)) (fun _ => ?_)
    refine wl_s rfl rfl ?_
    refine wl_tx rfl (by decide +kernel) ?_
    refine wl_tl (by decide +kernel) ?_
    refine wl_b rfl rfl (fun _ => ?_) (fun q => absurd (by decide) q)
    exact wl_sub (sub5 rfl rfl rfl rfl rfl) (KE _ _ _ _ C (J.le (by omega) (by omega)))
  | succ n ih =>
    intro k B9 h K q T hn hB9 C hT J
    exact lt_step hfl C hT J (by omega) (by omega) (by omega) (fun h K q T C hT J => ih (k + 1) (B9 + 3000) h K q T (by omega) (by omega) C hT J)
theorem lp_loop (hfl : l.stackTraces = false) (hB : B + 1000 < 2 ^ 30) {n6 : Int32} {x9 : Int64} {kc0 : Nat} (hkc : kc0 + 15 ≤ 2000) (KE : ∀ (h : AH) (r : Nat → Int32) (w : Nat → UInt32) (K : Hs), CS h r w S K q T → IS (B + 27) r w S K → WL p l e R s m args below meth c Q mL_law 25 2000 D ca ad0 A ad E G (kc0 + 15) 305 [(0, .ref 214), (1, .ref 31), (3, .int 1), (4, .long x9), (6, .int n6)] [] h) : ∀ (n k : Nat) (h : AH) (r : Nat → Int32) (w : Nat → UInt32) (K : Hs), k + n = 3 → CS h r w S K q T → IS (B + 9 * k) r w S K → WL p l e R s m args below meth c Q mL_law 25 2000 D ca ad0 A ad E G (kc0 + 5 * k) 267 [(0, .ref 214), (1, .ref 31), (3, .int 1), (4, .long x9), (6, .int n6), (7, .int (nI k))] [] h := by
  intro n
  induction n with
  | zero =>
    intro k h r w K hn C J
    have hk : k = 3 := by omega
    subst hk
    refine wl_s rfl rfl ?_
    refine wl_b rfl rfl (fun q => absurd q (by decide)) (fun _ => ?_)
    iterate 2 refine wl_s rfl rfl ?_
    refine wl_b rfl rfl (fun _ => ?_) (fun q => absurd (by decide) q)
    exact wl_sub (sub5 rfl rfl rfl rfl rfl) (KE _ _ _ _ C J)
  | succ n ih =>
    intro k h r w K hn C J
    have hk : k < 3 := by omega
    have hK := C.K8
    have I2 := J.1.hours 9 (by omega)
    have hon := onN_le J.1.1.1
    have J2 : IS (B + 9 * k + 9) (hoursR 9 r w) (hoursW 9 r w) S (pushK K r w) := (J.le (B' := B + 9 * k + 9) (by omega) (by omega)).push hK I2
    refine wl_s rfl rfl ?_
    refine wl_b rfl rfl (fun q => absurd q (by decide)) (fun _ => ?_)
    iterate 2 refine wl_s rfl rfl ?_
    refine wl_b rfl rfl (fun q => absurd q (nI_ge (b := 3) hk (by decide))) (fun _ => ?_)
    iterate 2 refine wl_s rfl rfl ?_
    refine wl_w (mj := mL_pass) (na := 2) rfl (by decide) (by decide +kernel) (by decide +kernel) (by decide +kernel) (by decide +kernel) rfl (Nat.le_of_ble_eq_true rfl) (by decide) (by omega) (l_pass_ok hfl C J.1 (by omega) (n := 9) (by decide) (by decide)) (fun v9 h9 p9 => ?_)
    obtain ⟨rfl, C⟩ := p9
    refine wl_b rfl rfl (fun q => absurd q (Int32.not_lt.mpr (nI_pos' (by omega)))) (fun _ => ?_)
    refine wl_s rfl rfl ?_
    refine wl_c (mj := mL_isFit) (na := 1) rfl (by decide) (by decide +kernel) (by decide +kernel) (by decide +kernel) (by decide +kernel) rfl (Nat.le_of_ble_eq_true rfl) (by decide) (by omega) (c_isFit hfl C I2 (by omega)) (fun v9 h9 p9 => ?_)
    obtain ⟨rfl, C⟩ := p9
    refine wl_b rfl rfl (fun q => absurd q (by decide)) (fun _ => ?_)
    refine wl_s rfl rfl ?_
    refine wl_g rfl rfl ?_
    iterate 2 refine wl_s rfl rfl ?_
    refine wl_g rfl rfl ?_
    rw [nI_1]
    exact wl_mono (kc2 := kc0 + 5 * (k + 1)) (by omega) (by omega) (wl_sub (sub6 rfl rfl rfl rfl rfl rfl) (ih (k + 1) _ _ _ _ (by omega) C (J2.le (by omega) (by omega))))
theorem la_loop (hfl : l.stackTraces = false) {b L : Nat} {xs : Nat → Int32} (hL9 : L < 2 ^ 31) (hXs : va_X b L xs s s.heap) (hbl : b < s.heap.size) (hbA : ¬ A b) (had : ad 214 = b) {N B0 : Nat} (hN : N ≤ 40) (hB : B0 + 130000 < 2 ^ 30) {kc0 : Nat} (hkc : kc0 + 680 ≤ 2000) (KE : ∀ (h : AH) (r : Nat → Int32) (w : Nat → UInt32) (S : Sv) (K : Hs) (q : Int32 × Int32) (T : Tx), CS h r w S K q T → IS (B0 + 120000) r w S K → WL p l e R s m args below meth c Q mL_law 25 2000 D ca ad0 A ad E G (kc0 + 680) 100 [(0, .ref 214), (1, .ref 31)] [] h) : ∀ (n i B9 : Nat) (h : AH) (r : Nat → Int32) (w : Nat → UInt32) (S : Sv) (K : Hs) (q : Int32 × Int32) (T : Tx), i + n = N → B9 ≤ B0 + 3000 * i → CS h r w S K q T → IS B9 r w S K → WL p l e R s m args below meth c Q mL_law 25 2000 D ca ad0 A ad E G (kc0 + 17 * i) 57 [(0, .ref 214), (1, .ref 31), (2, .int (nI N)), (3, .int (nI i))] [] h := by
  intro n
  induction n with
  | zero =>
    intro i B9 h r w S K q T hn hB9 C J
    have hi : i = N := by omega
    subst hi
    iterate 2 refine wl_s rfl rfl ?_
    refine wl_b rfl rfl (fun _ => ?_) (fun q => absurd (Int32.le_refl _) q)
    exact wl_mono (by omega) hkc (wl_sub (sub2 rfl rfl) (KE _ _ _ _ _ _ _ C (J.le (by omega) (by omega))))
  | succ n ih =>
    intro i B9 h r w S K q T hn hB9 C J
    have hi : i < N := by omega
    iterate 2 refine wl_s rfl rfl ?_
    refine wl_b rfl rfl (fun q => absurd q (nI_ge hi (by omega))) (fun _ => ?_)
    refine wl_s rfl rfl ?_
    refine wl_c (mj := mL_digest) (na := 1) rfl (by decide) (by decide +kernel) (by decide +kernel) (by decide +kernel) (by decide +kernel) rfl (Nat.le_of_ble_eq_true rfl) (by decide) (by omega) (c_digest hfl C J.1 (by omega)) (fun v9 h9 p9 => ?_)
    obtain ⟨rfl, C⟩ := p9
    iterate 4 refine wl_s rfl rfl ?_
    refine wl_cell (i := i) hL9 (by decide +kernel) hXs hbl hbA had (Nat.le_of_ble_eq_true rfl) (by decide) ?_
    refine wl_c (mj := mL_act) (na := 2) rfl (by decide) (by decide +kernel) (by decide +kernel) (by decide +kernel) (by decide +kernel) rfl (Nat.le_of_ble_eq_true rfl) (by decide) (by omega) (c_act hfl C J (by omega) _) (fun v9 h9 p9 => ?_)
    obtain ⟨y9, rfl, r9, w9, S9, K9, q9, T9, C, J9, hrf⟩ := p9
    refine wl_s rfl rfl ?_
    refine wl_b rfl rfl (fun c79 => ?_) (fun c79 => ?_)
    · refine wl_s rfl rfl ?_
      refine wl_g rfl rfl ?_
      rw [nI_1]
      exact wl_mono (kc2 := kc0 + 17 * (i + 1)) (by omega) (by omega) (wl_sub (sub4 rfl rfl rfl rfl) (ih (i + 1) (B9 + 3000) _ _ _ _ _ _ _ (by omega) (by omega) C J9))
    · obtain ⟨e1, e2⟩ := hrf (Decidable.of_not_not c79)
      rw [e1, e2] at C J9
      refine wl_s rfl rfl ?_
      refine wl_c (mj := mL_digest) (na := 1) rfl (by decide) (by decide +kernel) (by decide +kernel) (by decide +kernel) (by decide +kernel) rfl (Nat.le_of_ble_eq_true rfl) (by decide) (by omega) (c_digest hfl C J9.1 (by omega)) (fun v9 h9 p9 => ?_)
      obtain ⟨rfl, C⟩ := p9
      iterate 2 refine wl_s rfl rfl ?_
      refine wl_b rfl rfl (fun _ => ?_) (fun q => absurd lgS q)
      refine wl_s rfl rfl ?_
      refine wl_g rfl rfl ?_
      rw [nI_1]
      exact wl_mono (kc2 := kc0 + 17 * (i + 1)) (by omega) (by omega) (wl_sub (sub4 rfl rfl rfl rfl) (ih (i + 1) (B9 + 3000) _ _ _ _ _ _ _ (by omega) (by omega) C J9))
end
end
