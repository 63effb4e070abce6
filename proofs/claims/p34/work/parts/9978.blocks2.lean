noncomputable section
theorem acct_5 {r : Nat → Int32} {a b : Int32} : acctV r a b (Int32.toNatClampNeg 5) = nI (cntS r 0 (CN r)) := by
  rw [k5]
  rfl
theorem acct_11 {r : Nat → Int32} {a b : Int32} : acctV r a b (Int32.toNatClampNeg 11) = nI (lenN r false) := by
  rw [show Int32.toNatClampNeg 11 = 11 from rfl]
  rfl
theorem acct_2 {r : Nat → Int32} {a b : Int32} : acctV r a b (Int32.toNatClampNeg 2) = r 2 := by
  rw [k2]
  rfl
theorem acct_w {r : Nat → Int32} {a b : Int32} {k : Nat} (h1 : 1 ≤ k) (h2 : k < 5) : acctV r a b (6 + k) = nI (whyN r (nI k) (CN r)) := by
  unfold acctV
  rw [if_neg (by omega), if_neg (by omega), if_neg (by omega), if_pos (by omega), Nat.add_sub_cancel_left]
section
variable {p : Program} {l : Launch} {e : Env} {R : Room} {s : State} {m : MethodId} {args : Array Value} {below : List Frame} {meth : Method} {c : Code} {Q : State → Prop} {KC : Nat} {D : va_G} {ca : Nat → ClassId} {ad0 ad : Nat → Nat} {A : Nat → Prop} {E : EX} {G : Nat → Nat → Int32} {kc : Nat} {h : AH} {r : Nat → Int32} {w : Nat → UInt32} {S : Sv} {K : Hs} {q : Int32 × Int32} {T : Tx} {B : Nat}
theorem ab_step (I : Inv B r w) (hB : B + 48 < 2 ^ 30) {k : Nat} (hk : k < CN r) (hG : GA r G k) (C : CS h r w S K q T) (KE : ∀ (G : Nat → Nat → Int32) (h : AH), GA r G (k + 1) → CS h r w S K q T → WL p l e R s m args below meth c Q mL_areBlocks 22 KC D ca ad0 A ad [(213, 3), (212, 5)] G kc 19 [(0, .ref 31), (1, .ref 212), (2, .ref 213), (3, .int (nI (sumN (lenF r true) (k + 1)))), (4, .int (nI (sumN (lenF r false) (k + 1)))), (5, .int 1), (6, .int (nI (k + 1)))] [] h) : WL p l e R s m args below meth c Q mL_areBlocks 22 KC D ca ad0 A ad [(213, 3), (212, 5)] G kc 19 [(0, .ref 31), (1, .ref 212), (2, .ref 213), (3, .int (nI (sumN (lenF r true) k))), (4, .int (nI (sumN (lenF r false) k))), (5, .int 1), (6, .int (nI k))] [] h := by
  rcases (I.1.b hk).2 with z | z | z
  · exact ab_1 I hk (s9 := 0) (y := 0) z.1 (by decide) z.2.2.2.2.2 (by decide) hG C (fun G h g C => ab_2a trivial I hB hk z.1 (if_pos z.1) C (fun h C => ab_3a I hk z.1 C (fun h C => KE G h g C)))
  · have e2 := z.1
    exact ab_1 I hk (s9 := 1) (y := 0) z.1 (by decide) z.2.2 (by decide) hG C (fun G h g C => ab_2b trivial I hB hk z.1 (by unfold sgN; rw [e2]; rfl) C (fun h C => ab_3b I hk z.1 C (fun h C => KE G h g C)))
  · have e2 := z.1
    obtain ⟨y, y1, y2, e7⟩ := z.2.2.2.2.2
    rcases (show y = 1 ∨ y = 2 ∨ y = 3 ∨ y = 4 by omega) with d | d | d | d <;> subst d
    · exact ab_1 I hk (s9 := 2) (y := 1) z.1 (by decide) e7 (by decide) hG C (fun G h g C => ab_2c1 trivial I hB hk z.1 e7 (by unfold sgN; rw [e2, e7]; rfl) C (fun h C => ab_3c C (fun h C => KE G h g C)))
    · exact ab_1 I hk (s9 := 2) (y := 2) z.1 (by decide) e7 (by decide) hG C (fun G h g C => ab_2c2 trivial I hB hk z.1 e7 (by unfold sgN; rw [e2, e7]; rfl) C (fun h C => ab_3c C (fun h C => KE G h g C)))
    · exact ab_1 I hk (s9 := 2) (y := 3) z.1 (by decide) e7 (by decide) hG C (fun G h g C => ab_2c3 trivial I hB hk z.1 e7 (by unfold sgN; rw [e2, e7]; rfl) C (fun h C => ab_3c C (fun h C => KE G h g C)))
    · exact ab_1 I hk (s9 := 2) (y := 4) z.1 (by decide) e7 (by decide) hG C (fun G h g C => ab_2c4 trivial I hB hk z.1 e7 (by unfold sgN; rw [e2, e7]; rfl) C (fun h C => ab_3c C (fun h C => KE G h g C)))
theorem ab_loop (I : Inv B r w) (hB : B + 48 < 2 ^ 30) (KE : ∀ (G : Nat → Nat → Int32) (h : AH), GA r G (CN r) → CS h r w S K q T → WL p l e R s m args below meth c Q mL_areBlocks 22 KC D ca ad0 A ad [(213, 3), (212, 5)] G kc 296 [(0, .ref 31), (1, .ref 212), (2, .ref 213), (3, .int (nI (sumN (lenF r true) (CN r)))), (4, .int (nI (sumN (lenF r false) (CN r)))), (5, .int 1), (6, .int (nI (CN r)))] [] h) : ∀ (n k : Nat) (G : Nat → Nat → Int32) (h : AH), k + n = CN r → GA r G k → CS h r w S K q T → WL p l e R s m args below meth c Q mL_areBlocks 22 KC D ca ad0 A ad [(213, 3), (212, 5)] G kc 19 [(0, .ref 31), (1, .ref 212), (2, .ref 213), (3, .int (nI (sumN (lenF r true) k))), (4, .int (nI (sumN (lenF r false) k))), (5, .int 1), (6, .int (nI k))] [] h := by
  have h40 := I.1.1.2.1
  intro n
  induction n with
  | zero =>
    intro k G h hn hG C
    have hk : k = CN r := by omega
    subst hk
    refine wl_s rfl rfl ?_
    refine wl_b rfl rfl (fun q => absurd q (by decide)) (fun _ => ?_)
    iterate 3 refine wl_s rfl rfl ?_
    refine wl_v (i := 131) (mj := mX10_account) (na := 1) rfl (by decide +kernel) rfl ⟨Nat.le_of_ble_eq_true rfl, Nat.le_of_ble_eq_true rfl⟩ (by decide) (p_op_account 1 17 C I _) (px_good (acctC_ok (n := 4) (by decide))) (fun v9 h9 p9 => ?_)
    obtain ⟨rfl, C⟩ := p9
    rw [acct_4 I.1.1]
    refine wl_b rfl rfl (fun _ => ?_) (fun q => absurd (Int32.le_refl _) q)
    exact KE _ _ hG C
  | succ n ih => exact fun k G h hn hG C => ab_step I hB (by omega) hG C (fun G h g C => ih (k + 1) G h (by omega) g C)
theorem ab_why (I : Inv B r w) (hG : GA r G (CN r)) (KE : ∀ (h : AH), CS h r w S K q T → WL p l e R s m args below meth c Q mL_areBlocks 22 KC D ca ad0 A ad [(213, 3), (212, 5)] G kc 398 [(0, .ref 31), (5, .int 1)] [] h) : ∀ (n k : Nat) (h : AH), k + n = 5 → 1 ≤ k → CS h r w S K q T → WL p l e R s m args below meth c Q mL_areBlocks 22 KC D ca ad0 A ad [(213, 3), (212, 5)] G kc 358 [(0, .ref 31), (1, .ref 212), (5, .int 1), (6, .int (nI k))] [] h := by
  intro n
  induction n with
  | zero =>
    intro k h hn h1 C
    have hk : k = 5 := by omega
    subst hk
    refine wl_s rfl rfl ?_
    refine wl_b rfl rfl (fun q => absurd q (by decide)) (fun _ => ?_)
    iterate 2 refine wl_s rfl rfl ?_
    refine wl_b rfl rfl (fun _ => ?_) (fun q => absurd (by decide) q)
    exact wl_sub (sub2 rfl rfl) (KE _ C)
  | succ n ih =>
    intro k h hn h1 C
    have hk5 : k < 5 := by omega
    refine wl_s rfl rfl ?_
    refine wl_b rfl rfl (fun q => absurd q (by decide)) (fun _ => ?_)
    iterate 2 refine wl_s rfl rfl ?_
    refine wl_b rfl rfl (fun q => absurd q (nI_ge (b := 5) hk5 (by decide))) (fun _ => ?_)
    iterate 2 refine wl_s rfl rfl ?_
    refine wl_el (kx := 212) (n := 5) (by decide +kernel) hE5 (vp_in_nI hk5 (by decide)) ?_
    rw [cl k, hG.2 k hk5]
    iterate 4 refine wl_s rfl rfl ?_
    rw [show (6 : Int32) + nI k = nI (6 + k) from nI_add 6 k]
    refine wl_v (i := 131) (mj := mX10_account) (na := 1) rfl (by decide +kernel) rfl ⟨Nat.le_of_ble_eq_true rfl, Nat.le_of_ble_eq_true rfl⟩ (by decide) (p_op_account 1 17 C I _) (px_good (acctC_ok (n := 6 + k) (by omega))) (fun v9 h9 p9 => ?_)
    obtain ⟨rfl, C⟩ := p9
    rw [cl (6 + k), acct_w h1 hk5]
    refine wl_b rfl rfl (fun q => absurd q (fun z => z rfl)) (fun _ => ?_)
    refine wl_s rfl rfl ?_
    refine wl_g rfl rfl ?_
    iterate 2 refine wl_s rfl rfl ?_
    refine wl_g rfl rfl ?_
    rw [nI_1]
    exact wl_sub (sub4 rfl rfl rfl rfl) (ih (k + 1) _ (by omega) (by omega) C)
theorem ab_end (I : Inv B r w) (hG : GA r G (CN r)) (C : CS h r w S K q T) (KE : ∀ (h : AH), CS h r w S K q T → WL p l e R s m args below meth c Q mL_areBlocks 22 KC D ca ad0 A ad [(213, 3), (212, 5)] G kc 398 [(0, .ref 31), (5, .int 1)] [] h) : WL p l e R s m args below meth c Q mL_areBlocks 22 KC D ca ad0 A ad [(213, 3), (212, 5)] G kc 296 [(0, .ref 31), (1, .ref 212), (2, .ref 213), (3, .int (nI (sumN (lenF r true) (CN r)))), (4, .int (nI (sumN (lenF r false) (CN r)))), (5, .int 1), (6, .int (nI (CN r)))] [] h := by
  have h40 := I.1.1.2.1
  obtain ⟨L, e2, eL⟩ := I.2.2.2.2.2.2.1
  refine wl_s rfl rfl ?_
  refine wl_b rfl rfl (fun q => absurd q (by decide)) (fun _ => ?_)
  iterate 2 refine wl_s rfl rfl ?_
  refine wl_el (kx := 213) (n := 3) (by decide +kernel) hE3 (vp_in_nI (n := 0) (by decide) (by decide)) ?_
  rw [show Int32.toNatClampNeg 0 = 0 from rfl, hG.1 0 (by decide)]
  iterate 2 refine wl_s rfl rfl ?_
  refine wl_v (i := 131) (mj := mX10_account) (na := 1) rfl (by decide +kernel) rfl ⟨Nat.le_of_ble_eq_true rfl, Nat.le_of_ble_eq_true rfl⟩ (by decide) (p_op_account 1 17 C I _) (px_good (acctC_ok (n := 5) (by decide))) (fun v9 h9 p9 => ?_)
  obtain ⟨rfl, C⟩ := p9
  rw [acct_5]
  refine wl_b rfl rfl (fun q => absurd q (fun z => z rfl)) (fun _ => ?_)
  iterate 2 refine wl_s rfl rfl ?_
  refine wl_el (kx := 213) (n := 3) (by decide +kernel) hE3 (vp_in_nI (n := 1) (by decide) (by decide)) ?_
  rw [show Int32.toNatClampNeg 1 = 1 from rfl, hG.1 1 (by decide)]
  iterate 2 refine wl_s rfl rfl ?_
  refine wl_v (i := 131) (mj := mX10_account) (na := 1) rfl (by decide +kernel) rfl ⟨Nat.le_of_ble_eq_true rfl, Nat.le_of_ble_eq_true rfl⟩ (by decide) (p_op_account 1 17 C I _) (px_good (acctC_ok (n := 6) (by decide))) (fun v9 h9 p9 => ?_)
  obtain ⟨rfl, C⟩ := p9
  rw [acct_6]
  refine wl_b rfl rfl (fun q => absurd q (fun z => z rfl)) (fun _ => ?_)
  iterate 3 refine wl_s rfl rfl ?_
  refine wl_v (i := 131) (mj := mX10_account) (na := 1) rfl (by decide +kernel) rfl ⟨Nat.le_of_ble_eq_true rfl, Nat.le_of_ble_eq_true rfl⟩ (by decide) (p_op_account 1 17 C I _) (px_good (acctC_ok (n := 11) (by decide))) (fun v9 h9 p9 => ?_)
  obtain ⟨rfl, C⟩ := p9
  rw [acct_11]
  refine wl_b rfl rfl (fun q => absurd q (fun z => z rfl)) (fun _ => ?_)
  iterate 3 refine wl_s rfl rfl ?_
  refine wl_v (i := 131) (mj := mX10_account) (na := 1) rfl (by decide +kernel) rfl ⟨Nat.le_of_ble_eq_true rfl, Nat.le_of_ble_eq_true rfl⟩ (by decide) (p_op_account 1 17 C I _) (px_good (acctC_ok (n := 2) (by decide))) (fun v9 h9 p9 => ?_)
  obtain ⟨rfl, C⟩ := p9
  rw [acct_2, e2]
  iterate 2 refine wl_s rfl rfl ?_
  refine wl_b rfl rfl (fun q => absurd q (fun z => z (by rw [nI_add, Nat.add_comm, eL]; rfl))) (fun _ => ?_)
  refine wl_s rfl rfl ?_
  refine wl_g rfl rfl ?_
  iterate 3 refine wl_s rfl rfl ?_
  exact wl_sub (sub4 rfl rfl rfl rfl) (ab_why I hG (fun h C => KE h C) 4 1 _ rfl (Nat.le_refl _) C)
end
set_option maxHeartbeats 1000000 in
/-- blocks are in racks, on the wall or gone -/
theorem c_areBlocks {l : Launch} (hfl : l.stackTraces = false) {h : AH} {r : Nat → Int32} {w : Nat → UInt32} {S : Sv} {K : Hs} {q : Int32 × Int32} {T : Tx} {B : Nat} (C : CS h r w S K q T) (I : Inv B r w) (hB : B + 48 < 2 ^ 30) : LX l mL_areBlocks 22 2 [.ref 31] h (fun v h' => v = some (.int 1) ∧ CS h' r w S K q T) := by
  refine lc_mk hfl (by decide) (Nat.le_of_ble_eq_true rfl) (fun p e R s m args below meth c D ca A ad => ?_)
  show WL p l e R s m args below meth c _ mL_areBlocks 22 2 D ca ad A ad [] _ 0 0 [(0, .ref 31)] [] h
  refine wl_s rfl rfl ?_
  refine wl_new (kx := 212) (N := 5) (by decide +kernel) (Or.inl rfl) (fun x hx => absurd hx List.not_mem_nil) rfl (by decide) (by decide) (by decide) (by decide) (fun ad1 => ?_)
  iterate 2 refine wl_s rfl rfl ?_
  refine wl_new (kx := 213) (N := 3) (by decide +kernel) (Or.inr rfl) (fun x hx => ?_) rfl (by decide) (by decide) (by decide) (by decide) (fun ad2 => ?_)
  · rw [List.mem_singleton.mp hx]
    decide
  iterate 9 refine wl_s rfl rfl ?_
  refine wl_sub (sub7 rfl rfl rfl rfl rfl rfl rfl) (ab_loop I hB (fun G h g C => ?_) (CN r) 0 _ _ (Nat.zero_add _) ⟨fun j hj => rfl, fun j hj => rfl⟩ C)
  refine ab_end I g C (fun h C => ?_)
  refine wl_s rfl rfl ?_
  refine wl_b rfl rfl (fun q => absurd q (by decide)) (fun _ => ?_)
  refine wl_s rfl rfl ?_
  refine wl_xc rfl rfl ⟨Nat.le_of_ble_eq_true rfl, Nat.le_of_ble_eq_true rfl⟩ (by decide) (p_op_isWell 5 C I) (fun rv9 h9 p9 => ?_)
  obtain ⟨rfl, C⟩ := p9
  refine wl_b rfl rfl (fun q => absurd q (by decide)) (fun _ => ?_)
  refine wl_s rfl rfl ?_
  refine wl_g rfl rfl ?_
  refine wl_q (by decide) rfl (fun k q => by cases q) ?_
  exact ⟨rfl, C⟩
end
