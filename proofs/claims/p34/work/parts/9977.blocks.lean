noncomputable section
theorem k7 : Int32.toNatClampNeg 7 = 7 := rfl
theorem k5 : Int32.toNatClampNeg 5 = 5 := rfl
/-- what the two rows of the law hold behind k blocks -/
def GA (r : Nat → Int32) (G : Nat → Nat → Int32) (k : Nat) : Prop := (∀ j, j < 3 → G 213 j = nI (cntS r (nI j) k)) ∧ ∀ j, j < 5 → G 212 j = nI (whyN r (nI j) k)
theorem GA.step {r : Nat → Int32} {G G2 : Nat → Nat → Int32} {k s y : Nat} (g : GA r G k) (e2 : ofB r k 2 = nI s) (hs : s < 3) (e7 : ofB r k 7 = nI y) (hy : y < 5) (h1 : ∀ j, j < 3 → G2 213 j = if j = s then G 213 s + 1 else G 213 j) (h2 : ∀ j, j < 5 → G2 212 j = if j = y then G 212 y + 1 else G 212 j) : GA r G2 (k + 1) := by
  refine ⟨fun j hj => ?_, fun j hj => ?_⟩
  · rw [h1 j hj]
    by_cases e : j = s
    · subst e
      rw [if_pos rfl, g.1 j hj]
      exact cnt_t (p := fun k => decide (ofB r k 2 = nI j)) (decide_eq_true e2)
    · rw [if_neg e, g.1 j hj]
      exact cnt_f2 (p := fun k => decide (ofB r k 2 = nI j)) (fun z => e ((nI_eq (by omega) (by omega)).mp ((of_decide_eq_true z).symm.trans e2)))
  · rw [h2 j hj]
    by_cases e : j = y
    · subst e
      rw [if_pos rfl, g.2 j hj]
      exact cnt_t (p := fun k => decide (ofB r k 7 = nI j)) (decide_eq_true e7)
    · rw [if_neg e, g.2 j hj]
      exact cnt_f2 (p := fun k => decide (ofB r k 7 = nI j)) (fun z => e ((nI_eq (by omega) (by omega)).mp ((of_decide_eq_true z).symm.trans e7)))
theorem sub10 {lc2 : LC} {i1 i2 i3 i4 i5 i6 i7 i8 i9 i10 : Nat} {v1 v2 v3 v4 v5 v6 v7 v8 v9 v10 : Value} (h1 : lget lc2 i1 = some v1) (h2 : lget lc2 i2 = some v2) (h3 : lget lc2 i3 = some v3) (h4 : lget lc2 i4 = some v4) (h5 : lget lc2 i5 = some v5) (h6 : lget lc2 i6 = some v6) (h7 : lget lc2 i7 = some v7) (h8 : lget lc2 i8 = some v8) (h9 : lget lc2 i9 = some v9) (h10 : lget lc2 i10 = some v10) : SubM [(i1, v1), (i2, v2), (i3, v3), (i4, v4), (i5, v5), (i6, v6), (i7, v7), (i8, v8), (i9, v9), (i10, v10)] lc2 := .cons h1 (sub9 h2 h3 h4 h5 h6 h7 h8 h9 h10)
theorem hE3 : ((213, 3) : Nat × Nat) ∈ ([(213, 3), (212, 5)] : EX) := List.mem_cons_self
theorem hE5 : ((212, 5) : Nat × Nat) ∈ ([(213, 3), (212, 5)] : EX) := List.mem_cons_of_mem _ List.mem_cons_self
theorem hU3 : ∀ y ∈ ([(213, 3), (212, 5)] : EX), y.1 = 213 → y = (213, 3) := fun y hy e => by
  simp only [List.mem_cons, List.not_mem_nil, or_false] at hy
  rcases hy with h | h <;> subst h
  · rfl
  · exact absurd e (by decide)
theorem hU5 : ∀ y ∈ ([(213, 3), (212, 5)] : EX), y.1 = 212 → y = (212, 5) := fun y hy e => by
  simp only [List.mem_cons, List.not_mem_nil, or_false] at hy
  rcases hy with h | h <;> subst h
  · exact absurd e (by decide)
  · rfl
section
variable {p : Program} {l : Launch} {e : Env} {R : Room} {s : State} {m : MethodId} {args : Array Value} {below : List Frame} {meth : Method} {c : Code} {Q : State → Prop} {KC : Nat} {D : va_G} {ca : Nat → ClassId} {ad0 ad : Nat → Nat} {A : Nat → Prop} {E : EX} {G : Nat → Nat → Int32} {kc : Nat} {h : AH} {r : Nat → Int32} {w : Nat → UInt32} {S : Sv} {K : Hs} {q : Int32 × Int32} {T : Tx} {B : Nat}
theorem ab_1 (I : Inv B r w) {k s9 y : Nat} (hk : k < CN r) (e2 : ofB r k 2 = nI s9) (hs : s9 < 3) (e7 : ofB r k 7 = nI y) (hy : y < 5) (hG : GA r G k) (C : CS h r w S K q T) (KE : ∀ (G : Nat → Nat → Int32) (h : AH), GA r G (k + 1) → CS h r w S K q T → WL p l e R s m args below meth c Q mL_areBlocks 22 KC D ca ad0 A ad [(213, 3), (212, 5)] G kc 74 [(0, .ref 31), (1, .ref 212), (2, .ref 213), (3, .int (nI (sumN (lenF r true) k))), (4, .int (nI (sumN (lenF r false) k))), (5, .int 1), (6, .int (nI k)), (7, .int (nI s9)), (8, .int (nI (LN r k)))] [] h) : WL p l e R s m args below meth c Q mL_areBlocks 22 KC D ca ad0 A ad [(213, 3), (212, 5)] G kc 19 [(0, .ref 31), (1, .ref 212), (2, .ref 213), (3, .int (nI (sumN (lenF r true) k))), (4, .int (nI (sumN (lenF r false) k))), (5, .int 1), (6, .int (nI k))] [] h := by
  have h40 := I.1.1.2.1
  have l1 := ((I.1.1.2.2 k hk).1).1
  refine wl_s rfl rfl ?_
  refine wl_b rfl rfl (fun q => absurd q (by decide)) (fun _ => ?_)
  iterate 3 refine wl_s rfl rfl ?_
  refine wl_v (i := 131) (mj := mX10_account) (na := 1) rfl (by decide +kernel) rfl ⟨Nat.le_of_ble_eq_true rfl, Nat.le_of_ble_eq_true rfl⟩ (by decide) (p_op_account 1 17 C I _) (px_good (acctC_ok (n := 4) (by decide))) (fun v9 h9 p9 => ?_)
  obtain ⟨rfl, C⟩ := p9
  rw [acct_4 I.1.1]
  refine wl_b rfl rfl (fun q => absurd q (nI_ge hk (by omega))) (fun _ => ?_)
  iterate 3 refine wl_s rfl rfl ?_
  refine wl_v (i := 134) (mj := mX10_blockOf) (na := 2) rfl (by decide +kernel) rfl ⟨Nat.le_of_ble_eq_true rfl, Nat.le_of_ble_eq_true rfl⟩ (by decide) (p_op_blockOf 1 18 C I.1.1 _ _) (px_good (blockC_ok (x := 2) I.1.1 hk (by decide))) (fun v9 h9 p9 => ?_)
  obtain ⟨rfl, C⟩ := p9
  rw [cl k, k2, e2]
  iterate 4 refine wl_s rfl rfl ?_
  refine wl_v (i := 134) (mj := mX10_blockOf) (na := 2) rfl (by decide +kernel) rfl ⟨Nat.le_of_ble_eq_true rfl, Nat.le_of_ble_eq_true rfl⟩ (by decide) (p_op_blockOf 1 18 C I.1.1 _ _) (px_good (blockC_ok (x := 1) I.1.1 hk (by decide))) (fun v9 h9 p9 => ?_)
  obtain ⟨rfl, C⟩ := p9
  rw [cl k, k1, l1]
  iterate 4 refine wl_s rfl rfl ?_
  refine wl_el (kx := 213) (n := 3) (by decide +kernel) hE3 (vp_in_nI hs (by decide)) ?_
  rw [cl s9]
  iterate 2 refine wl_s rfl rfl ?_
  refine wl_es (kx := 213) (n := 3) (by decide +kernel) hE3 hU3 (vp_in_nI hs (by decide)) ?_
  iterate 4 refine wl_s rfl rfl ?_
  refine wl_v (i := 134) (mj := mX10_blockOf) (na := 2) rfl (by decide +kernel) rfl ⟨Nat.le_of_ble_eq_true rfl, Nat.le_of_ble_eq_true rfl⟩ (by decide) (p_op_blockOf 1 18 C I.1.1 _ _) (px_good (blockC_ok (x := 7) I.1.1 hk (by decide))) (fun v9 h9 p9 => ?_)
  obtain ⟨rfl, C⟩ := p9
  rw [cl k, k7, e7]
  refine wl_s rfl rfl ?_
  refine wl_el (kx := 212) (n := 5) (by decide +kernel) hE5 (vp_in_nI hy (by decide)) ?_
  rw [cl y]
  iterate 2 refine wl_s rfl rfl ?_
  refine wl_es (kx := 212) (n := 5) (by decide +kernel) hE5 hU5 (vp_in_nI hy (by decide)) ?_
  refine wl_sub (sub9 rfl rfl rfl rfl rfl rfl rfl rfl rfl) (KE _ _ (hG.step e2 hs e7 hy (fun j hj => ?_) (fun j hj => ?_)) C)
  · rw [cl s9, cl y]
    try dsimp only
    rw [if_neg (by decide), if_pos rfl]
    unfold upd
    rfl
  · rw [cl s9, cl y]
    try dsimp only
    rw [if_pos rfl, if_neg (by decide)]
    unfold upd
    rfl
theorem len_t {k : Nat} : sumN (lenF r true) (k + 1) = sumN (lenF r true) k + LN r k := rfl
theorem ab_3a (I : Inv B r w) {k : Nat} (hk : k < CN r) (e2 : ofB r k 2 = 0) (C : CS h r w S K q T) (KE : ∀ (h : AH), CS h r w S K q T → WL p l e R s m args below meth c Q mL_areBlocks 22 KC D ca ad0 A ad [(213, 3), (212, 5)] G kc 19 [(0, .ref 31), (1, .ref 212), (2, .ref 213), (3, .int (nI (sumN (lenF r true) (k + 1)))), (4, .int (nI (sumN (lenF r false) (k + 1)))), (5, .int 1), (6, .int (nI (k + 1)))] [] h) : WL p l e R s m args below meth c Q mL_areBlocks 22 KC D ca ad0 A ad [(213, 3), (212, 5)] G kc 189 [(0, .ref 31), (1, .ref 212), (2, .ref 213), (3, .int (nI (sumN (lenF r true) (k + 1)))), (4, .int (nI (sumN (lenF r false) (k + 1)))), (5, .int 1), (6, .int (nI k)), (7, .int 0), (8, .int (nI (LN r k)))] [] h := by
  have h40 := I.1.1.2.1
  obtain ⟨kd, hkd, e0⟩ : ∃ kd, kd < 2 ∧ ofB r k 0 = nI kd := by
    rcases (I.1.b hk).1 with z | z
    · exact ⟨0, by decide, z⟩
    · exact ⟨1, by decide, z⟩
  obtain ⟨p9, hp9, e6⟩ : ∃ p, p < 5 ∧ ofB r k 6 = nI p := by
    rcases (I.1.b hk).2 with z | z | z
    · exact z.2.2.2.2.1
    · exact absurd (e2.symm.trans z.1) (by decide)
    · exact absurd (e2.symm.trans z.1) (by decide)
  have eb : orM (blkIn r (nI kd) (nI p9)) (CN r) = nI k := by
    have := blkIn_of I.1.2.2.2.2 hk e2
    rw [e0, e6] at this
    rw [this]
    exact if_pos hk
  refine wl_s rfl rfl ?_
  refine wl_b rfl rfl (fun q => absurd q (by decide)) (fun _ => ?_)
  refine wl_s rfl rfl ?_
  refine wl_b rfl rfl (fun q => absurd q (by decide)) (fun _ => ?_)
  iterate 4 refine wl_s rfl rfl ?_
  refine wl_v (i := 134) (mj := mX10_blockOf) (na := 2) rfl (by decide +kernel) rfl ⟨Nat.le_of_ble_eq_true rfl, Nat.le_of_ble_eq_true rfl⟩ (by decide) (p_op_blockOf 1 18 C I.1.1 _ _) (px_good (blockC_ok (x := 0) I.1.1 hk (by decide))) (fun v9 h9 p9 => ?_)
  obtain ⟨rfl, C⟩ := p9
  rw [cl k, k0, e0]
  iterate 3 refine wl_s rfl rfl ?_
  refine wl_v (i := 134) (mj := mX10_blockOf) (na := 2) rfl (by decide +kernel) rfl ⟨Nat.le_of_ble_eq_true rfl, Nat.le_of_ble_eq_true rfl⟩ (by decide) (p_op_blockOf 1 18 C I.1.1 _ _) (px_good (blockC_ok (x := 6) I.1.1 hk (by decide))) (fun v9 h9 p9 => ?_)
  obtain ⟨rfl, C⟩ := p9
  rw [cl k, show Int32.toNatClampNeg 6 = 6 from rfl, e6]
  refine wl_v (i := 151) (mj := mX10_inRack) (na := 2) rfl (by decide +kernel) rfl ⟨Nat.le_of_ble_eq_true rfl, Nat.le_of_ble_eq_true rfl⟩ (by decide) (p_op_inRack 1 18 C _ _) (px_good (inRackC_ok hkd hp9)) (fun v9 h9 p9 => ?_)
  obtain ⟨rfl, C⟩ := p9
  rw [eb]
  refine wl_s rfl rfl ?_
  refine wl_b rfl rfl (fun q => absurd q (fun z => z rfl)) (fun _ => ?_)
  refine wl_s rfl rfl ?_
  refine wl_g rfl rfl ?_
  iterate 4 refine wl_s rfl rfl ?_
  refine wl_b rfl rfl (fun q => absurd q (by decide)) (fun _ => ?_)
  iterate 2 refine wl_s rfl rfl ?_
  refine wl_b rfl rfl (fun _ => ?_) (fun q => absurd (by decide) q)
  refine wl_s rfl rfl ?_
  refine wl_g rfl rfl ?_
  rw [nI_1]
  exact wl_sub (sub7 rfl rfl rfl rfl rfl rfl rfl) (KE _ C)
theorem ab_3c {k : Nat} (C : CS h r w S K q T) (KE : ∀ (h : AH), CS h r w S K q T → WL p l e R s m args below meth c Q mL_areBlocks 22 KC D ca ad0 A ad [(213, 3), (212, 5)] G kc 19 [(0, .ref 31), (1, .ref 212), (2, .ref 213), (3, .int (nI (sumN (lenF r true) (k + 1)))), (4, .int (nI (sumN (lenF r false) (k + 1)))), (5, .int 1), (6, .int (nI (k + 1)))] [] h) : WL p l e R s m args below meth c Q mL_areBlocks 22 KC D ca ad0 A ad [(213, 3), (212, 5)] G kc 189 [(0, .ref 31), (1, .ref 212), (2, .ref 213), (3, .int (nI (sumN (lenF r true) (k + 1)))), (4, .int (nI (sumN (lenF r false) (k + 1)))), (5, .int 1), (6, .int (nI k)), (7, .int 2), (8, .int (nI (LN r k)))] [] h := by
  refine wl_s rfl rfl ?_
  refine wl_b rfl rfl (fun q => absurd q (by decide)) (fun _ => ?_)
  refine wl_s rfl rfl ?_
  refine wl_b rfl rfl (fun _ => ?_) (fun q => absurd (by decide) q)
  iterate 3 refine wl_s rfl rfl ?_
  refine wl_b rfl rfl (fun q => absurd q (by decide)) (fun _ => ?_)
  iterate 2 refine wl_s rfl rfl ?_
  refine wl_b rfl rfl (fun _ => ?_) (fun q => absurd (by decide) q)
  refine wl_s rfl rfl ?_
  refine wl_g rfl rfl ?_
  rw [nI_1]
  exact wl_sub (sub7 rfl rfl rfl rfl rfl rfl rfl) (KE _ C)
theorem ab_3b (I : Inv B r w) {k : Nat} (hk : k < CN r) (e2 : ofB r k 2 = 1) (C : CS h r w S K q T) (KE : ∀ (h : AH), CS h r w S K q T → WL p l e R s m args below meth c Q mL_areBlocks 22 KC D ca ad0 A ad [(213, 3), (212, 5)] G kc 19 [(0, .ref 31), (1, .ref 212), (2, .ref 213), (3, .int (nI (sumN (lenF r true) (k + 1)))), (4, .int (nI (sumN (lenF r false) (k + 1)))), (5, .int 1), (6, .int (nI (k + 1)))] [] h) : WL p l e R s m args below meth c Q mL_areBlocks 22 KC D ca ad0 A ad [(213, 3), (212, 5)] G kc 189 [(0, .ref 31), (1, .ref 212), (2, .ref 213), (3, .int (nI (sumN (lenF r true) (k + 1)))), (4, .int (nI (sumN (lenF r false) (k + 1)))), (5, .int 1), (6, .int (nI k)), (7, .int 1), (8, .int (nI (LN r k)))] [] h := by
  have h40 := I.1.1.2.1
  obtain ⟨p1, p2, p3, p4, -, -⟩ := (I.1.1.2.2 k hk).2 e2
  have l2 := ((I.1.1.2.2 k hk).1).2
  have Lp : ∀ (n i : Nat) (h : AH), i + n = LN r k → CS h r w S K q T → WL p l e R s m args below meth c Q mL_areBlocks 22 KC D ca ad0 A ad [(213, 3), (212, 5)] G kc 233 [(0, .ref 31), (1, .ref 212), (2, .ref 213), (3, .int (nI (sumN (lenF r true) (k + 1)))), (4, .int (nI (sumN (lenF r false) (k + 1)))), (5, .int 1), (6, .int (nI k)), (7, .int 1), (8, .int (nI (LN r k))), (9, .int (nI i))] [] h := by
    intro n
    induction n with
    | zero =>
      intro i h hi C
      have hi : i = LN r k := by omega
      subst hi
      refine wl_s rfl rfl ?_
      refine wl_b rfl rfl (fun q => absurd q (by decide)) (fun _ => ?_)
      iterate 2 refine wl_s rfl rfl ?_
      refine wl_b rfl rfl (fun q => absurd q (by decide)) (fun _ => ?_)
      iterate 2 refine wl_s rfl rfl ?_
      refine wl_b rfl rfl (fun _ => ?_) (fun q => absurd (Int32.le_refl _) q)
      refine wl_s rfl rfl ?_
      refine wl_g rfl rfl ?_
      rw [nI_1]
      exact wl_sub (sub7 rfl rfl rfl rfl rfl rfl rfl) (KE _ C)
    | succ n ih =>
      intro i h hi C
      have eg := I.1.2.2.1 (CU r k) (CO r k + i) k (by omega) (by omega) hk ⟨e2, rfl, by omega, by omega⟩
      refine wl_s rfl rfl ?_
      refine wl_b rfl rfl (fun q => absurd q (by decide)) (fun _ => ?_)
      iterate 2 refine wl_s rfl rfl ?_
      refine wl_b rfl rfl (fun q => absurd q (by decide)) (fun _ => ?_)
      iterate 2 refine wl_s rfl rfl ?_
      refine wl_b rfl rfl (fun q => absurd q (nI_ge (by omega) (by omega))) (fun _ => ?_)
      iterate 4 refine wl_s rfl rfl ?_
      refine wl_v (i := 134) (mj := mX10_blockOf) (na := 2) rfl (by decide +kernel) rfl ⟨Nat.le_of_ble_eq_true rfl, Nat.le_of_ble_eq_true rfl⟩ (by decide) (p_op_blockOf 1 18 C I.1.1 _ _) (px_good (blockC_ok (x := 3) I.1.1 hk (by decide))) (fun v9 h9 p9 => ?_)
      obtain ⟨rfl, C⟩ := p9
      rw [cl k, k3, p1]
      iterate 5 refine wl_s rfl rfl ?_
      refine wl_v (i := 134) (mj := mX10_blockOf) (na := 2) rfl (by decide +kernel) rfl ⟨Nat.le_of_ble_eq_true rfl, Nat.le_of_ble_eq_true rfl⟩ (by decide) (p_op_blockOf 1 18 C I.1.1 _ _) (px_good (blockC_ok (x := 4) I.1.1 hk (by decide))) (fun v9 h9 p9 => ?_)
      obtain ⟨rfl, C⟩ := p9
      rw [cl k, k4, p3, nI_add]
      refine wl_v (i := 140) (mj := mX10_at) (na := 2) rfl (by decide +kernel) rfl ⟨Nat.le_of_ble_eq_true rfl, Nat.le_of_ble_eq_true rfl⟩ (by decide) (p_op_at 1 19 C _ _) (px_good (atC_ok (by omega) (by omega))) (fun v9 h9 p9 => ?_)
      obtain ⟨rfl, C⟩ := p9
      rw [cl (CU r k), cl (CO r k + i), eg]
      refine wl_s rfl rfl ?_
      refine wl_b rfl rfl (fun q => absurd q (fun z => z rfl)) (fun _ => ?_)
      refine wl_s rfl rfl ?_
      refine wl_g rfl rfl ?_
      iterate 2 refine wl_s rfl rfl ?_
      refine wl_g rfl rfl ?_
      rw [nI_1]
      exact wl_sub (sub10 rfl rfl rfl rfl rfl rfl rfl rfl rfl rfl) (ih (i + 1) _ (by omega) C)
  refine wl_s rfl rfl ?_
  refine wl_b rfl rfl (fun q => absurd q (by decide)) (fun _ => ?_)
  refine wl_s rfl rfl ?_
  refine wl_b rfl rfl (fun _ => ?_) (fun q => absurd (by decide) q)
  iterate 2 refine wl_s rfl rfl ?_
  exact wl_sub (sub10 rfl rfl rfl rfl rfl rfl rfl rfl rfl rfl) (Lp (LN r k) 0 _ (Nat.zero_add _) C)
theorem mb_nI {x : UInt32} (h : x.toNat < 2 ^ 31) : x.toInt32 = nI x.toNat := by
  apply Int32.toBitVec_inj.mp
  apply BitVec.eq_of_toNat_eq
  show x.toNat = x.toNat % 2 ^ 32
  omega
theorem ab_2a (hfl : True) (I : Inv B r w) (hB : B + 48 < 2 ^ 30) {k : Nat} (hk : k < CN r) (e2 : ofB r k 2 = 0) (esg : sgN r k = 114) (C : CS h r w S K q T) (KE : ∀ (h : AH), CS h r w S K q T → WL p l e R s m args below meth c Q mL_areBlocks 22 KC D ca ad0 A ad [(213, 3), (212, 5)] G kc 189 [(0, .ref 31), (1, .ref 212), (2, .ref 213), (3, .int (nI (sumN (lenF r true) (k + 1)))), (4, .int (nI (sumN (lenF r false) (k + 1)))), (5, .int 1), (6, .int (nI k)), (7, .int 0), (8, .int (nI (LN r k)))] [] h) : WL p l e R s m args below meth c Q mL_areBlocks 22 KC D ca ad0 A ad [(213, 3), (212, 5)] G kc 74 [(0, .ref 31), (1, .ref 212), (2, .ref 213), (3, .int (nI (sumN (lenF r true) k))), (4, .int (nI (sumN (lenF r false) k))), (5, .int 1), (6, .int (nI k)), (7, .int 0), (8, .int (nI (LN r k)))] [] h := by
  have h40 := I.1.1.2.1
  have e7 : ofB r k 7 = 0 := by
    rcases (I.1.b hk).2 with z | z | z
    · exact z.2.2.2.2.2
    · exact absurd (e2.symm.trans z.1) (by decide)
    · exact absurd (e2.symm.trans z.1) (by decide)
  have emb0 : mbA r w k 0 = (w k).toInt32 := if_neg (show ¬ ofB r k 2 = 2 by rw [e2]; decide)
  obtain ⟨x9, hx9, emb⟩ : ∃ x : Nat, x < 2 ^ 31 ∧ mbA r w k 0 = nI x := by
    rw [emb0]
    have hm : mOk (w k) := I.2.2.1 k hk e2
    have hm : (w k).toNat ≤ 1135869952 := hm.2
    exact ⟨(w k).toNat, by omega, mb_nI (by omega)⟩
  have ef : nI (sumN (lenF r false) (k + 1)) = nI (sumN (lenF r false) k) + 0 := by
    rw [show sumN (lenF r false) (k + 1) = sumN (lenF r false) k + lenF r false k from rfl]
    unfold lenF
    rw [if_neg (fun z => by rw [e2] at z; rcases z with z | z <;> exact absurd z (by decide))]
    exact (nI_add _ 0).symm
  iterate 3 refine wl_s rfl rfl ?_
  rw [nI_add, ← len_t]
  iterate 4 refine wl_s rfl rfl ?_
  refine wl_b rfl rfl (fun _ => ?_) (fun q => absurd (by decide) q)
  iterate 2 refine wl_s rfl rfl ?_
  rw [← ef]
  refine wl_s rfl rfl ?_
  refine wl_rw (by decide +kernel) ?_
  iterate 2 refine wl_s rfl rfl ?_
  refine wl_v (i := 145) (mj := mX10_sign) (na := 1) rfl (by decide +kernel) rfl ⟨Nat.le_of_ble_eq_true rfl, Nat.le_of_ble_eq_true rfl⟩ (by decide) (p_op_sign 1 18 C I _) (px_good (sawnC_ok I.1.1 hk)) (fun v9 h9 p9 => ?_)
  obtain ⟨rfl, C⟩ := p9
  rw [cl k, esg]
  refine wl_js (mj := mJ0_indexOf_0f7a4) (i9 := 148) (na := 1) (d' := 3) (i := 12) (As := [.int 114]) (rest := []) (rv := some (.int (rwI 114))) (by decide) (by decide +kernel) (fun sa va => met_Ji (by decide) (by decide) (by decide)) (by decide +kernel) (by decide +kernel) (by decide +kernel) (by decide) (by decide) ⟨by decide, by decide, by decide +kernel⟩ rfl (Nat.le_of_ble_eq_true rfl) (by decide) (by decide) rfl rfl ?_
  iterate 2 refine wl_s rfl rfl ?_
  refine wl_b rfl rfl (fun q => absurd q (by decide)) (fun _ => ?_)
  refine wl_s rfl rfl ?_
  refine wl_g rfl rfl ?_
  refine wl_b rfl rfl (fun q => absurd q (by decide)) (fun _ => ?_)
  iterate 2 refine wl_s rfl rfl ?_
  refine wl_b rfl rfl (fun _ => ?_) (fun q => absurd (by decide) q)
  iterate 4 refine wl_s rfl rfl ?_
  refine wl_v (i := 134) (mj := mX10_blockOf) (na := 2) rfl (by decide +kernel) rfl ⟨Nat.le_of_ble_eq_true rfl, Nat.le_of_ble_eq_true rfl⟩ (by decide) (p_op_blockOf 1 18 C I.1.1 _ _) (px_good (blockC_ok (x := 7) I.1.1 hk (by decide))) (fun v9 h9 p9 => ?_)
  obtain ⟨rfl, C⟩ := p9
  rw [cl k, k7, e7]
  refine wl_b rfl rfl (fun _ => ?_) (fun q => absurd (by decide) q)
  refine wl_s rfl rfl ?_
  refine wl_b rfl rfl (fun q => absurd q (by decide)) (fun _ => ?_)
  iterate 2 refine wl_s rfl rfl ?_
  refine wl_b rfl rfl (fun _ => ?_) (fun q => absurd (by decide) q)
  iterate 4 refine wl_s rfl rfl ?_
  refine wl_v (i := 137) (mj := mX10_massBits) (na := 2) rfl (by decide +kernel) rfl ⟨Nat.le_of_ble_eq_true rfl, Nat.le_of_ble_eq_true rfl⟩ (by decide) (p_op_massBits 1 13 C I hB _ _) (px_good (mbC_ok (n := 0) I.1.1 hk (by decide))) (fun v9 h9 p9 => ?_)
  obtain ⟨rfl, C⟩ := p9
  rw [cl k, k0, emb]
  refine wl_s rfl rfl ?_
  refine wl_b rfl rfl (fun _ => ?_) (fun q => absurd (fun z => nI_pos hx9 (by rw [z]; decide)) q)
  refine wl_s rfl rfl ?_
  refine wl_b rfl rfl (fun q => absurd q (by decide)) (fun _ => ?_)
  refine wl_s rfl rfl ?_
  refine wl_g rfl rfl ?_
  refine wl_s rfl rfl ?_
  exact wl_sub (sub9 rfl rfl rfl rfl rfl rfl rfl rfl rfl) (KE _ C)
theorem ab_2b (hfl : True) (I : Inv B r w) (hB : B + 48 < 2 ^ 30) {k : Nat} (hk : k < CN r) (e2 : ofB r k 2 = 1) (esg : sgN r k = 119) (C : CS h r w S K q T) (KE : ∀ (h : AH), CS h r w S K q T → WL p l e R s m args below meth c Q mL_areBlocks 22 KC D ca ad0 A ad [(213, 3), (212, 5)] G kc 189 [(0, .ref 31), (1, .ref 212), (2, .ref 213), (3, .int (nI (sumN (lenF r true) (k + 1)))), (4, .int (nI (sumN (lenF r false) (k + 1)))), (5, .int 1), (6, .int (nI k)), (7, .int 1), (8, .int (nI (LN r k)))] [] h) : WL p l e R s m args below meth c Q mL_areBlocks 22 KC D ca ad0 A ad [(213, 3), (212, 5)] G kc 74 [(0, .ref 31), (1, .ref 212), (2, .ref 213), (3, .int (nI (sumN (lenF r true) k))), (4, .int (nI (sumN (lenF r false) k))), (5, .int 1), (6, .int (nI k)), (7, .int 1), (8, .int (nI (LN r k)))] [] h := by
  have h40 := I.1.1.2.1
  have e7 : ofB r k 7 = 0 := by
    rcases (I.1.b hk).2 with z | z | z
    · exact absurd (e2.symm.trans z.1) (by decide)
    · exact z.2.2
    · exact absurd (e2.symm.trans z.1) (by decide)
  have emb0 : mbA r w k 0 = (w k).toInt32 := if_neg (show ¬ ofB r k 2 = 2 by rw [e2]; decide)
  obtain ⟨x9, hx9, emb⟩ : ∃ x : Nat, x < 2 ^ 31 ∧ mbA r w k 0 = nI x := by
    rw [emb0]
    have hm : mOk (w k) := I.2.1.2.1 k hk e2
    have hm : (w k).toNat ≤ 1135869952 := hm.2
    exact ⟨(w k).toNat, by omega, mb_nI (by omega)⟩
  have ef : nI (sumN (lenF r false) (k + 1)) = nI (sumN (lenF r false) k) + nI (LN r k) := by
    rw [show sumN (lenF r false) (k + 1) = sumN (lenF r false) k + lenF r false k from rfl]
    unfold lenF
    rw [if_pos (Or.inr e2)]
    exact (nI_add _ _).symm
  iterate 3 refine wl_s rfl rfl ?_
  rw [nI_add, ← len_t]
  iterate 4 refine wl_s rfl rfl ?_
  refine wl_b rfl rfl (fun q => absurd q (by decide)) (fun _ => ?_)
  refine wl_s rfl rfl ?_
  refine wl_g rfl rfl ?_
  refine wl_s rfl rfl ?_
  rw [← ef]
  refine wl_s rfl rfl ?_
  refine wl_rw (by decide +kernel) ?_
  iterate 2 refine wl_s rfl rfl ?_
  refine wl_v (i := 145) (mj := mX10_sign) (na := 1) rfl (by decide +kernel) rfl ⟨Nat.le_of_ble_eq_true rfl, Nat.le_of_ble_eq_true rfl⟩ (by decide) (p_op_sign 1 18 C I _) (px_good (sawnC_ok I.1.1 hk)) (fun v9 h9 p9 => ?_)
  obtain ⟨rfl, C⟩ := p9
  rw [cl k, esg]
  refine wl_js (mj := mJ0_indexOf_0f7a4) (i9 := 148) (na := 1) (d' := 3) (i := 12) (As := [.int 119]) (rest := []) (rv := some (.int (rwI 119))) (by decide) (by decide +kernel) (fun sa va => met_Ji (by decide) (by decide) (by decide)) (by decide +kernel) (by decide +kernel) (by decide +kernel) (by decide) (by decide) ⟨by decide, by decide, by decide +kernel⟩ rfl (Nat.le_of_ble_eq_true rfl) (by decide) (by decide) rfl rfl ?_
  iterate 2 refine wl_s rfl rfl ?_
  refine wl_b rfl rfl (fun q => absurd q (by decide)) (fun _ => ?_)
  refine wl_s rfl rfl ?_
  refine wl_g rfl rfl ?_
  refine wl_b rfl rfl (fun q => absurd q (by decide)) (fun _ => ?_)
  iterate 2 refine wl_s rfl rfl ?_
  refine wl_b rfl rfl (fun _ => ?_) (fun q => absurd (by decide) q)
  iterate 4 refine wl_s rfl rfl ?_
  refine wl_v (i := 134) (mj := mX10_blockOf) (na := 2) rfl (by decide +kernel) rfl ⟨Nat.le_of_ble_eq_true rfl, Nat.le_of_ble_eq_true rfl⟩ (by decide) (p_op_blockOf 1 18 C I.1.1 _ _) (px_good (blockC_ok (x := 7) I.1.1 hk (by decide))) (fun v9 h9 p9 => ?_)
  obtain ⟨rfl, C⟩ := p9
  rw [cl k, k7, e7]
  refine wl_b rfl rfl (fun _ => ?_) (fun q => absurd (by decide) q)
  refine wl_s rfl rfl ?_
  refine wl_b rfl rfl (fun q => absurd q (by decide)) (fun _ => ?_)
  iterate 2 refine wl_s rfl rfl ?_
  refine wl_b rfl rfl (fun _ => ?_) (fun q => absurd (by decide) q)
  iterate 4 refine wl_s rfl rfl ?_
  refine wl_v (i := 137) (mj := mX10_massBits) (na := 2) rfl (by decide +kernel) rfl ⟨Nat.le_of_ble_eq_true rfl, Nat.le_of_ble_eq_true rfl⟩ (by decide) (p_op_massBits 1 13 C I hB _ _) (px_good (mbC_ok (n := 0) I.1.1 hk (by decide))) (fun v9 h9 p9 => ?_)
  obtain ⟨rfl, C⟩ := p9
  rw [cl k, k0, emb]
  refine wl_s rfl rfl ?_
  refine wl_b rfl rfl (fun _ => ?_) (fun q => absurd (fun z => nI_pos hx9 (by rw [z]; decide)) q)
  refine wl_s rfl rfl ?_
  refine wl_b rfl rfl (fun q => absurd q (by decide)) (fun _ => ?_)
  refine wl_s rfl rfl ?_
  refine wl_g rfl rfl ?_
  refine wl_s rfl rfl ?_
  exact wl_sub (sub9 rfl rfl rfl rfl rfl rfl rfl rfl rfl) (KE _ C)
theorem ab_2c1 (hfl : True) (I : Inv B r w) (hB : B + 48 < 2 ^ 30) {k : Nat} (hk : k < CN r) (e2 : ofB r k 2 = 2) (e7 : ofB r k 7 = 1) (esg : sgN r k = 116) (C : CS h r w S K q T) (KE : ∀ (h : AH), CS h r w S K q T → WL p l e R s m args below meth c Q mL_areBlocks 22 KC D ca ad0 A ad [(213, 3), (212, 5)] G kc 189 [(0, .ref 31), (1, .ref 212), (2, .ref 213), (3, .int (nI (sumN (lenF r true) (k + 1)))), (4, .int (nI (sumN (lenF r false) (k + 1)))), (5, .int 1), (6, .int (nI k)), (7, .int 2), (8, .int (nI (LN r k)))] [] h) : WL p l e R s m args below meth c Q mL_areBlocks 22 KC D ca ad0 A ad [(213, 3), (212, 5)] G kc 74 [(0, .ref 31), (1, .ref 212), (2, .ref 213), (3, .int (nI (sumN (lenF r true) k))), (4, .int (nI (sumN (lenF r false) k))), (5, .int 1), (6, .int (nI k)), (7, .int 2), (8, .int (nI (LN r k)))] [] h := by
  have h40 := I.1.1.2.1
  have emb : mbA r w k 0 = -1 := if_pos (show ofB r k 2 = 2 from e2)
  have ef : nI (sumN (lenF r false) (k + 1)) = nI (sumN (lenF r false) k) + 0 := by
    rw [show sumN (lenF r false) (k + 1) = sumN (lenF r false) k + lenF r false k from rfl]
    unfold lenF
    rw [if_neg (fun z => by rw [e2] at z; rcases z with z | z <;> exact absurd z (by decide))]
    exact (nI_add _ 0).symm
  iterate 3 refine wl_s rfl rfl ?_
  rw [nI_add, ← len_t]
  iterate 4 refine wl_s rfl rfl ?_
  refine wl_b rfl rfl (fun _ => ?_) (fun q => absurd (by decide) q)
  iterate 2 refine wl_s rfl rfl ?_
  rw [← ef]
  refine wl_s rfl rfl ?_
  refine wl_rw (by decide +kernel) ?_
  iterate 2 refine wl_s rfl rfl ?_
  refine wl_v (i := 145) (mj := mX10_sign) (na := 1) rfl (by decide +kernel) rfl ⟨Nat.le_of_ble_eq_true rfl, Nat.le_of_ble_eq_true rfl⟩ (by decide) (p_op_sign 1 18 C I _) (px_good (sawnC_ok I.1.1 hk)) (fun v9 h9 p9 => ?_)
  obtain ⟨rfl, C⟩ := p9
  rw [cl k, esg]
  refine wl_js (mj := mJ0_indexOf_0f7a4) (i9 := 148) (na := 1) (d' := 3) (i := 12) (As := [.int 116]) (rest := []) (rv := some (.int (rwI 116))) (by decide) (by decide +kernel) (fun sa va => met_Ji (by decide) (by decide) (by decide)) (by decide +kernel) (by decide +kernel) (by decide +kernel) (by decide) (by decide) ⟨by decide, by decide, by decide +kernel⟩ rfl (Nat.le_of_ble_eq_true rfl) (by decide) (by decide) rfl rfl ?_
  iterate 2 refine wl_s rfl rfl ?_
  refine wl_b rfl rfl (fun _ => ?_) (fun q => absurd (by decide) q)
  refine wl_s rfl rfl ?_
  refine wl_b rfl rfl (fun q => absurd q (by decide)) (fun _ => ?_)
  iterate 2 refine wl_s rfl rfl ?_
  refine wl_b rfl rfl (fun q => absurd q (by decide)) (fun _ => ?_)
  refine wl_s rfl rfl ?_
  refine wl_g rfl rfl ?_
  iterate 3 refine wl_s rfl rfl ?_
  refine wl_v (i := 134) (mj := mX10_blockOf) (na := 2) rfl (by decide +kernel) rfl ⟨Nat.le_of_ble_eq_true rfl, Nat.le_of_ble_eq_true rfl⟩ (by decide) (p_op_blockOf 1 18 C I.1.1 _ _) (px_good (blockC_ok (x := 7) I.1.1 hk (by decide))) (fun v9 h9 p9 => ?_)
  obtain ⟨rfl, C⟩ := p9
  rw [cl k, k7, e7]
  refine wl_b rfl rfl (fun q => absurd q (by decide)) (fun _ => ?_)
  refine wl_s rfl rfl ?_
  refine wl_g rfl rfl ?_
  refine wl_b rfl rfl (fun q => absurd q (by decide)) (fun _ => ?_)
  iterate 2 refine wl_s rfl rfl ?_
  refine wl_b rfl rfl (fun q => absurd q (by decide)) (fun _ => ?_)
  refine wl_s rfl rfl ?_
  refine wl_g rfl rfl ?_
  iterate 3 refine wl_s rfl rfl ?_
  refine wl_v (i := 137) (mj := mX10_massBits) (na := 2) rfl (by decide +kernel) rfl ⟨Nat.le_of_ble_eq_true rfl, Nat.le_of_ble_eq_true rfl⟩ (by decide) (p_op_massBits 1 13 C I hB _ _) (px_good (mbC_ok (n := 0) I.1.1 hk (by decide))) (fun v9 h9 p9 => ?_)
  obtain ⟨rfl, C⟩ := p9
  rw [cl k, k0, emb]
  refine wl_s rfl rfl ?_
  refine wl_b rfl rfl (fun q => absurd q (fun z => z rfl)) (fun _ => ?_)
  refine wl_s rfl rfl ?_
  refine wl_g rfl rfl ?_
  refine wl_b rfl rfl (fun q => absurd q (by decide)) (fun _ => ?_)
  refine wl_s rfl rfl ?_
  refine wl_g rfl rfl ?_
  refine wl_s rfl rfl ?_
  exact wl_sub (sub9 rfl rfl rfl rfl rfl rfl rfl rfl rfl) (KE _ C)
theorem ab_2c2 (hfl : True) (I : Inv B r w) (hB : B + 48 < 2 ^ 30) {k : Nat} (hk : k < CN r) (e2 : ofB r k 2 = 2) (e7 : ofB r k 7 = 2) (esg : sgN r k = 109) (C : CS h r w S K q T) (KE : ∀ (h : AH), CS h r w S K q T → WL p l e R s m args below meth c Q mL_areBlocks 22 KC D ca ad0 A ad [(213, 3), (212, 5)] G kc 189 [(0, .ref 31), (1, .ref 212), (2, .ref 213), (3, .int (nI (sumN (lenF r true) (k + 1)))), (4, .int (nI (sumN (lenF r false) (k + 1)))), (5, .int 1), (6, .int (nI k)), (7, .int 2), (8, .int (nI (LN r k)))] [] h) : WL p l e R s m args below meth c Q mL_areBlocks 22 KC D ca ad0 A ad [(213, 3), (212, 5)] G kc 74 [(0, .ref 31), (1, .ref 212), (2, .ref 213), (3, .int (nI (sumN (lenF r true) k))), (4, .int (nI (sumN (lenF r false) k))), (5, .int 1), (6, .int (nI k)), (7, .int 2), (8, .int (nI (LN r k)))] [] h := by
  have h40 := I.1.1.2.1
  have emb : mbA r w k 0 = -1 := if_pos (show ofB r k 2 = 2 from e2)
  have ef : nI (sumN (lenF r false) (k + 1)) = nI (sumN (lenF r false) k) + 0 := by
    rw [show sumN (lenF r false) (k + 1) = sumN (lenF r false) k + lenF r false k from rfl]
    unfold lenF
    rw [if_neg (fun z => by rw [e2] at z; rcases z with z | z <;> exact absurd z (by decide))]
    exact (nI_add _ 0).symm
  iterate 3 refine wl_s rfl rfl ?_
  rw [nI_add, ← len_t]
  iterate 4 refine wl_s rfl rfl ?_
  refine wl_b rfl rfl (fun _ => ?_) (fun q => absurd (by decide) q)
  iterate 2 refine wl_s rfl rfl ?_
  rw [← ef]
  refine wl_s rfl rfl ?_
  refine wl_rw (by decide +kernel) ?_
  iterate 2 refine wl_s rfl rfl ?_
  refine wl_v (i := 145) (mj := mX10_sign) (na := 1) rfl (by decide +kernel) rfl ⟨Nat.le_of_ble_eq_true rfl, Nat.le_of_ble_eq_true rfl⟩ (by decide) (p_op_sign 1 18 C I _) (px_good (sawnC_ok I.1.1 hk)) (fun v9 h9 p9 => ?_)
  obtain ⟨rfl, C⟩ := p9
  rw [cl k, esg]
  refine wl_js (mj := mJ0_indexOf_0f7a4) (i9 := 148) (na := 1) (d' := 3) (i := 12) (As := [.int 109]) (rest := []) (rv := some (.int (rwI 109))) (by decide) (by decide +kernel) (fun sa va => met_Ji (by decide) (by decide) (by decide)) (by decide +kernel) (by decide +kernel) (by decide +kernel) (by decide) (by decide) ⟨by decide, by decide, by decide +kernel⟩ rfl (Nat.le_of_ble_eq_true rfl) (by decide) (by decide) rfl rfl ?_
  iterate 2 refine wl_s rfl rfl ?_
  refine wl_b rfl rfl (fun _ => ?_) (fun q => absurd (by decide) q)
  refine wl_s rfl rfl ?_
  refine wl_b rfl rfl (fun q => absurd q (by decide)) (fun _ => ?_)
  iterate 2 refine wl_s rfl rfl ?_
  refine wl_b rfl rfl (fun q => absurd q (by decide)) (fun _ => ?_)
  refine wl_s rfl rfl ?_
  refine wl_g rfl rfl ?_
  iterate 3 refine wl_s rfl rfl ?_
  refine wl_v (i := 134) (mj := mX10_blockOf) (na := 2) rfl (by decide +kernel) rfl ⟨Nat.le_of_ble_eq_true rfl, Nat.le_of_ble_eq_true rfl⟩ (by decide) (p_op_blockOf 1 18 C I.1.1 _ _) (px_good (blockC_ok (x := 7) I.1.1 hk (by decide))) (fun v9 h9 p9 => ?_)
  obtain ⟨rfl, C⟩ := p9
  rw [cl k, k7, e7]
  refine wl_b rfl rfl (fun q => absurd q (by decide)) (fun _ => ?_)
  refine wl_s rfl rfl ?_
  refine wl_g rfl rfl ?_
  refine wl_b rfl rfl (fun q => absurd q (by decide)) (fun _ => ?_)
  iterate 2 refine wl_s rfl rfl ?_
  refine wl_b rfl rfl (fun q => absurd q (by decide)) (fun _ => ?_)
  refine wl_s rfl rfl ?_
  refine wl_g rfl rfl ?_
  iterate 3 refine wl_s rfl rfl ?_
  refine wl_v (i := 137) (mj := mX10_massBits) (na := 2) rfl (by decide +kernel) rfl ⟨Nat.le_of_ble_eq_true rfl, Nat.le_of_ble_eq_true rfl⟩ (by decide) (p_op_massBits 1 13 C I hB _ _) (px_good (mbC_ok (n := 0) I.1.1 hk (by decide))) (fun v9 h9 p9 => ?_)
  obtain ⟨rfl, C⟩ := p9
  rw [cl k, k0, emb]
  refine wl_s rfl rfl ?_
  refine wl_b rfl rfl (fun q => absurd q (fun z => z rfl)) (fun _ => ?_)
  refine wl_s rfl rfl ?_
  refine wl_g rfl rfl ?_
  refine wl_b rfl rfl (fun q => absurd q (by decide)) (fun _ => ?_)
  refine wl_s rfl rfl ?_
  refine wl_g rfl rfl ?_
  refine wl_s rfl rfl ?_
  exact wl_sub (sub9 rfl rfl rfl rfl rfl rfl rfl rfl rfl) (KE _ C)
theorem ab_2c3 (hfl : True) (I : Inv B r w) (hB : B + 48 < 2 ^ 30) {k : Nat} (hk : k < CN r) (e2 : ofB r k 2 = 2) (e7 : ofB r k 7 = 3) (esg : sgN r k = 98) (C : CS h r w S K q T) (KE : ∀ (h : AH), CS h r w S K q T → WL p l e R s m args below meth c Q mL_areBlocks 22 KC D ca ad0 A ad [(213, 3), (212, 5)] G kc 189 [(0, .ref 31), (1, .ref 212), (2, .ref 213), (3, .int (nI (sumN (lenF r true) (k + 1)))), (4, .int (nI (sumN (lenF r false) (k + 1)))), (5, .int 1), (6, .int (nI k)), (7, .int 2), (8, .int (nI (LN r k)))] [] h) : WL p l e R s m args below meth c Q mL_areBlocks 22 KC D ca ad0 A ad [(213, 3), (212, 5)] G kc 74 [(0, .ref 31), (1, .ref 212), (2, .ref 213), (3, .int (nI (sumN (lenF r true) k))), (4, .int (nI (sumN (lenF r false) k))), (5, .int 1), (6, .int (nI k)), (7, .int 2), (8, .int (nI (LN r k)))] [] h := by
  have h40 := I.1.1.2.1
  have emb : mbA r w k 0 = -1 := if_pos (show ofB r k 2 = 2 from e2)
  have ef : nI (sumN (lenF r false) (k + 1)) = nI (sumN (lenF r false) k) + 0 := by
    rw [show sumN (lenF r false) (k + 1) = sumN (lenF r false) k + lenF r false k from rfl]
    unfold lenF
    rw [if_neg (fun z => by rw [e2] at z; rcases z with z | z <;> exact absurd z (by decide))]
    exact (nI_add _ 0).symm
  iterate 3 refine wl_s rfl rfl ?_
  rw [nI_add, ← len_t]
  iterate 4 refine wl_s rfl rfl ?_
  refine wl_b rfl rfl (fun _ => ?_) (fun q => absurd (by decide) q)
  iterate 2 refine wl_s rfl rfl ?_
  rw [← ef]
  refine wl_s rfl rfl ?_
  refine wl_rw (by decide +kernel) ?_
  iterate 2 refine wl_s rfl rfl ?_
  refine wl_v (i := 145) (mj := mX10_sign) (na := 1) rfl (by decide +kernel) rfl ⟨Nat.le_of_ble_eq_true rfl, Nat.le_of_ble_eq_true rfl⟩ (by decide) (p_op_sign 1 18 C I _) (px_good (sawnC_ok I.1.1 hk)) (fun v9 h9 p9 => ?_)
  obtain ⟨rfl, C⟩ := p9
  rw [cl k, esg]
  refine wl_js (mj := mJ0_indexOf_0f7a4) (i9 := 148) (na := 1) (d' := 3) (i := 12) (As := [.int 98]) (rest := []) (rv := some (.int (rwI 98))) (by decide) (by decide +kernel) (fun sa va => met_Ji (by decide) (by decide) (by decide)) (by decide +kernel) (by decide +kernel) (by decide +kernel) (by decide) (by decide) ⟨by decide, by decide, by decide +kernel⟩ rfl (Nat.le_of_ble_eq_true rfl) (by decide) (by decide) rfl rfl ?_
  iterate 2 refine wl_s rfl rfl ?_
  refine wl_b rfl rfl (fun _ => ?_) (fun q => absurd (by decide) q)
  refine wl_s rfl rfl ?_
  refine wl_b rfl rfl (fun q => absurd q (by decide)) (fun _ => ?_)
  iterate 2 refine wl_s rfl rfl ?_
  refine wl_b rfl rfl (fun q => absurd q (by decide)) (fun _ => ?_)
  refine wl_s rfl rfl ?_
  refine wl_g rfl rfl ?_
  iterate 3 refine wl_s rfl rfl ?_
  refine wl_v (i := 134) (mj := mX10_blockOf) (na := 2) rfl (by decide +kernel) rfl ⟨Nat.le_of_ble_eq_true rfl, Nat.le_of_ble_eq_true rfl⟩ (by decide) (p_op_blockOf 1 18 C I.1.1 _ _) (px_good (blockC_ok (x := 7) I.1.1 hk (by decide))) (fun v9 h9 p9 => ?_)
  obtain ⟨rfl, C⟩ := p9
  rw [cl k, k7, e7]
  refine wl_b rfl rfl (fun q => absurd q (by decide)) (fun _ => ?_)
  refine wl_s rfl rfl ?_
  refine wl_g rfl rfl ?_
  refine wl_b rfl rfl (fun q => absurd q (by decide)) (fun _ => ?_)
  iterate 2 refine wl_s rfl rfl ?_
  refine wl_b rfl rfl (fun q => absurd q (by decide)) (fun _ => ?_)
  refine wl_s rfl rfl ?_
  refine wl_g rfl rfl ?_
  iterate 3 refine wl_s rfl rfl ?_
  refine wl_v (i := 137) (mj := mX10_massBits) (na := 2) rfl (by decide +kernel) rfl ⟨Nat.le_of_ble_eq_true rfl, Nat.le_of_ble_eq_true rfl⟩ (by decide) (p_op_massBits 1 13 C I hB _ _) (px_good (mbC_ok (n := 0) I.1.1 hk (by decide))) (fun v9 h9 p9 => ?_)
  obtain ⟨rfl, C⟩ := p9
  rw [cl k, k0, emb]
  refine wl_s rfl rfl ?_
  refine wl_b rfl rfl (fun q => absurd q (fun z => z rfl)) (fun _ => ?_)
  refine wl_s rfl rfl ?_
  refine wl_g rfl rfl ?_
  refine wl_b rfl rfl (fun q => absurd q (by decide)) (fun _ => ?_)
  refine wl_s rfl rfl ?_
  refine wl_g rfl rfl ?_
  refine wl_s rfl rfl ?_
  exact wl_sub (sub9 rfl rfl rfl rfl rfl rfl rfl rfl rfl) (KE _ C)
theorem ab_2c4 (hfl : True) (I : Inv B r w) (hB : B + 48 < 2 ^ 30) {k : Nat} (hk : k < CN r) (e2 : ofB r k 2 = 2) (e7 : ofB r k 7 = 4) (esg : sgN r k = 102) (C : CS h r w S K q T) (KE : ∀ (h : AH), CS h r w S K q T → WL p l e R s m args below meth c Q mL_areBlocks 22 KC D ca ad0 A ad [(213, 3), (212, 5)] G kc 189 [(0, .ref 31), (1, .ref 212), (2, .ref 213), (3, .int (nI (sumN (lenF r true) (k + 1)))), (4, .int (nI (sumN (lenF r false) (k + 1)))), (5, .int 1), (6, .int (nI k)), (7, .int 2), (8, .int (nI (LN r k)))] [] h) : WL p l e R s m args below meth c Q mL_areBlocks 22 KC D ca ad0 A ad [(213, 3), (212, 5)] G kc 74 [(0, .ref 31), (1, .ref 212), (2, .ref 213), (3, .int (nI (sumN (lenF r true) k))), (4, .int (nI (sumN (lenF r false) k))), (5, .int 1), (6, .int (nI k)), (7, .int 2), (8, .int (nI (LN r k)))] [] h := by
  have h40 := I.1.1.2.1
  have emb : mbA r w k 0 = -1 := if_pos (show ofB r k 2 = 2 from e2)
  have ef : nI (sumN (lenF r false) (k + 1)) = nI (sumN (lenF r false) k) + 0 := by
    rw [show sumN (lenF r false) (k + 1) = sumN (lenF r false) k + lenF r false k from rfl]
    unfold lenF
    rw [if_neg (fun z => by rw [e2] at z; rcases z with z | z <;> exact absurd z (by decide))]
    exact (nI_add _ 0).symm
  iterate 3 refine wl_s rfl rfl ?_
  rw [nI_add, ← len_t]
  iterate 4 refine wl_s rfl rfl ?_
  refine wl_b rfl rfl (fun _ => ?_) (fun q => absurd (by decide) q)
  iterate 2 refine wl_s rfl rfl ?_
  rw [← ef]
  refine wl_s rfl rfl ?_
  refine wl_rw (by decide +kernel) ?_
  iterate 2 refine wl_s rfl rfl ?_
  refine wl_v (i := 145) (mj := mX10_sign) (na := 1) rfl (by decide +kernel) rfl ⟨Nat.le_of_ble_eq_true rfl, Nat.le_of_ble_eq_true rfl⟩ (by decide) (p_op_sign 1 18 C I _) (px_good (sawnC_ok I.1.1 hk)) (fun v9 h9 p9 => ?_)
  obtain ⟨rfl, C⟩ := p9
  rw [cl k, esg]
  refine wl_js (mj := mJ0_indexOf_0f7a4) (i9 := 148) (na := 1) (d' := 3) (i := 12) (As := [.int 102]) (rest := []) (rv := some (.int (rwI 102))) (by decide) (by decide +kernel) (fun sa va => met_Ji (by decide) (by decide) (by decide)) (by decide +kernel) (by decide +kernel) (by decide +kernel) (by decide) (by decide) ⟨by decide, by decide, by decide +kernel⟩ rfl (Nat.le_of_ble_eq_true rfl) (by decide) (by decide) rfl rfl ?_
  iterate 2 refine wl_s rfl rfl ?_
  refine wl_b rfl rfl (fun _ => ?_) (fun q => absurd (by decide) q)
  refine wl_s rfl rfl ?_
  refine wl_b rfl rfl (fun q => absurd q (by decide)) (fun _ => ?_)
  iterate 2 refine wl_s rfl rfl ?_
  refine wl_b rfl rfl (fun q => absurd q (by decide)) (fun _ => ?_)
  refine wl_s rfl rfl ?_
  refine wl_g rfl rfl ?_
  iterate 3 refine wl_s rfl rfl ?_
  refine wl_v (i := 134) (mj := mX10_blockOf) (na := 2) rfl (by decide +kernel) rfl ⟨Nat.le_of_ble_eq_true rfl, Nat.le_of_ble_eq_true rfl⟩ (by decide) (p_op_blockOf 1 18 C I.1.1 _ _) (px_good (blockC_ok (x := 7) I.1.1 hk (by decide))) (fun v9 h9 p9 => ?_)
  obtain ⟨rfl, C⟩ := p9
  rw [cl k, k7, e7]
  refine wl_b rfl rfl (fun q => absurd q (by decide)) (fun _ => ?_)
  refine wl_s rfl rfl ?_
  refine wl_g rfl rfl ?_
  refine wl_b rfl rfl (fun q => absurd q (by decide)) (fun _ => ?_)
  iterate 2 refine wl_s rfl rfl ?_
  refine wl_b rfl rfl (fun q => absurd q (by decide)) (fun _ => ?_)
  refine wl_s rfl rfl ?_
  refine wl_g rfl rfl ?_
  iterate 3 refine wl_s rfl rfl ?_
  refine wl_v (i := 137) (mj := mX10_massBits) (na := 2) rfl (by decide +kernel) rfl ⟨Nat.le_of_ble_eq_true rfl, Nat.le_of_ble_eq_true rfl⟩ (by decide) (p_op_massBits 1 13 C I hB _ _) (px_good (mbC_ok (n := 0) I.1.1 hk (by decide))) (fun v9 h9 p9 => ?_)
  obtain ⟨rfl, C⟩ := p9
  rw [cl k, k0, emb]
  refine wl_s rfl rfl ?_
  refine wl_b rfl rfl (fun q => absurd q (fun z => z rfl)) (fun _ => ?_)
  refine wl_s rfl rfl ?_
  refine wl_g rfl rfl ?_
  refine wl_b rfl rfl (fun q => absurd q (by decide)) (fun _ => ?_)
  refine wl_s rfl rfl ?_
  refine wl_g rfl rfl ?_
  refine wl_s rfl rfl ?_
  exact wl_sub (sub9 rfl rfl rfl rfl rfl rfl rfl rfl rfl) (KE _ C)
end
end
