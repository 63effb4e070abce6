noncomputable section
section
variable {p : Program} {l : Launch} {e : Env} {R : Room} {s : State} {m : MethodId} {args : Array Value} {below : List Frame} {meth : Method} {c : Code} {Q : State → Prop} {KC : Nat} {D : va_G} {ca : Nat → ClassId} {ad0 ad : Nat → Nat} {A : Nat → Prop} {E : EX} {G : Nat → Nat → Int32} {kc : Nat} {h : AH} {r : Nat → Int32} {w : Nat → UInt32} {S : Sv} {K : Hs} {q : Int32 × Int32} {T : Tx} {B : Nat}
theorem al_off (I : Inv B r w) {b k : Nat} (hk : k < CN r) {t9 : Nat} (hs3 : t9 < 3) (es : ofB r k 2 = nI t9) (hs : t9 ≠ 1) (C : CS h r w S K q T) (KE : ∀ (h : AH), CS h r w S K q T → WL p l e R s m args below meth c Q mL_areLoads 22 KC D ca ad0 A ad E G kc 12 [(0, .ref 31), (1, .int 1), (2, .int (nI b)), (3, .double (sumD r w (k + 1))), (5, .int (nI (k + 1)))] [] h) : WL p l e R s m args below meth c Q mL_areLoads 22 KC D ca ad0 A ad E G kc 12 [(0, .ref 31), (1, .int 1), (2, .int (nI b)), (3, .double (sumD r w k)), (5, .int (nI k))] [] h := by
  have h40 := I.1.1.2.1
  have esum : sumD r w (k + 1) = sumD r w k := if_neg (fun z => hs ((nI_eq (b := 1) (by omega) (by decide)).mp (es.symm.trans z)))
  rw [esum] at KE
  refine wl_s rfl rfl ?_
  refine wl_b rfl rfl (fun q => absurd q (by decide)) (fun _ => ?_)
  iterate 3 refine wl_s rfl rfl ?_
  refine wl_v (i := 131) (mj := mX10_account) (na := 1) rfl (by decide +kernel) rfl ⟨Nat.le_of_ble_eq_true rfl, Nat.le_of_ble_eq_true rfl⟩ (by decide) (p_op_account 1 17 C I _) (px_good (acctC_ok (n := 4) (by decide))) (fun v9 h9 p9 => ?_)
  obtain ⟨rfl, C⟩ := p9
  rw [acct_4 I.1.1]
  refine wl_b rfl rfl (fun q => absurd q (nI_ge hk (by omega))) (fun _ => ?_)
  iterate 3 refine wl_s rfl rfl ?_
  refine wl_v (i := 134) (mj := mX10_blockOf) (na := 2) rfl (by decide +kernel) rfl ⟨Nat.le_of_ble_eq_true rfl, Nat.le_of_ble_eq_true rfl⟩ (by decide) (p_op_blockOf 1 18 C I.1.1 _ _) (px_good (blockC_ok (x := 2) I.1.1 hk (by decide))) (fun v9 h9 p9 => ?_)
  obtain ⟨rfl, C⟩ := p9
  rw [cl k, k2, es]
  refine wl_s rfl rfl ?_
  refine wl_b rfl rfl (fun _ => ?_) (fun q => absurd (fun z => hs ((nI_eq (b := 1) (by omega) (by decide)).mp z)) q)
  refine wl_s rfl rfl ?_
  refine wl_g rfl rfl ?_
  rw [nI_1]
  exact wl_sub (sub5 rfl rfl rfl rfl rfl) (KE _ C)
theorem al_on1 (I : Inv B r w) {b k : Nat} (hk : k < CN r) (hs : ofB r k 2 = 1) (hb : b < CN r) (hbs : ofB r b 2 = 1) (hq : (qtF r w k).toNat ≤ (qtF r w b).toNat) (hkb : k < b) (hq2 : (qtF r w k).toNat < (qtF r w b).toNat) (C : CS h r w S K q T) (KE : ∀ (h : AH), CS h r w S K q T → WL p l e R s m args below meth c Q mL_areLoads 22 KC D ca ad0 A ad E G kc 12 [(0, .ref 31), (1, .int 1), (2, .int (nI b)), (3, .double (sumD r w (k + 1))), (5, .int (nI (k + 1)))] [] h) : WL p l e R s m args below meth c Q mL_areLoads 22 KC D ca ad0 A ad E G kc 12 [(0, .ref 31), (1, .int 1), (2, .int (nI b)), (3, .double (sumD r w k)), (5, .int (nI k))] [] h := by
  have h40 := I.1.1.2.1
  have hm := I.2.1.2.1
  have hw := I.1.1
  obtain ⟨p1, p2, p3, p4, -, p6⟩ := (I.1.1.2.2 k hk).2 hs
  have q6 := ((I.1.1.2.2 b hb).2 hbs).2.2.2.2.2
  have hl := ((I.1.1.2.2 k hk).1).2
  have hs2 : ofB r k 2 ≠ 2 := fun z => absurd (hs.symm.trans z) (by decide)
  have lk : (LDw r w k).toNat ≤ 2139095040 := Nat.le_of_lt (LDw_ok hw hm hk).1
  have lb : (LDw r w b).toNat ≤ 2139095040 := Nat.le_of_lt (LDw_ok hw hm hb).1
  have bk : (bornR r w k).toNat ≤ 2139095040 := Nat.le_of_lt (born_ok (kd := KD r k) (hm k hk hs) (show JT r k < 10 by omega)).2.1
  have bb : (bornR r w b).toNat ≤ 2139095040 := Nat.le_of_lt (born_ok (kd := KD r b) (hm b hb hbs) (show JT r b < 10 by omega)).2.1
  have qk := qt_le hw hm hk hs
  have qb := qt_le hw hm hb hbs
  obtain ⟨t1, t2⟩ : (FP.fmul 0x40000000 (w k)).toNat < 2139095040 ∧ (FP.fmul 0x40000000 (w k)).toNat ≤ (bornR r w k).toNat := born_2 (hm k hk hs) (by omega)
  have esum : sumD r w (k + 1) = FP.dadd (sumD r w k) (FP.f2d (w k)) := if_pos hs
  have n79 : nn (FP.fdiv (LDw r w b) (bornR r w b)) := f_nn qb
  have n112 : nn (FP.fdiv (LDw r w k) (bornR r w k)) := f_nn qk
  have n89 : nnD (FP.f2d (w k)) := d_nn (Nat.le_of_lt (f2d_m (hm k hk hs)).2.2)
  have n90 : nnD (FP.dadd (sumD r w k) (FP.f2d (w k))) := by
    rw [← esum]
    exact d_nn (Nat.le_of_lt (sum_ok hw hm (k + 1) hk).2.2.2)
  have n145 : nn (FP.fmul 0x40000000 (w k)) := f_nn (Nat.le_of_lt t1)
  have c116 : ¬ 0 < Op.cmpValue (FP.fcmp (FP.fdiv (LDw r w k) (bornR r w k)) (FP.fdiv (LDw r w b) (bornR r w b))) .g := fun z => by
    have z : (qtF r w b).toNat < (qtF r w k).toNat := (cmp_f (op := .g) qk qb).2.1.mp z
    omega
  have c133 : ¬ 0 ≤ Op.cmpValue (FP.fcmp (FP.fdiv (LDw r w k) (bornR r w k)) (FP.fdiv (LDw r w b) (bornR r w b))) .g := fun z => by
    have z : (qtF r w b).toNat ≤ (qtF r w k).toNat := (cmp_f (op := .g) qk qb).2.2.mp z
    omega
  have c147 : ¬ Op.cmpValue (FP.fcmp (bornR r w k) (FP.fmul 0x40000000 (w k))) .l < 0 := fun z => by
    have z := (cmp_f (op := .l) bk (Nat.le_of_lt t1)).1.mp z
    omega
  have c218 : ¬ nI (hgtN r (CO r k) 8) ≤ nI (CU r k) := by
    have eg : gAt r (CU r k) (CO r k) = nI k := I.1.2.2.1 (CU r k) (CO r k) k (by omega) (by omega) hk ⟨hs, rfl, Nat.le_refl _, by omega⟩
    have g1 := hgt_ge (n := 8) (show 0 ≤ gAt r (CU r k) (CO r k) by rw [eg]; exact nI_pos' (by omega)) (by omega)
    have g2 := hgtN_le r (CO r k) 8
    exact nI_ge (by omega) (by omega)
  refine wl_s rfl rfl ?_
  refine wl_b rfl rfl (fun q => absurd q (by decide)) (fun _ => ?_)
  iterate 3 refine wl_s rfl rfl ?_
  refine wl_v (i := 131) (mj := mX10_account) (na := 1) rfl (by decide +kernel) rfl ⟨Nat.le_of_ble_eq_true rfl, Nat.le_of_ble_eq_true rfl⟩ (by decide) (p_op_account 1 17 C I _) (px_good (acctC_ok (n := 4) (by decide))) (fun v9 h9 p9 => ?_)
  obtain ⟨rfl, C⟩ := p9
  rw [acct_4 I.1.1]
  refine wl_b rfl rfl (fun q => absurd q (nI_ge hk (by omega))) (fun _ => ?_)
  iterate 3 refine wl_s rfl rfl ?_
  refine wl_v (i := 134) (mj := mX10_blockOf) (na := 2) rfl (by decide +kernel) rfl ⟨Nat.le_of_ble_eq_true rfl, Nat.le_of_ble_eq_true rfl⟩ (by decide) (p_op_blockOf 1 18 C I.1.1 _ _) (px_good (blockC_ok (x := 2) I.1.1 hk (by decide))) (fun v9 h9 p9 => ?_)
  obtain ⟨rfl, C⟩ := p9
  rw [cl k, k2, hs]
  refine wl_s rfl rfl ?_
  refine wl_b rfl rfl (fun q => absurd q (fun z => z rfl)) (fun _ => ?_)
  iterate 3 refine wl_s rfl rfl ?_
  refine wl_v (i := 160) (mj := mX10_load) (na := 2) rfl (by decide +kernel) rfl ⟨Nat.le_of_ble_eq_true rfl, Nat.le_of_ble_eq_true rfl⟩ (by decide) (p_op_load 1 15 C I _ _) (px_good (loadC_ok I.1.1 hk hs)) (fun v9 h9 p9 => ?_)
  obtain ⟨rfl, C⟩ := p9
  rw [load_0 (by omega)]
  refine wl_i2f rfl (sni_ok lk) (Nat.le_of_ble_eq_true rfl) ?_
  rw [ti_ti]
  iterate 4 refine wl_s rfl rfl ?_
  refine wl_v (i := 160) (mj := mX10_load) (na := 2) rfl (by decide +kernel) rfl ⟨Nat.le_of_ble_eq_true rfl, Nat.le_of_ble_eq_true rfl⟩ (by decide) (p_op_load 1 15 C I _ _) (px_good (loadC_ok I.1.1 hk hs)) (fun v9 h9 p9 => ?_)
  obtain ⟨rfl, C⟩ := p9
  rw [load_1 (by omega)]
  refine wl_i2f rfl (sni_ok bk) (Nat.le_of_ble_eq_true rfl) ?_
  rw [ti_ti]
  iterate 4 refine wl_s rfl rfl ?_
  refine wl_v (i := 160) (mj := mX10_load) (na := 2) rfl (by decide +kernel) rfl ⟨Nat.le_of_ble_eq_true rfl, Nat.le_of_ble_eq_true rfl⟩ (by decide) (p_op_load 1 15 C I _ _) (px_good (loadC_ok I.1.1 hb hbs)) (fun v9 h9 p9 => ?_)
  obtain ⟨rfl, C⟩ := p9
  rw [load_0 (by omega)]
  refine wl_i2f rfl (sni_ok lb) (Nat.le_of_ble_eq_true rfl) ?_
  rw [ti_ti]
  iterate 3 refine wl_s rfl rfl ?_
  refine wl_v (i := 160) (mj := mX10_load) (na := 2) rfl (by decide +kernel) rfl ⟨Nat.le_of_ble_eq_true rfl, Nat.le_of_ble_eq_true rfl⟩ (by decide) (p_op_load 1 15 C I _ _) (px_good (loadC_ok I.1.1 hb hbs)) (fun v9 h9 p9 => ?_)
  obtain ⟨rfl, C⟩ := p9
  rw [load_1 (by omega)]
  refine wl_i2f rfl (sni_ok bb) (Nat.le_of_ble_eq_true rfl) ?_
  rw [ti_ti]
  refine wl_fdiv rfl (by assumption) ?_
  iterate 4 refine wl_s rfl rfl ?_
  refine wl_v (i := 170) (mj := mX10_mass) (na := 1) rfl (by decide +kernel) rfl ⟨Nat.le_of_ble_eq_true rfl, Nat.le_of_ble_eq_true rfl⟩ (by decide) (p_op_mass 1 18 C I.1.1 _) (px_good (massC_ok I.1.1 hk hs2)) (fun v9 h9 p9 => ?_)
  obtain ⟨rfl, C⟩ := p9
  rw [cl k]
  refine wl_f2d rfl (by assumption) ?_
  refine wl_dadd rfl (by assumption) ?_
  refine wl_s rfl rfl ?_
  rw [← esum]
  iterate 2 refine wl_s rfl rfl ?_
  refine wl_v (i := 173) (mj := mX10_loadAgain) (na := 1) rfl (by decide +kernel) rfl ⟨Nat.le_of_ble_eq_true rfl, Nat.le_of_ble_eq_true rfl⟩ (by decide) (p_op_loadAgain 1 8 C I _) (px_good (loadC_ok I.1.1 hk hs)) (fun v9 h9 p9 => ?_)
  obtain ⟨rfl, C⟩ := p9
  rw [load_0 (by omega)]
  iterate 3 refine wl_s rfl rfl ?_
  refine wl_v (i := 160) (mj := mX10_load) (na := 2) rfl (by decide +kernel) rfl ⟨Nat.le_of_ble_eq_true rfl, Nat.le_of_ble_eq_true rfl⟩ (by decide) (p_op_load 1 15 C I _ _) (px_good (loadC_ok I.1.1 hk hs)) (fun v9 h9 p9 => ?_)
  obtain ⟨rfl, C⟩ := p9
  rw [load_0 (by omega)]
  refine wl_b rfl rfl (fun q => absurd q (fun z => z rfl)) (fun _ => ?_)
  iterate 2 refine wl_s rfl rfl ?_
  refine wl_fdiv rfl (by assumption) ?_
  iterate 2 refine wl_s rfl rfl ?_
  refine wl_b rfl rfl (fun q => absurd q c116) (fun _ => ?_)
  iterate 2 refine wl_s rfl rfl ?_
  refine wl_b rfl rfl (fun q => absurd q (nI_ge hkb (by omega))) (fun _ => ?_)
  iterate 2 refine wl_s rfl rfl ?_
  refine wl_fdiv rfl (by assumption) ?_
  iterate 2 refine wl_s rfl rfl ?_
  refine wl_b rfl rfl (fun q => absurd q c133) (fun _ => ?_)
  iterate 4 refine wl_s rfl rfl ?_
  refine wl_v (i := 170) (mj := mX10_mass) (na := 1) rfl (by decide +kernel) rfl ⟨Nat.le_of_ble_eq_true rfl, Nat.le_of_ble_eq_true rfl⟩ (by decide) (p_op_mass 1 18 C I.1.1 _) (px_good (massC_ok I.1.1 hk hs2)) (fun v9 h9 p9 => ?_)
  obtain ⟨rfl, C⟩ := p9
  rw [cl k]
  refine wl_fmul rfl (by assumption) ?_
  refine wl_s rfl rfl ?_
  refine wl_b rfl rfl (fun q => absurd q c147) (fun _ => ?_)
  refine wl_s rfl rfl ?_
  refine wl_g rfl rfl ?_
  iterate 2 refine wl_s rfl rfl ?_
  refine wl_b rfl rfl (fun q => absurd q (by decide)) (fun _ => ?_)
  iterate 3 refine wl_s rfl rfl ?_
  refine wl_v (i := 176) (mj := mX10_isShady) (na := 2) rfl (by decide +kernel) rfl ⟨Nat.le_of_ble_eq_true rfl, Nat.le_of_ble_eq_true rfl⟩ (by decide) (p_op_isShady 1 17 C I.1.1 _ _) (px_good (shadyC_ok (y := 0) I.1.1 hk (by decide) hs)) (fun v9 h9 p9 => ?_)
  obtain ⟨rfl, C⟩ := p9
  rw [cl k, bIb, shad_0]
  refine wl_b rfl rfl (fun q => absurd q (by decide)) (fun _ => ?_)
  iterate 3 refine wl_s rfl rfl ?_
  refine wl_v (i := 176) (mj := mX10_isShady) (na := 2) rfl (by decide +kernel) rfl ⟨Nat.le_of_ble_eq_true rfl, Nat.le_of_ble_eq_true rfl⟩ (by decide) (p_op_isShady 1 17 C I.1.1 _ _) (px_good (shadyC_ok (y := 18) I.1.1 hk (by decide) hs)) (fun v9 h9 p9 => ?_)
  obtain ⟨rfl, C⟩ := p9
  rw [cl k, bIb, shad_18]
  refine wl_b rfl rfl (fun q => absurd q (by decide)) (fun _ => ?_)
  iterate 3 refine wl_s rfl rfl ?_
  refine wl_v (i := 176) (mj := mX10_isShady) (na := 2) rfl (by decide +kernel) rfl ⟨Nat.le_of_ble_eq_true rfl, Nat.le_of_ble_eq_true rfl⟩ (by decide) (p_op_isShady 1 17 C I.1.1 _ _) (px_good (shadyC_ok (y := 6) I.1.1 hk (by decide) hs)) (fun v9 h9 p9 => ?_)
  obtain ⟨rfl, C⟩ := p9
  iterate 3 refine wl_s rfl rfl ?_
  refine wl_v (i := 176) (mj := mX10_isShady) (na := 2) rfl (by decide +kernel) rfl ⟨Nat.le_of_ble_eq_true rfl, Nat.le_of_ble_eq_true rfl⟩ (by decide) (p_op_isShady 1 17 C I.1.1 _ _) (px_good (shadyC_ok (y := 11) I.1.1 hk (by decide) hs)) (fun v9 h9 p9 => ?_)
  obtain ⟨rfl, C⟩ := p9
  rw [cl k, shad_611]
  refine wl_b rfl rfl (fun q => absurd q (fun z => z rfl)) (fun _ => ?_)
  iterate 4 refine wl_s rfl rfl ?_
  refine wl_v (i := 134) (mj := mX10_blockOf) (na := 2) rfl (by decide +kernel) rfl ⟨Nat.le_of_ble_eq_true rfl, Nat.le_of_ble_eq_true rfl⟩ (by decide) (p_op_blockOf 1 18 C I.1.1 _ _) (px_good (blockC_ok (x := 3) I.1.1 hk (by decide))) (fun v9 h9 p9 => ?_)
  obtain ⟨rfl, C⟩ := p9
  rw [cl k, k3, p1]
  refine wl_v (i := 122) (mj := mX10_height) (na := 1) rfl (by decide +kernel) rfl ⟨Nat.le_of_ble_eq_true rfl, Nat.le_of_ble_eq_true rfl⟩ (by decide) (p_op_height 1 18 C _) (px_good (heightC_ok (by omega))) (fun v9 h9 p9 => ?_)
  obtain ⟨rfl, C⟩ := p9
  rw [cl (CO r k)]
  iterate 3 refine wl_s rfl rfl ?_
  refine wl_v (i := 134) (mj := mX10_blockOf) (na := 2) rfl (by decide +kernel) rfl ⟨Nat.le_of_ble_eq_true rfl, Nat.le_of_ble_eq_true rfl⟩ (by decide) (p_op_blockOf 1 18 C I.1.1 _ _) (px_good (blockC_ok (x := 4) I.1.1 hk (by decide))) (fun v9 h9 p9 => ?_)
  obtain ⟨rfl, C⟩ := p9
  rw [cl k, k4, p3]
  refine wl_b rfl rfl (fun q => absurd q c218) (fun _ => ?_)
  refine wl_s rfl rfl ?_
  refine wl_g rfl rfl ?_
  iterate 2 refine wl_s rfl rfl ?_
  refine wl_g rfl rfl ?_
  rw [nI_1]
  exact wl_sub (sub5 rfl rfl rfl rfl rfl) (KE _ C)
theorem al_on2 (I : Inv B r w) {b k : Nat} (hk : k < CN r) (hs : ofB r k 2 = 1) (hb : b < CN r) (hbs : ofB r b 2 = 1) (hq : (qtF r w k).toNat ≤ (qtF r w b).toNat) (hkb : b ≤ k) (C : CS h r w S K q T) (KE : ∀ (h : AH), CS h r w S K q T → WL p l e R s m args below meth c Q mL_areLoads 22 KC D ca ad0 A ad E G kc 12 [(0, .ref 31), (1, .int 1), (2, .int (nI b)), (3, .double (sumD r w (k + 1))), (5, .int (nI (k + 1)))] [] h) : WL p l e R s m args below meth c Q mL_areLoads 22 KC D ca ad0 A ad E G kc 12 [(0, .ref 31), (1, .int 1), (2, .int (nI b)), (3, .double (sumD r w k)), (5, .int (nI k))] [] h := by
  have h40 := I.1.1.2.1
  have hm := I.2.1.2.1
  have hw := I.1.1
  obtain ⟨p1, p2, p3, p4, -, p6⟩ := (I.1.1.2.2 k hk).2 hs
  have q6 := ((I.1.1.2.2 b hb).2 hbs).2.2.2.2.2
  have hl := ((I.1.1.2.2 k hk).1).2
  have hs2 : ofB r k 2 ≠ 2 := fun z => absurd (hs.symm.trans z) (by decide)
  have lk : (LDw r w k).toNat ≤ 2139095040 := Nat.le_of_lt (LDw_ok hw hm hk).1
  have lb : (LDw r w b).toNat ≤ 2139095040 := Nat.le_of_lt (LDw_ok hw hm hb).1
  have bk : (bornR r w k).toNat ≤ 2139095040 := Nat.le_of_lt (born_ok (kd := KD r k) (hm k hk hs) (show JT r k < 10 by omega)).2.1
  have bb : (bornR r w b).toNat ≤ 2139095040 := Nat.le_of_lt (born_ok (kd := KD r b) (hm b hb hbs) (show JT r b < 10 by omega)).2.1
  have qk := qt_le hw hm hk hs
  have qb := qt_le hw hm hb hbs
  obtain ⟨t1, t2⟩ : (FP.fmul 0x40000000 (w k)).toNat < 2139095040 ∧ (FP.fmul 0x40000000 (w k)).toNat ≤ (bornR r w k).toNat := born_2 (hm k hk hs) (by omega)
  have esum : sumD r w (k + 1) = FP.dadd (sumD r w k) (FP.f2d (w k)) := if_pos hs
  have n79 : nn (FP.fdiv (LDw r w b) (bornR r w b)) := f_nn qb
  have n112 : nn (FP.fdiv (LDw r w k) (bornR r w k)) := f_nn qk
  have n89 : nnD (FP.f2d (w k)) := d_nn (Nat.le_of_lt (f2d_m (hm k hk hs)).2.2)
  have n90 : nnD (FP.dadd (sumD r w k) (FP.f2d (w k))) := by
    rw [← esum]
    exact d_nn (Nat.le_of_lt (sum_ok hw hm (k + 1) hk).2.2.2)
  have n145 : nn (FP.fmul 0x40000000 (w k)) := f_nn (Nat.le_of_lt t1)
  have c116 : ¬ 0 < Op.cmpValue (FP.fcmp (FP.fdiv (LDw r w k) (bornR r w k)) (FP.fdiv (LDw r w b) (bornR r w b))) .g := fun z => by
    have z : (qtF r w b).toNat < (qtF r w k).toNat := (cmp_f (op := .g) qk qb).2.1.mp z
    omega
  have c147 : ¬ Op.cmpValue (FP.fcmp (bornR r w k) (FP.fmul 0x40000000 (w k))) .l < 0 := fun z => by
    have z := (cmp_f (op := .l) bk (Nat.le_of_lt t1)).1.mp z
    omega
  have c218 : ¬ nI (hgtN r (CO r k) 8) ≤ nI (CU r k) := by
    have eg : gAt r (CU r k) (CO r k) = nI k := I.1.2.2.1 (CU r k) (CO r k) k (by omega) (by omega) hk ⟨hs, rfl, Nat.le_refl _, by omega⟩
    have g1 := hgt_ge (n := 8) (show 0 ≤ gAt r (CU r k) (CO r k) by rw [eg]; exact nI_pos' (by omega)) (by omega)
    have g2 := hgtN_le r (CO r k) 8
    exact nI_ge (by omega) (by omega)
  refine wl_s rfl rfl ?_
  refine wl_b rfl rfl (fun q => absurd q (by decide)) (fun _ => ?_)
  iterate 3 refine wl_s rfl rfl ?_
  refine wl_v (i := 131) (mj := mX10_account) (na := 1) rfl (by decide +kernel) rfl ⟨Nat.le_of_ble_eq_true rfl, Nat.le_of_ble_eq_true rfl⟩ (by decide) (p_op_account 1 17 C I _) (px_good (acctC_ok (n := 4) (by decide))) (fun v9 h9 p9 => ?_)
  obtain ⟨rfl, C⟩ := p9
  rw [acct_4 I.1.1]
  refine wl_b rfl rfl (fun q => absurd q (nI_ge hk (by omega))) (fun _ => ?_)
  iterate 3 refine wl_s rfl rfl ?_
  refine wl_v (i := 134) (mj := mX10_blockOf) (na := 2) rfl (by decide +kernel) rfl ⟨Nat.le_of_ble_eq_true rfl, Nat.le_of_ble_eq_true rfl⟩ (by decide) (p_op_blockOf 1 18 C I.1.1 _ _) (px_good (blockC_ok (x := 2) I.1.1 hk (by decide))) (fun v9 h9 p9 => ?_)
  obtain ⟨rfl, C⟩ := p9
  rw [cl k, k2, hs]
  refine wl_s rfl rfl ?_
  refine wl_b rfl rfl (fun q => absurd q (fun z => z rfl)) (fun _ => ?_)
  iterate 3 refine wl_s rfl rfl ?_
  refine wl_v (i := 160) (mj := mX10_load) (na := 2) rfl (by decide +kernel) rfl ⟨Nat.le_of_ble_eq_true rfl, Nat.le_of_ble_eq_true rfl⟩ (by decide) (p_op_load 1 15 C I _ _) (px_good (loadC_ok I.1.1 hk hs)) (fun v9 h9 p9 => ?_)
  obtain ⟨rfl, C⟩ := p9
  rw [load_0 (by omega)]
  refine wl_i2f rfl (sni_ok lk) (Nat.le_of_ble_eq_true rfl) ?_
  rw [ti_ti]
  iterate 4 refine wl_s rfl rfl ?_
  refine wl_v (i := 160) (mj := mX10_load) (na := 2) rfl (by decide +kernel) rfl ⟨Nat.le_of_ble_eq_true rfl, Nat.le_of_ble_eq_true rfl⟩ (by decide) (p_op_load 1 15 C I _ _) (px_good (loadC_ok I.1.1 hk hs)) (fun v9 h9 p9 => ?_)
  obtain ⟨rfl, C⟩ := p9
  rw [load_1 (by omega)]
  refine wl_i2f rfl (sni_ok bk) (Nat.le_of_ble_eq_true rfl) ?_
  rw [ti_ti]
  iterate 4 refine wl_s rfl rfl ?_
  refine wl_v (i := 160) (mj := mX10_load) (na := 2) rfl (by decide +kernel) rfl ⟨Nat.le_of_ble_eq_true rfl, Nat.le_of_ble_eq_true rfl⟩ (by decide) (p_op_load 1 15 C I _ _) (px_good (loadC_ok I.1.1 hb hbs)) (fun v9 h9 p9 => ?_)
  obtain ⟨rfl, C⟩ := p9
  rw [load_0 (by omega)]
  refine wl_i2f rfl (sni_ok lb) (Nat.le_of_ble_eq_true rfl) ?_
  rw [ti_ti]
  iterate 3 refine wl_s rfl rfl ?_
  refine wl_v (i := 160) (mj := mX10_load) (na := 2) rfl (by decide +kernel) rfl ⟨Nat.le_of_ble_eq_true rfl, Nat.le_of_ble_eq_true rfl⟩ (by decide) (p_op_load 1 15 C I _ _) (px_good (loadC_ok I.1.1 hb hbs)) (fun v9 h9 p9 => ?_)
  obtain ⟨rfl, C⟩ := p9
  rw [load_1 (by omega)]
  refine wl_i2f rfl (sni_ok bb) (Nat.le_of_ble_eq_true rfl) ?_
  rw [ti_ti]
  refine wl_fdiv rfl (by assumption) ?_
  iterate 4 refine wl_s rfl rfl ?_
  refine wl_v (i := 170) (mj := mX10_mass) (na := 1) rfl (by decide +kernel) rfl ⟨Nat.le_of_ble_eq_true rfl, Nat.le_of_ble_eq_true rfl⟩ (by decide) (p_op_mass 1 18 C I.1.1 _) (px_good (massC_ok I.1.1 hk hs2)) (fun v9 h9 p9 => ?_)
  obtain ⟨rfl, C⟩ := p9
  rw [cl k]
  refine wl_f2d rfl (by assumption) ?_
  refine wl_dadd rfl (by assumption) ?_
  refine wl_s rfl rfl ?_
  rw [← esum]
  iterate 2 refine wl_s rfl rfl ?_
  refine wl_v (i := 173) (mj := mX10_loadAgain) (na := 1) rfl (by decide +kernel) rfl ⟨Nat.le_of_ble_eq_true rfl, Nat.le_of_ble_eq_true rfl⟩ (by decide) (p_op_loadAgain 1 8 C I _) (px_good (loadC_ok I.1.1 hk hs)) (fun v9 h9 p9 => ?_)
  obtain ⟨rfl, C⟩ := p9
  rw [load_0 (by omega)]
  iterate 3 refine wl_s rfl rfl ?_
  refine wl_v (i := 160) (mj := mX10_load) (na := 2) rfl (by decide +kernel) rfl ⟨Nat.le_of_ble_eq_true rfl, Nat.le_of_ble_eq_true rfl⟩ (by decide) (p_op_load 1 15 C I _ _) (px_good (loadC_ok I.1.1 hk hs)) (fun v9 h9 p9 => ?_)
  obtain ⟨rfl, C⟩ := p9
  rw [load_0 (by omega)]
  refine wl_b rfl rfl (fun q => absurd q (fun z => z rfl)) (fun _ => ?_)
  iterate 2 refine wl_s rfl rfl ?_
  refine wl_fdiv rfl (by assumption) ?_
  iterate 2 refine wl_s rfl rfl ?_
  refine wl_b rfl rfl (fun q => absurd q c116) (fun _ => ?_)
  iterate 2 refine wl_s rfl rfl ?_
  refine wl_b rfl rfl (fun _ => ?_) (fun q => absurd (nI_le hkb (by omega)) q)
  iterate 4 refine wl_s rfl rfl ?_
  refine wl_v (i := 170) (mj := mX10_mass) (na := 1) rfl (by decide +kernel) rfl ⟨Nat.le_of_ble_eq_true rfl, Nat.le_of_ble_eq_true rfl⟩ (by decide) (p_op_mass 1 18 C I.1.1 _) (px_good (massC_ok I.1.1 hk hs2)) (fun v9 h9 p9 => ?_)
  obtain ⟨rfl, C⟩ := p9
  rw [cl k]
  refine wl_fmul rfl (by assumption) ?_
  refine wl_s rfl rfl ?_
  refine wl_b rfl rfl (fun q => absurd q c147) (fun _ => ?_)
  refine wl_s rfl rfl ?_
  refine wl_g rfl rfl ?_
  iterate 2 refine wl_s rfl rfl ?_
  refine wl_b rfl rfl (fun q => absurd q (by decide)) (fun _ => ?_)
  iterate 3 refine wl_s rfl rfl ?_
  refine wl_v (i := 176) (mj := mX10_isShady) (na := 2) rfl (by decide +kernel) rfl ⟨Nat.le_of_ble_eq_true rfl, Nat.le_of_ble_eq_true rfl⟩ (by decide) (p_op_isShady 1 17 C I.1.1 _ _) (px_good (shadyC_ok (y := 0) I.1.1 hk (by decide) hs)) (fun v9 h9 p9 => ?_)
  obtain ⟨rfl, C⟩ := p9
  rw [cl k, bIb, shad_0]
  refine wl_b rfl rfl (fun q => absurd q (by decide)) (fun _ => ?_)
  iterate 3 refine wl_s rfl rfl ?_
  refine wl_v (i := 176) (mj := mX10_isShady) (na := 2) rfl (by decide +kernel) rfl ⟨Nat.le_of_ble_eq_true rfl, Nat.le_of_ble_eq_true rfl⟩ (by decide) (p_op_isShady 1 17 C I.1.1 _ _) (px_good (shadyC_ok (y := 18) I.1.1 hk (by decide) hs)) (fun v9 h9 p9 => ?_)
  obtain ⟨rfl, C⟩ := p9
  rw [cl k, bIb, shad_18]
  refine wl_b rfl rfl (fun q => absurd q (by decide)) (fun _ => ?_)
  iterate 3 refine wl_s rfl rfl ?_
  refine wl_v (i := 176) (mj := mX10_isShady) (na := 2) rfl (by decide +kernel) rfl ⟨Nat.le_of_ble_eq_true rfl, Nat.le_of_ble_eq_true rfl⟩ (by decide) (p_op_isShady 1 17 C I.1.1 _ _) (px_good (shadyC_ok (y := 6) I.1.1 hk (by decide) hs)) (fun v9 h9 p9 => ?_)
  obtain ⟨rfl, C⟩ := p9
  iterate 3 refine wl_s rfl rfl ?_
  refine wl_v (i := 176) (mj := mX10_isShady) (na := 2) rfl (by decide +kernel) rfl ⟨Nat.le_of_ble_eq_true rfl, Nat.le_of_ble_eq_true rfl⟩ (by decide) (p_op_isShady 1 17 C I.1.1 _ _) (px_good (shadyC_ok (y := 11) I.1.1 hk (by decide) hs)) (fun v9 h9 p9 => ?_)
  obtain ⟨rfl, C⟩ := p9
  rw [cl k, shad_611]
  refine wl_b rfl rfl (fun q => absurd q (fun z => z rfl)) (fun _ => ?_)
  iterate 4 refine wl_s rfl rfl ?_
  refine wl_v (i := 134) (mj := mX10_blockOf) (na := 2) rfl (by decide +kernel) rfl ⟨Nat.le_of_ble_eq_true rfl, Nat.le_of_ble_eq_true rfl⟩ (by decide) (p_op_blockOf 1 18 C I.1.1 _ _) (px_good (blockC_ok (x := 3) I.1.1 hk (by decide))) (fun v9 h9 p9 => ?_)
  obtain ⟨rfl, C⟩ := p9
  rw [cl k, k3, p1]
  refine wl_v (i := 122) (mj := mX10_height) (na := 1) rfl (by decide +kernel) rfl ⟨Nat.le_of_ble_eq_true rfl, Nat.le_of_ble_eq_true rfl⟩ (by decide) (p_op_height 1 18 C _) (px_good (heightC_ok (by omega))) (fun v9 h9 p9 => ?_)
  obtain ⟨rfl, C⟩ := p9
  rw [cl (CO r k)]
  iterate 3 refine wl_s rfl rfl ?_
  refine wl_v (i := 134) (mj := mX10_blockOf) (na := 2) rfl (by decide +kernel) rfl ⟨Nat.le_of_ble_eq_true rfl, Nat.le_of_ble_eq_true rfl⟩ (by decide) (p_op_blockOf 1 18 C I.1.1 _ _) (px_good (blockC_ok (x := 4) I.1.1 hk (by decide))) (fun v9 h9 p9 => ?_)
  obtain ⟨rfl, C⟩ := p9
  rw [cl k, k4, p3]
  refine wl_b rfl rfl (fun q => absurd q c218) (fun _ => ?_)
  refine wl_s rfl rfl ?_
  refine wl_g rfl rfl ?_
  iterate 2 refine wl_s rfl rfl ?_
  refine wl_g rfl rfl ?_
  rw [nI_1]
  exact wl_sub (sub5 rfl rfl rfl rfl rfl) (KE _ C)
theorem al_loop (I : Inv B r w) {b : Nat} (hb : b < CN r) (hbs : ofB r b 2 = 1) (hmx : ∀ k, k < CN r → ofB r k 2 = 1 → (qtF r w k).toNat ≤ (qtF r w b).toNat ∧ (k < b → (qtF r w k).toNat < (qtF r w b).toNat)) (KE : ∀ (h : AH), CS h r w S K q T → WL p l e R s m args below meth c Q mL_areLoads 22 KC D ca ad0 A ad E G kc 233 [(0, .ref 31), (1, .int 1), (3, .double (sumD r w (CN r)))] [] h) : ∀ (n k : Nat) (h : AH), k + n = CN r → CS h r w S K q T → WL p l e R s m args below meth c Q mL_areLoads 22 KC D ca ad0 A ad E G kc 12 [(0, .ref 31), (1, .int 1), (2, .int (nI b)), (3, .double (sumD r w k)), (5, .int (nI k))] [] h := by
  have h40 := I.1.1.2.1
  intro n
  induction n with
  | zero =>
    intro k h hn C
    have hk : k = CN r := by omega
    subst hk
    refine wl_s rfl rfl ?_
    refine wl_b rfl rfl (fun q => absurd q (by decide)) (fun _ => ?_)
    iterate 3 refine wl_s rfl rfl ?_
    refine wl_v (i := 131) (mj := mX10_account) (na := 1) rfl (by decide +kernel) rfl ⟨Nat.le_of_ble_eq_true rfl, Nat.le_of_ble_eq_true rfl⟩ (by decide) (p_op_account 1 17 C I _) (px_good (acctC_ok (n := 4) (by decide))) (fun v9 h9 p9 => ?_)
    obtain ⟨rfl, C⟩ := p9
    rw [acct_4 I.1.1]
    refine wl_b rfl rfl (fun _ => ?_) (fun q => absurd (Int32.le_refl _) q)
    exact wl_sub (sub3 rfl rfl rfl) (KE _ C)
  | succ n ih =>
    intro k h hn C
    have hk : k < CN r := by omega
    by_cases hs : ofB r k 2 = 1
    · obtain ⟨m1, m2⟩ := hmx k hk hs
      by_cases hkb : k < b
      · exact al_on1 I hk hs hb hbs m1 hkb (m2 hkb) C (fun h C => ih (k + 1) h (by omega) C)
      · exact al_on2 I hk hs hb hbs m1 (by omega) C (fun h C => ih (k + 1) h (by omega) C)
    · rcases I.1.s3 hk with z | z | z
      · exact al_off I hk (t9 := 0) (by decide) z (by decide) C (fun h C => ih (k + 1) h (by omega) C)
      · exact absurd z hs
      · exact al_off I hk (t9 := 2) (by decide) z (by decide) C (fun h C => ih (k + 1) h (by omega) C)
end
set_option maxHeartbeats 1000000 in
/-- loads by two ways, the worst of them, shadows and heights, and the mean -/
theorem c_areLoads {l : Launch} (hfl : l.stackTraces = false) {h : AH} {r : Nat → Int32} {w : Nat → UInt32} {S : Sv} {K : Hs} {q : Int32 × Int32} {T : Tx} {B : Nat} (C : CS h r w S K q T) (I : Inv B r w) (hon : onN r ≠ 0) : LX l mL_areLoads 22 2 [.ref 31] h (fun v h' => v = some (.int 1) ∧ CS h' r w S K q T) := by
  have hm := I.2.1.2.1
  have hw := I.1.1
  have h40 := hw.2.1
  have hon9 := onN_le hw
  have hmc : meanC r = 0 := if_neg hon
  have hwc : worstC r = 0 := if_neg hon
  cases hst : wstN r w (CN r) with
  | none => exact absurd hst (worst_C.mp hwc)
  | some b =>
  obtain ⟨hb, hbs⟩ := wstN_ok _ _ hst
  have mo := mean_ok hw hm (by omega)
  have n264 : nnD (FP.ddiv (sumD r w (CN r)) (FP.i2d (nI (onN r)))) := d_nn (Nat.le_of_lt mo.2)
  refine lc_mk hfl (by decide) (Nat.le_of_ble_eq_true rfl) (fun p e R s m args below meth c D ca A ad => ?_)
  show WL p l e R s m args below meth c _ mL_areLoads 22 2 D ca ad A ad [] _ 0 0 [(0, .ref 31)] [] h
  iterate 3 refine wl_s rfl rfl ?_
  refine wl_w (mj := mL_worst) (na := 1) rfl (by decide) (by decide +kernel) (by decide +kernel) (by decide +kernel) (by decide +kernel) rfl (Nat.le_of_ble_eq_true rfl) (by decide) (by decide) (l_worst hfl C I) (fun v9 h9 p9 => ?_)
  obtain ⟨g3, C⟩ := p9
  obtain rfl := g3.elim (fun z => z.2) (fun z => absurd hwc z.1)
  rw [hst]
  iterate 5 refine wl_s rfl rfl ?_
  refine wl_sub (sub5 rfl rfl rfl rfl rfl) (al_loop I hb hbs (fun k hk hs => wst_max hw hm (CN r) (Nat.le_refl _) b hst k hk hs) (fun h C => ?_) (CN r) 0 _ (Nat.zero_add _) C)
  refine wl_s rfl rfl ?_
  refine wl_b rfl rfl (fun q => absurd q (by decide)) (fun _ => ?_)
  refine wl_s rfl rfl ?_
  refine wl_w (mj := mL_meanBits) (na := 1) rfl (by decide) (by decide +kernel) (by decide +kernel) (by decide +kernel) (by decide +kernel) rfl (Nat.le_of_ble_eq_true rfl) (by decide) (by decide) (l_meanBits hfl C I) (fun v9 h9 p9 => ?_)
  obtain ⟨g3, C⟩ := p9
  obtain rfl := g3.elim (fun z => z.2) (fun z => absurd hmc z.1)
  iterate 2 refine wl_s rfl rfl ?_
  refine wl_v (i := 131) (mj := mX10_account) (na := 1) rfl (by decide +kernel) rfl ⟨Nat.le_of_ble_eq_true rfl, Nat.le_of_ble_eq_true rfl⟩ (by decide) (p_op_account 1 17 C I _) (px_good (acctC_ok (n := 6) (by decide))) (fun v9 h9 p9 => ?_)
  obtain ⟨rfl, C⟩ := p9
  rw [acct_6]
  refine wl_b rfl rfl (fun _ => ?_) (fun q => absurd (fun z => hon ((nI_z (by omega)).mp z)) q)
  iterate 3 refine wl_s rfl rfl ?_
  refine wl_v (i := 131) (mj := mX10_account) (na := 1) rfl (by decide +kernel) rfl ⟨Nat.le_of_ble_eq_true rfl, Nat.le_of_ble_eq_true rfl⟩ (by decide) (p_op_account 1 17 C I _) (px_good (acctC_ok (n := 6) (by decide))) (fun v9 h9 p9 => ?_)
  obtain ⟨rfl, C⟩ := p9
  rw [acct_6]
  refine wl_s rfl rfl ?_
  refine wl_ddiv rfl (by assumption) ?_
  refine wl_xc rfl rfl ⟨Nat.le_of_ble_eq_true rfl, Nat.le_of_ble_eq_true rfl⟩ (by decide) (wm_dbits 19 (Nat.le_of_lt mo.2) _) (fun rv9 h9 p9 => ?_)
  obtain ⟨rfl, rfl⟩ := p9
  refine wl_s rfl rfl ?_
  refine wl_b rfl rfl (fun q => absurd q (fun z => z lgS)) (fun _ => ?_)
  refine wl_s rfl rfl ?_
  refine wl_g rfl rfl ?_
  refine wl_q (by decide) rfl (fun k q => by cases q) ?_
  exact ⟨rfl, C⟩
end
