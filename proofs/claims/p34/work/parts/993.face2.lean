-- needs: 992
noncomputable section
theorem PX.inl {f : Int32} {en : Nat} {Gd : Option Value → AH → Prop} {Bd : AH → Prop} {v : Option Value} {h : AH} (p : PX f en Gd Bd (.inl (v, h))) : f = 0 ∧ Gd v h := p
theorem PX.inr {f : Int32} {en e2 : Nat} {Gd : Option Value → AH → Prop} {Bd : AH → Prop} {h : AH} (p : PX f en Gd Bd (.inr (e2, h))) : f ≠ 0 ∧ e2 = en ∧ Bd h := p
def flN (f : Int32) : Nat := if f = 1 then 0 else 3
theorem sawn_0 {r : Nat → Int32} {x : Int32} (z : sawnC r x = 0) : 0 ≤ x ∧ x ≤ r 4 - 1 := by
  by_cases c : 0 ≤ x ∧ x ≤ r 4 - 1
  · exact c
  · unfold sawnC at z; rw [if_neg c] at z; exact absurd z (by decide)
theorem sawn_1 {r : Nat → Int32} {x : Int32} (z : sawnC r x ≠ 0) : ¬ (0 ≤ x ∧ x ≤ r 4 - 1) := fun c => z (if_pos c)
theorem wall_0 {r : Nat → Int32} {b : Nat} (z : wallC r b = 0) : ofB r b 2 = 1 := by
  by_cases c : ofB r b 2 = 1
  · exact c
  · unfold wallC at z; rw [if_neg c] at z; exact absurd z (by decide)
theorem wall_1 {r : Nat → Int32} {b : Nat} (z : wallC r b ≠ 0) : ¬ ofB r b 2 = 1 := fun c => z (if_pos c)
theorem left_0 {x : Int32} (z : leftC x = 0) : 0 ≤ x ∧ x ≤ 48 := by
  by_cases c : 0 ≤ x ∧ x ≤ 48
  · exact c
  · unfold leftC at z; rw [if_neg c] at z; exact absurd z (by decide)
theorem left_1 {x : Int32} (z : leftC x ≠ 0) : ¬ (0 ≤ x ∧ x ≤ 48) := fun c => z (if_pos c)
theorem lt_12 {y : Int32} : y < 12 ↔ y ≤ 11 := by rw [Int32.lt_iff_toInt_lt, Int32.le_iff_toInt_le]; show _ < (12 : Int) ↔ _ ≤ (11 : Int); omega
theorem lt_8 {y : Int32} : y < 8 ↔ y ≤ 7 := by rw [Int32.lt_iff_toInt_lt, Int32.le_iff_toInt_le]; show _ < (8 : Int) ↔ _ ≤ (7 : Int); omega
theorem lt_24 {y : Int32} : y < 24 ↔ y ≤ 23 := by rw [Int32.lt_iff_toInt_lt, Int32.le_iff_toInt_le]; show _ < (24 : Int) ↔ _ ≤ (23 : Int); omega
theorem lt_2 {y : Int32} : y < 2 ↔ y ≤ 1 := by rw [Int32.lt_iff_toInt_lt, Int32.le_iff_toInt_le]; show _ < (2 : Int) ↔ _ ≤ (1 : Int); omega
theorem lt_5 {y : Int32} : y < 5 ↔ y ≤ 4 := by rw [Int32.lt_iff_toInt_lt, Int32.le_iff_toInt_le]; show _ < (5 : Int) ↔ _ ≤ (4 : Int); omega
theorem sgN_ok (r : Nat → Int32) (b : Nat) : kOk 2 (sgN r b) = true := by
  unfold sgN
  split
  · decide
  · split
    · decide
    · split
      · decide
      · split
        · decide
        · split <;> decide
section
variable {h : AH} {r : Nat → Int32} {w : Nat → UInt32} {S : Sv} {K : Hs} {q : Int32 × Int32} {T : Tx} {B : Nat}
theorem CS.f97 {f : Nat → UInt32} (C : CS h r w S K q T) : CS (hFr h 97 f) r w S K q T := C.to (fun a ha => ⟨rfl, hFr_ne _ _ (by omega)⟩) (C.1.fr (by decide))
theorem CS.i99 {f : Nat → Int32} (C : CS h r w S K q T) : CS (hIr h 99 f) r w S K q T := C.to (fun a ha => ⟨hIr_ne (by omega), rfl⟩) (C.1.ir (by omega))
theorem p_op_blockOf (n d : Nat) (C : CS h r w S K q T) (hw : Wel r) (x f : Int32) : TM (n + 2) (d + 2) mX10_blockOf [.ref 31, .int x, .int f] h (PX (blockC r x f) (flE (blockC r x f)) (fun v h' => v = some (.int (ofB r x.toNatClampNeg f.toNatClampNeg)) ∧ CS h' r w S K q T) (fun h' => CS h' r w S K q T)) := by
  have h40 := hw.2.1
  have A := p_reqSawn n d C hw x
  show TX _ _ _ 0 [(0, _), (1, _), (2, _)] [] _ _
  iterate 2 refine et_s rfl ?_
  refine et_7 (i := 79) (mj := mX10_requireSawn) 1 rfl (by decide +kernel) rfl ⟨Nat.le_of_ble_eq_true rfl, Nat.le_of_ble_eq_true rfl⟩ (A) (fun rv9 h9 p9 => ?_) (fun en9 h9 p9 => (by obtain ⟨z1, z2, rfl⟩ := PX.inr p9; have e : blockC r x f = 1 := if_pos (sawn_1 z1); exact PX.er (by rw [e]; decide) (by rw [e, z2]; rfl) C))
  obtain ⟨z1, rfl, rfl⟩ := PX.inl p9
  have c1 := sawn_0 z1
  refine et_s rfl ?_
  refine et_b rfl rfl (fun c6 => ?_) (fun c6 => ?_)
  · refine et_t 1 rfl (by decide +kernel) (Nat.le_of_ble_eq_true rfl) ?_
    have e : blockC r x f = 2 := by unfold blockC; rw [if_neg (fun z => z c1), if_neg (fun z => absurd z.1 (Int32.not_le.mpr c6))]
    exact PX.er (by rw [e]; decide) (by rw [e]; rfl) C
  · iterate 2 refine et_s rfl ?_
    refine et_b rfl rfl (fun c12 => ?_) (fun c12 => ?_)
    · obtain ⟨b, hb, rfl⟩ := (blk_or hw x).resolve_right (fun z => z c1)
      obtain ⟨n9, hn, rfl⟩ := nI_of2 (M := 7) (n := 7) rfl c6 c12
      have N := p_numberOf d C.1 hw hb (x := n9) (by omega)
      iterate 4 refine et_s rfl ?_
      refine et_c rfl rfl ⟨Nat.le_of_ble_eq_true rfl, Nat.le_of_ble_eq_true rfl⟩ (N) ?_
      refine et_q rfl ?_
      exact PX.ok (by unfold blockC; rw [if_neg (fun z => z c1), if_pos ⟨Int32.not_lt.mp c6, c12⟩]) ⟨by rw [nI_clamp (by omega), nI_clamp (by omega)], C⟩
    · refine et_t 1 rfl (by decide +kernel) (Nat.le_of_ble_eq_true rfl) ?_
      have e : blockC r x f = 2 := by unfold blockC; rw [if_neg (fun z => z c1), if_neg (fun z => c12 z.2)]
      exact PX.er (by rw [e]; decide) (by rw [e]; rfl) C
theorem p_op_mass (n d : Nat) (C : CS h r w S K q T) (hw : Wel r) (x : Int32) : TM (n + 2) (d + 2) mX10_mass [.ref 31, .int x] h (PX (massC r x) (flN (massC r x)) (fun v h' => v = some (.float (w x.toNatClampNeg)) ∧ CS h' r w S K q T) (fun h' => CS h' r w S K q T)) := by
  have h40 := hw.2.1
  have A := p_reqSawn n d C hw x
  show TX _ _ _ 0 [(0, _), (1, _)] [] _ _
  iterate 2 refine et_s rfl ?_
  refine et_7 (i := 79) (mj := mX10_requireSawn) 1 rfl (by decide +kernel) rfl ⟨Nat.le_of_ble_eq_true rfl, Nat.le_of_ble_eq_true rfl⟩ (A) (fun rv9 h9 p9 => ?_) (fun en9 h9 p9 => (by obtain ⟨z1, z2, rfl⟩ := PX.inr p9; have e : massC r x = 1 := if_pos (sawn_1 z1); exact PX.er (by rw [e]; decide) (by rw [e, z2]; rfl) C))
  obtain ⟨z1, rfl, rfl⟩ := PX.inl p9
  have c1 := sawn_0 z1
  obtain ⟨b, hb, rfl⟩ := (blk_or hw x).resolve_right (fun z => z c1)
  have G := p_gone (d + 1) palL32 C.1 h40 hb
  have M := p_massOf (d + 1) palL32 (b := b) (by omega) h9
  rw [show h9.2.1 (32 + 4) b = w b from C.1.ms hb] at M
  iterate 3 refine et_s rfl ?_
  refine et_c rfl rfl ⟨Nat.le_of_ble_eq_true rfl, Nat.le_of_ble_eq_true rfl⟩ (G) ?_
  refine et_b rfl rfl (fun c13 => ?_) (fun c13 => ?_)
  · iterate 3 refine et_s rfl ?_
    refine et_c rfl rfl ⟨Nat.le_of_ble_eq_true rfl, Nat.le_of_ble_eq_true rfl⟩ (M) ?_
    refine et_q rfl ?_
    exact PX.ok (by unfold massC; rw [if_neg (fun z => z c1), nI_clamp (by omega), if_neg (bI_eq.mp c13)]) ⟨by rw [nI_clamp (by omega)], C⟩
  · refine et_t 3 rfl (by decide +kernel) (Nat.le_of_ble_eq_true rfl) ?_
    have e : massC r (nI b) = 2 := by unfold massC; rw [if_neg (fun z => z c1), nI_clamp (by omega), if_pos (bI_ne.mp c13)]
    exact PX.er (by rw [e]; decide) (by rw [e]; rfl) C
theorem ld_bits (hw : Wel r) (hm : MasW r w) {b : Nat} (hb : b < CN r) : ((LDw r w b).toNat = 0 ∨ 2 ^ 23 ≤ (LDw r w b).toNat) ∧ (LDw r w b).toNat < 2139095040 := by
  have ok := LDw_ok hw hm hb
  exact ⟨ok.2.1.imp id (fun z => Nat.le_trans (by decide) z), ok.1⟩
theorem born_bits (hw : Wel r) (hm : MasW r w) {b : Nat} (hb : b < CN r) (hs : ofB r b 2 = 1) : ((bornR r w b).toNat = 0 ∨ 2 ^ 23 ≤ (bornR r w b).toNat) ∧ (bornR r w b).toNat < 2139095040 := by
  have ok := (hw.2.2 b hb).2 hs
  have bo := born_ok (kd := KD r b) (j := JT r b) (hm b hb hs) (by have := ok.2.2.2.2.2; omega)
  exact ⟨Or.inr (Nat.le_trans (by decide) bo.2.2.1), bo.2.1⟩
theorem p_op_load (n d : Nat) (C : CS h r w S K q T) (I : Inv B r w) (x ag : Int32) : TM (n + 3) (d + 5) mX10_load [.ref 31, .int x, .int ag] h (PX (loadC r x) (flN (loadC r x)) (fun v h' => v = some (.int (loadV r w x ag).toInt32) ∧ CS h' r w S K q T) (fun h' => CS h' r w S K q T)) := by
  have hw := I.1.1
  have hm := I.2.1.2.1
  have h40 := hw.2.1
  have A := p_reqSawn (n + 1) (d + 3) C hw x
  have U := p_sumUp (d + 1) palL32 (m := 96) ⟨rfl, rfl⟩ (by decide) C.1 I.1 hm
  show TX _ _ _ 0 [(0, _), (1, _), (2, _)] [] _ _
  iterate 2 refine et_s rfl ?_
  refine et_7 (i := 79) (mj := mX10_requireSawn) 1 rfl (by decide +kernel) rfl ⟨Nat.le_of_ble_eq_true rfl, Nat.le_of_ble_eq_true rfl⟩ (A) (fun rv9 h9 p9 => ?_) (fun en9 h9 p9 => (by obtain ⟨z1, z2, rfl⟩ := PX.inr p9; have e : loadC r x = 1 := if_pos (sawn_1 z1); exact PX.er (by rw [e]; decide) (by rw [e, z2]; rfl) C))
  obtain ⟨z1, rfl, rfl⟩ := PX.inl p9
  have c1 := sawn_0 z1
  obtain ⟨b, hb, rfl⟩ := (blk_or hw x).resolve_right (fun z => z c1)
  have W := p_reqWall n (d + 3) C hw hb
  iterate 2 refine et_s rfl ?_
  refine et_7 (i := 100) (mj := mX10_requireOnWall) 1 rfl (by decide +kernel) rfl ⟨Nat.le_of_ble_eq_true rfl, Nat.le_of_ble_eq_true rfl⟩ (W) (fun rv9 h9 p9 => ?_) (fun en9 h9 p9 => (by obtain ⟨z2, z3, rfl⟩ := PX.inr p9; have e : loadC r (nI b) = 2 := (by unfold loadC; rw [if_neg (fun z => z c1), nI_clamp (by omega), if_neg (wall_1 z2)]); exact PX.er (by rw [e]; decide) (by rw [e, z3]; rfl) C))
  obtain ⟨z2, rfl, rfl⟩ := PX.inl p9
  have c2 := wall_0 z2
  have e0 : loadC r (nI b) = 0 := by unfold loadC; rw [if_neg (fun z => z c1), nI_clamp (by omega), if_pos c2]
  have BB := p_borneBy (d + 3) palL32 C.1 hw hm hb c2
  have q1 := ld_bits hw hm hb
  have q2 := born_bits hw hm hb c2
  have O1 := p_loadOf (d + 4) (m := 96) ⟨rfl, rfl⟩ (b := b) (by omega) (hFr h9 97 (loadsR r w (h9.2.1 97)))
  rw [show (hFr h9 97 (loadsR r w (h9.2.1 97))).2.1 (96 + 1) b = LDw r w b by rw [show (hFr h9 97 (loadsR r w (h9.2.1 97))).2.1 (96 + 1) = loadsR r w (h9.2.1 97) from hFr_at]; exact loadsR_at hw hm hb c2] at O1
  refine et_s rfl ?_
  refine et_b rfl rfl (fun c11 => ?_) (fun c11 => ?_)
  · iterate 4 refine et_s rfl ?_
    refine et_c rfl rfl ⟨Nat.le_of_ble_eq_true rfl, Nat.le_of_ble_eq_true rfl⟩ (U) ?_
    iterate 3 refine et_s rfl ?_
    refine et_c rfl rfl ⟨Nat.le_of_ble_eq_true rfl, Nat.le_of_ble_eq_true rfl⟩ (O1) ?_
    refine et_c rfl rfl ⟨Nat.le_of_ble_eq_true rfl, Nat.le_of_ble_eq_true rfl⟩ (p_ofFloat _ _ q1.1 q1.2) ?_
    refine et_q rfl ?_
    exact PX.ok e0 ⟨by unfold loadV; rw [if_pos c11, nI_clamp (by omega)], C.f97⟩
  · iterate 3 refine et_s rfl ?_
    refine et_c rfl rfl ⟨Nat.le_of_ble_eq_true rfl, Nat.le_of_ble_eq_true rfl⟩ (BB) ?_
    refine et_c rfl rfl ⟨Nat.le_of_ble_eq_true rfl, Nat.le_of_ble_eq_true rfl⟩ (p_ofFloat _ _ q2.1 q2.2) ?_
    refine et_q rfl ?_
    exact PX.ok e0 ⟨by unfold loadV; rw [if_neg c11, nI_clamp (by omega)], C⟩
theorem p_op_loadAgain (n d : Nat) (C : CS h r w S K q T) (I : Inv B r w) (x : Int32) : TM (n + 3) (d + 12) mX10_loadAgain [.ref 31, .int x] h (PX (loadC r x) (flN (loadC r x)) (fun v h' => v = some (.int (loadV r w x 0).toInt32) ∧ CS h' r w S K q T) (fun h' => CS h' r w S K q T)) := by
  have hw := I.1.1
  have hm := I.2.1.2.1
  have h40 := hw.2.1
  have A := p_reqSawn (n + 1) (d + 10) C hw x
  show TX _ _ _ 0 [(0, _), (1, _)] [] _ _
  iterate 2 refine et_s rfl ?_
  refine et_7 (i := 79) (mj := mX10_requireSawn) 1 rfl (by decide +kernel) rfl ⟨Nat.le_of_ble_eq_true rfl, Nat.le_of_ble_eq_true rfl⟩ (A) (fun rv9 h9 p9 => ?_) (fun en9 h9 p9 => (by obtain ⟨z1, z2, rfl⟩ := PX.inr p9; have e : loadC r x = 1 := if_pos (sawn_1 z1); exact PX.er (by rw [e]; decide) (by rw [e, z2]; rfl) C))
  obtain ⟨z1, rfl, rfl⟩ := PX.inl p9
  have c1 := sawn_0 z1
  obtain ⟨b, hb, rfl⟩ := (blk_or hw x).resolve_right (fun z => z c1)
  have W := p_reqWall n (d + 10) C hw hb
  iterate 2 refine et_s rfl ?_
  refine et_7 (i := 100) (mj := mX10_requireOnWall) 1 rfl (by decide +kernel) rfl ⟨Nat.le_of_ble_eq_true rfl, Nat.le_of_ble_eq_true rfl⟩ (W) (fun rv9 h9 p9 => ?_) (fun en9 h9 p9 => (by obtain ⟨z2, z3, rfl⟩ := PX.inr p9; have e : loadC r (nI b) = 2 := (by unfold loadC; rw [if_neg (fun z => z c1), nI_clamp (by omega), if_neg (wall_1 z2)]); exact PX.er (by rw [e]; decide) (by rw [e, z3]; rfl) C))
  obtain ⟨z2, rfl, rfl⟩ := PX.inl p9
  have c2 := wall_0 z2
  have e0 : loadC r (nI b) = 0 := by unfold loadC; rw [if_neg (fun z => z c1), nI_clamp (by omega), if_pos c2]
  have q1 := ld_bits hw hm hb
  have O1 := p_loadFrom d palL32 C.1 I.1 hm hb c2
  iterate 3 refine et_s rfl ?_
  refine et_c rfl rfl ⟨Nat.le_of_ble_eq_true rfl, Nat.le_of_ble_eq_true rfl⟩ (O1) ?_
  refine et_c rfl rfl ⟨Nat.le_of_ble_eq_true rfl, Nat.le_of_ble_eq_true rfl⟩ (p_ofFloat _ _ q1.1 q1.2) ?_
  refine et_q rfl ?_
  exact PX.ok e0 ⟨by unfold loadV; rw [if_pos rfl, nI_clamp (by omega)], C⟩
theorem p_op_at (n d : Nat) (C : CS h r w S K q T) (y z : Int32) : TM (n + 1) (d + 1) mX10_at [.ref 31, .int y, .int z] h (PX (atC y z) 0 (fun v h' => v = some (.int (gAt r z.toNatClampNeg y.toNatClampNeg)) ∧ CS h' r w S K q T) (fun h' => CS h' r w S K q T)) := by
  have A1 := p_isColumn d y h
  have A2 := p_isCourse d z h
  by_cases c1 : 0 ≤ y ∧ y < 12
  · by_cases c2 : 0 ≤ z ∧ z < 8
    · have e : atC y z = 0 := if_pos ⟨⟨c1.1, lt_12.mp c1.2⟩, c2.1, lt_8.mp c2.2⟩
      obtain ⟨j, hj, rfl⟩ := nI_of2 (M := 11) (n := 11) rfl (Int32.not_lt.mpr c1.1) (lt_12.mp c1.2)
      obtain ⟨c, hc, rfl⟩ := nI_of2 (M := 7) (n := 7) rfl (Int32.not_lt.mpr c2.1) (lt_8.mp c2.2)
      have Bk := p_blockAt d palL32 (c := c) (j := j) (by omega) (by omega) h
      rw [show h.1 (32 + 11) (c * 12 + j) = gAt r c j from C.1.gr (by omega) (by omega)] at Bk
      show TX _ _ _ 0 [(0, _), (1, _), (2, _)] [] _ _
      refine et_s rfl ?_
      refine et_c rfl rfl ⟨Nat.le_of_ble_eq_true rfl, Nat.le_of_ble_eq_true rfl⟩ (A1) ?_
      refine et_b rfl rfl (fun q => absurd q (bI_ne.mpr c1)) (fun _ => ?_)
      refine et_s rfl ?_
      refine et_c rfl rfl ⟨Nat.le_of_ble_eq_true rfl, Nat.le_of_ble_eq_true rfl⟩ (A2) ?_
      refine et_b rfl rfl (fun _ => ?_) (fun q => absurd (bI_ne.mpr c2) q)
      iterate 4 refine et_s rfl ?_
      refine et_c rfl rfl ⟨Nat.le_of_ble_eq_true rfl, Nat.le_of_ble_eq_true rfl⟩ (Bk) ?_
      refine et_q rfl ?_
      exact PX.ok e ⟨by rw [nI_clamp (by omega), nI_clamp (by omega)], C⟩
    · have e : atC y z = 1 := if_neg (fun t => c2 ⟨t.2.1, lt_8.mpr t.2.2⟩)
      show TX _ _ _ 0 [(0, _), (1, _), (2, _)] [] _ _
      refine et_s rfl ?_
      refine et_c rfl rfl ⟨Nat.le_of_ble_eq_true rfl, Nat.le_of_ble_eq_true rfl⟩ (A1) ?_
      refine et_b rfl rfl (fun q => absurd q (bI_ne.mpr c1)) (fun _ => ?_)
      refine et_s rfl ?_
      refine et_c rfl rfl ⟨Nat.le_of_ble_eq_true rfl, Nat.le_of_ble_eq_true rfl⟩ (A2) ?_
      refine et_b rfl rfl (fun q => absurd q (fun t => t (bI_eq.mpr c2))) (fun _ => ?_)
      refine et_t 0 rfl (by decide +kernel) (Nat.le_of_ble_eq_true rfl) ?_
      exact PX.er (by rw [e]; decide) rfl C
  · have e : atC y z = 1 := if_neg (fun t => c1 ⟨t.1.1, lt_12.mpr t.1.2⟩)
    show TX _ _ _ 0 [(0, _), (1, _), (2, _)] [] _ _
    refine et_s rfl ?_
    refine et_c rfl rfl ⟨Nat.le_of_ble_eq_true rfl, Nat.le_of_ble_eq_true rfl⟩ (A1) ?_
    refine et_b rfl rfl (fun _ => ?_) (fun q => absurd (bI_eq.mpr c1) q)
    refine et_t 0 rfl (by decide +kernel) (Nat.le_of_ble_eq_true rfl) ?_
    exact PX.er (by rw [e]; decide) rfl C
theorem p_op_height (n d : Nat) (C : CS h r w S K q T) (y : Int32) : TM (n + 1) (d + 2) mX10_height [.ref 31, .int y] h (PX (heightC y) 0 (fun v h' => v = some (.int (nI (hgtN r y.toNatClampNeg 8))) ∧ CS h' r w S K q T) (fun h' => CS h' r w S K q T)) := by
  have A1 := p_isColumn (d + 1) y h
  by_cases c1 : 0 ≤ y ∧ y < 12
  · have e : heightC y = 0 := if_pos ⟨c1.1, lt_12.mp c1.2⟩
    obtain ⟨j, hj, rfl⟩ := nI_of2 (M := 11) (n := 11) rfl (Int32.not_lt.mpr c1.1) (lt_12.mp c1.2)
    have Hh := p_heightOf d palL32 C.1 (j := j) (by omega)
    show TX _ _ _ 0 [(0, _), (1, _)] [] _ _
    refine et_s rfl ?_
    refine et_c rfl rfl ⟨Nat.le_of_ble_eq_true rfl, Nat.le_of_ble_eq_true rfl⟩ (A1) ?_
    refine et_b rfl rfl (fun _ => ?_) (fun q => absurd (bI_ne.mpr c1) q)
    iterate 3 refine et_s rfl ?_
    refine et_c rfl rfl ⟨Nat.le_of_ble_eq_true rfl, Nat.le_of_ble_eq_true rfl⟩ (Hh) ?_
    refine et_q rfl ?_
    exact PX.ok e ⟨by rw [nI_clamp (by omega)], C⟩
  · have e : heightC y = 1 := if_neg (fun t => c1 ⟨t.1, lt_12.mpr t.2⟩)
    show TX _ _ _ 0 [(0, _), (1, _)] [] _ _
    refine et_s rfl ?_
    refine et_c rfl rfl ⟨Nat.le_of_ble_eq_true rfl, Nat.le_of_ble_eq_true rfl⟩ (A1) ?_
    refine et_b rfl rfl (fun q => absurd q (fun t => t (bI_eq.mpr c1))) (fun _ => ?_)
    refine et_t 0 rfl (by decide +kernel) (Nat.le_of_ble_eq_true rfl) ?_
    exact PX.er (by rw [e]; decide) rfl C
theorem p_op_isShady (n d : Nat) (C : CS h r w S K q T) (hw : Wel r) (x y : Int32) : TM (n + 3) (d + 3) mX10_isShady [.ref 31, .int x, .int y] h (PX (shadyC r x y) (flN (shadyC r x y)) (fun v h' => v = some (.int (bI (shadR r x.toNatClampNeg y = true))) ∧ CS h' r w S K q T) (fun h' => CS h' r w S K q T)) := by
  have h40 := hw.2.1
  have A := p_reqSawn (n + 1) (d + 1) C hw x
  have Ho := p_isHour (d + 2) y h
  have M := p_measure d palL32 (m := 98) ⟨rfl, rfl⟩ (by omega) C.1
  show TX _ _ _ 0 [(0, _), (1, _), (2, _)] [] _ _
  iterate 2 refine et_s rfl ?_
  refine et_7 (i := 79) (mj := mX10_requireSawn) 1 rfl (by decide +kernel) rfl ⟨Nat.le_of_ble_eq_true rfl, Nat.le_of_ble_eq_true rfl⟩ (A) (fun rv9 h9 p9 => ?_) (fun en9 h9 p9 => (by obtain ⟨z1, z2, rfl⟩ := PX.inr p9; have e : shadyC r x y = 1 := if_pos (fun t => sawn_1 z1 t.1); exact PX.er (by rw [e]; decide) (by rw [e, z2]; rfl) C))
  obtain ⟨z1, rfl, rfl⟩ := PX.inl p9
  have c1 := sawn_0 z1
  obtain ⟨b, hb, rfl⟩ := (blk_or hw x).resolve_right (fun z => z c1)
  have W := p_reqWall n (d + 1) C hw hb
  refine et_s rfl ?_
  refine et_c rfl rfl ⟨Nat.le_of_ble_eq_true rfl, Nat.le_of_ble_eq_true rfl⟩ (Ho) ?_
  refine et_b rfl rfl (fun c9 => ?_) (fun c9 => ?_)
  · iterate 2 refine et_s rfl ?_
    refine et_7 (i := 100) (mj := mX10_requireOnWall) 1 rfl (by decide +kernel) rfl ⟨Nat.le_of_ble_eq_true rfl, Nat.le_of_ble_eq_true rfl⟩ (W) (fun rv9 h9 p9 => ?_) (fun en9 h9 p9 => (by obtain ⟨z2, z3, rfl⟩ := PX.inr p9; have c3 := bI_ne.mp c9; have e : shadyC r (nI b) y = 2 := (by unfold shadyC; rw [if_neg (fun z => z ⟨c1, c3.1, lt_24.mp c3.2⟩), nI_clamp (by omega), if_neg (wall_1 z2)]); exact PX.er (by rw [e]; decide) (by rw [e, z3]; rfl) C))
    obtain ⟨z2, rfl, rfl⟩ := PX.inl p9
    have c2 := wall_0 z2
    have c3 := bI_ne.mp c9
    have e0 : shadyC r (nI b) y = 0 := by unfold shadyC; rw [if_neg (fun z => z ⟨c1, c3.1, lt_24.mp c3.2⟩), nI_clamp (by omega), if_pos c2]
    have Sh := p_isInShadow (d + 1) palL32 (m := 98) ⟨rfl, rfl⟩ (C.i99 (f := hgF r 12 (h9.1 (98 + 1)))).1 hw (fun j hj => by show (hIr h9 99 (hgF r 12 (h9.1 (98 + 1)))).1 99 j = _; rw [show (hIr h9 99 (hgF r 12 (h9.1 (98 + 1)))).1 99 = hgF r 12 (h9.1 (98 + 1)) from hIr_at]; exact if_pos hj) hb c2 y
    iterate 4 refine et_s rfl ?_
    refine et_c rfl rfl ⟨Nat.le_of_ble_eq_true rfl, Nat.le_of_ble_eq_true rfl⟩ (M) ?_
    iterate 6 refine et_s rfl ?_
    refine et_c rfl rfl ⟨Nat.le_of_ble_eq_true rfl, Nat.le_of_ble_eq_true rfl⟩ (Sh) ?_
    refine et_q (ret_bK rfl kOk_bI) ?_
    exact PX.ok e0 ⟨by rw [nI_clamp (by omega)], C.i99⟩
  · refine et_t 0 rfl (by decide +kernel) (Nat.le_of_ble_eq_true rfl) ?_
    have c3 := bI_eq.mp (Decidable.not_not.mp c9)
    have e : shadyC r (nI b) y = 1 := if_pos (fun t => c3 ⟨t.2.1, lt_24.mpr t.2.2⟩)
    exact PX.er (by rw [e]; decide) (by rw [e]; rfl) C
theorem p_op_sign (n d : Nat) (C : CS h r w S K q T) (I : Inv B r w) (x : Int32) : TM (n + 2) (d + 2) mX10_sign [.ref 31, .int x] h (PX (sawnC r x) 0 (fun v h' => v = some (.int (sgN r x.toNatClampNeg)) ∧ CS h' r w S K q T) (fun h' => CS h' r w S K q T)) := by
  have hw := I.1.1
  have h40 := hw.2.1
  have A := p_reqSawn n d C hw x
  show TX _ _ _ 0 [(0, _), (1, _)] [] _ _
  iterate 2 refine et_s rfl ?_
  refine et_7 (i := 79) (mj := mX10_requireSawn) 1 rfl (by decide +kernel) rfl ⟨Nat.le_of_ble_eq_true rfl, Nat.le_of_ble_eq_true rfl⟩ (A) (fun rv9 h9 p9 => ?_) (fun en9 h9 p9 => (by obtain ⟨z1, z2, rfl⟩ := PX.inr p9; exact PX.er z1 z2 C))
  obtain ⟨z1, rfl, rfl⟩ := PX.inl p9
  have c1 := sawn_0 z1
  obtain ⟨b, hb, rfl⟩ := (blk_or hw x).resolve_right (fun z => z c1)
  have G := p_sign d C.1 I.1 hb
  iterate 3 refine et_s rfl ?_
  refine et_c rfl rfl ⟨Nat.le_of_ble_eq_true rfl, Nat.le_of_ble_eq_true rfl⟩ (G) ?_
  refine et_q (ret_bK rfl (sgN_ok r b)) ?_
  exact PX.ok z1 ⟨by rw [nI_clamp (by omega)], C⟩
theorem p_op_rooms (n d : Nat) (C : CS h r w S K q T) (z y : Int32) : TM (n + 1) (d + 2) mX10_rooms [.ref 31, .int z, .int y] h (PX (roomsC z y) (flE (roomsC z y)) (fun v h' => v = some (.int (roomsA r z.toNatClampNeg y)) ∧ CS h' r w S K q T) (fun h' => CS h' r w S K q T)) := by
  have A2 := p_isCourse (d + 1) z h
  by_cases c1 : 0 ≤ z ∧ z < 8
  · have c1' : 0 ≤ z ∧ z ≤ 7 := ⟨c1.1, lt_8.mp c1.2⟩
    obtain ⟨c, hc, hz⟩ := nI_of2 (M := 7) (n := 7) rfl (Int32.not_lt.mpr c1.1) (lt_8.mp c1.2)
    have Rn := p_roomNumber d C.1 (c := c) (by omega) y
    rw [← hz] at Rn
    have ez : z.toNatClampNeg = c := by rw [hz]; exact nI_clamp (by omega)
    show TX _ _ _ 0 [(0, _), (1, _), (2, _)] [] _ _
    refine et_s rfl ?_
    refine et_c rfl rfl ⟨Nat.le_of_ble_eq_true rfl, Nat.le_of_ble_eq_true rfl⟩ (A2) ?_
    refine et_b rfl rfl (fun _ => ?_) (fun q => absurd (bI_ne.mpr c1) q)
    refine et_s rfl ?_
    refine et_b rfl rfl (fun c16 => ?_) (fun c16 => ?_)
    · refine et_t 1 rfl (by decide +kernel) (Nat.le_of_ble_eq_true rfl) ?_
      have e : roomsC z y = 2 := by unfold roomsC; rw [if_neg (fun t => t c1'), if_neg (fun t => absurd t.1 (Int32.not_le.mpr c16))]
      exact PX.er (by rw [e]; decide) (by rw [e]; rfl) C
    · iterate 2 refine et_s rfl ?_
      refine et_b rfl rfl (fun c21 => ?_) (fun c21 => ?_)
      · iterate 4 refine et_s rfl ?_
        refine et_c rfl rfl ⟨Nat.le_of_ble_eq_true rfl, Nat.le_of_ble_eq_true rfl⟩ (Rn) ?_
        refine et_q rfl ?_
        exact PX.ok (by unfold roomsC; rw [if_neg (fun t => t c1'), if_pos ⟨Int32.not_lt.mp c16, c21⟩]) ⟨by rw [ez], C⟩
      · refine et_t 1 rfl (by decide +kernel) (Nat.le_of_ble_eq_true rfl) ?_
        have e : roomsC z y = 2 := by unfold roomsC; rw [if_neg (fun t => t c1'), if_neg (fun t => c21 t.2)]
        exact PX.er (by rw [e]; decide) (by rw [e]; rfl) C
  · have e : roomsC z y = 1 := if_pos (fun t => c1 ⟨t.1, lt_8.mpr t.2⟩)
    show TX _ _ _ 0 [(0, _), (1, _), (2, _)] [] _ _
    refine et_s rfl ?_
    refine et_c rfl rfl ⟨Nat.le_of_ble_eq_true rfl, Nat.le_of_ble_eq_true rfl⟩ (A2) ?_
    refine et_b rfl rfl (fun q => absurd q (fun t => t (bI_eq.mpr c1))) (fun _ => ?_)
    refine et_t 0 rfl (by decide +kernel) (Nat.le_of_ble_eq_true rfl) ?_
    exact PX.er (by rw [e]; decide) (by rw [e]; rfl) C
theorem p_op_inRack (n d : Nat) (C : CS h r w S K q T) (y z : Int32) : TM (n + 1) (d + 2) mX10_inRack [.ref 31, .int y, .int z] h (PX (inRackC y z) 0 (fun v h' => v = some (.int (orM (blkIn r y z) (CN r))) ∧ CS h' r w S K q T) (fun h' => CS h' r w S K q T)) := by
  have A1 := p_isRack (d + 1) y h
  by_cases c1 : 0 ≤ y ∧ y < 2
  · by_cases c2 : z < 0
    · have e : inRackC y z = 1 := if_neg (fun t => absurd t.2.1 (Int32.not_le.mpr c2))
      show TX _ _ _ 0 [(0, _), (1, _), (2, _)] [] _ _
      refine et_s rfl ?_
      refine et_c rfl rfl ⟨Nat.le_of_ble_eq_true rfl, Nat.le_of_ble_eq_true rfl⟩ (A1) ?_
      refine et_b rfl rfl (fun q => absurd q (bI_ne.mpr c1)) (fun _ => ?_)
      refine et_s rfl ?_
      refine et_b rfl rfl (fun _ => ?_) (fun q => absurd c2 q)
      refine et_t 0 rfl (by decide +kernel) (Nat.le_of_ble_eq_true rfl) ?_
      exact PX.er (by rw [e]; decide) rfl C
    · by_cases c3 : z < 5
      · have e : inRackC y z = 0 := if_pos ⟨⟨c1.1, lt_2.mp c1.2⟩, Int32.not_lt.mp c2, lt_5.mp c3⟩
        obtain ⟨j, hj, hy⟩ := nI_of2 (M := 1) (n := 1) rfl (Int32.not_lt.mpr c1.1) (lt_2.mp c1.2)
        obtain ⟨p, hp, hz⟩ := nI_of2 (M := 4) (n := 4) rfl c2 (lt_5.mp c3)
        have Bk := p_blockInRack d palL32 (q := j) (p := p) (by omega) (by omega) h
        rw [show h.1 (32 + 12) (j * 5 + p) = orM (blkIn r (nI j) (nI p)) (CN r) from C.1.rk (by omega) (by omega), ← hy, ← hz] at Bk
        show TX _ _ _ 0 [(0, _), (1, _), (2, _)] [] _ _
        refine et_s rfl ?_
        refine et_c rfl rfl ⟨Nat.le_of_ble_eq_true rfl, Nat.le_of_ble_eq_true rfl⟩ (A1) ?_
        refine et_b rfl rfl (fun q => absurd q (bI_ne.mpr c1)) (fun _ => ?_)
        refine et_s rfl ?_
        refine et_b rfl rfl (fun q => absurd q c2) (fun _ => ?_)
        iterate 2 refine et_s rfl ?_
        refine et_b rfl rfl (fun _ => ?_) (fun q => absurd c3 q)
        iterate 4 refine et_s rfl ?_
        refine et_c rfl rfl ⟨Nat.le_of_ble_eq_true rfl, Nat.le_of_ble_eq_true rfl⟩ (Bk) ?_
        refine et_q rfl ?_
        exact PX.ok e ⟨rfl, C⟩
      · have e : inRackC y z = 1 := if_neg (fun t => c3 (lt_5.mpr t.2.2))
        show TX _ _ _ 0 [(0, _), (1, _), (2, _)] [] _ _
        refine et_s rfl ?_
        refine et_c rfl rfl ⟨Nat.le_of_ble_eq_true rfl, Nat.le_of_ble_eq_true rfl⟩ (A1) ?_
        refine et_b rfl rfl (fun q => absurd q (bI_ne.mpr c1)) (fun _ => ?_)
        refine et_s rfl ?_
        refine et_b rfl rfl (fun q => absurd q c2) (fun _ => ?_)
        iterate 2 refine et_s rfl ?_
        refine et_b rfl rfl (fun q => absurd q c3) (fun _ => ?_)
        refine et_t 0 rfl (by decide +kernel) (Nat.le_of_ble_eq_true rfl) ?_
        exact PX.er (by rw [e]; decide) rfl C
  · have e : inRackC y z = 1 := if_neg (fun t => c1 ⟨t.1.1, lt_2.mpr t.1.2⟩)
    show TX _ _ _ 0 [(0, _), (1, _), (2, _)] [] _ _
    refine et_s rfl ?_
    refine et_c rfl rfl ⟨Nat.le_of_ble_eq_true rfl, Nat.le_of_ble_eq_true rfl⟩ (A1) ?_
    refine et_b rfl rfl (fun _ => ?_) (fun q => absurd (bI_eq.mpr c1) q)
    refine et_t 0 rfl (by decide +kernel) (Nat.le_of_ble_eq_true rfl) ?_
    exact PX.er (by rw [e]; decide) rfl C
end
end
