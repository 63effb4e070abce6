-- needs: 993
noncomputable section
theorem wst_none {r : Nat → Int32} {w : Nat → UInt32} : ∀ n, wstN r w n = none → ∀ k, k < n → ¬ ofB r k 2 = 1
  | 0, _, k, hk => absurd hk (by omega)
  | n + 1, e, k, hk => by
    have e : wstS r w n (wstN r w n) = none := e
    unfold wstS at e
    by_cases c : ofB r n 2 = 1
    · rw [if_pos c] at e
      cases hs : wstN r w n with
      | none => rw [hs] at e; cases e
      | some b =>
        rw [hs] at e
        simp only [] at e
        split at e <;> cases e
    · rw [if_neg c] at e
      by_cases hk2 : k = n
      · rw [hk2]; exact c
      · exact wst_none n e k (by omega)
theorem worst_C {r : Nat → Int32} {w : Nat → UInt32} : worstC r = 0 ↔ wstN r w (CN r) ≠ none := by
  constructor
  · intro z e
    have a := wst_none _ e
    have : cntS r 1 (CN r) = 0 := by
      refine Nat.eq_zero_of_not_pos (fun y => ?_)
      obtain ⟨k, k1, k2⟩ := cntP_pos.mp y
      exact a k k1 (of_decide_eq_true k2)
    unfold worstC at z
    rw [if_pos this] at z
    exact absurd z (by decide)
  · intro z
    cases hs : wstN r w (CN r) with
    | none => exact absurd hs z
    | some b =>
      obtain ⟨b1, b2⟩ := wstN_ok _ _ hs
      exact if_neg (fun y => absurd (cntP_pos.mpr ⟨b, b1, decide_eq_true b2⟩) (by show ¬ 0 < cntS r 1 (CN r); omega))
theorem gn_pos {r : Nat → Int32} {w : Nat → UInt32} : gnK r w ≠ 0 := fun e => by
  have h1 : gnP r w (gnK r w) = true := fstP_p 97 0 (show fstP (gnP r w) 97 97 0 < 97 by show gnK r w < 97; omega)
  rw [e] at h1
  exact (of_decide_eq_true h1) rfl
section
variable {h : AH} {r : Nat → Int32} {w : Nat → UInt32} {S : Sv} {K : Hs} {q : Int32 × Int32} {T : Tx} {B : Nat}
theorem p_op_worst (n d : Nat) (C : CS h r w S K q T) (I : Inv B r w) : TM (n + 1) (d + 4) mX10_worst [.ref 31] h (PX (worstC r) 3 (fun v h' => v = some (.int (oI (wstN r w (CN r)))) ∧ CS h' r w S K q T) (fun h' => CS h' r w S K q T)) := by
  have hw := I.1.1
  have hm := I.2.1.2.1
  have h40 := hw.2.1
  have U := p_sumUp d palL32 (m := 96) ⟨rfl, rfl⟩ (by decide) C.1 I.1 hm
  have C2 := C.f97 (f := loadsR r w (h.2.1 (96 + 1)))
  have O := p_mostBurdened (d + 1) C2.1 hw hm (fun b hb hs => by rw [show (hFr h 97 (loadsR r w (h.2.1 (96 + 1)))).2.1 97 = loadsR r w (h.2.1 (96 + 1)) from hFr_at]; exact loadsR_at hw hm hb hs)
  cases hs : wstN r w (CN r) with
  | none =>
    rw [hs] at O
    have e : worstC r ≠ 0 := fun z => worst_C.mp z hs
    show TX _ _ _ 0 [(0, _)] [] _ _
    iterate 4 refine et_s rfl ?_
    refine et_c rfl rfl ⟨Nat.le_of_ble_eq_true rfl, Nat.le_of_ble_eq_true rfl⟩ (U) ?_
    iterate 4 refine et_s rfl ?_
    refine et_c rfl rfl ⟨Nat.le_of_ble_eq_true rfl, Nat.le_of_ble_eq_true rfl⟩ (O) ?_
    iterate 2 refine et_s rfl ?_
    refine et_b rfl rfl (fun q => absurd q (by decide)) (fun _ => ?_)
    refine et_t 3 rfl (by decide +kernel) (Nat.le_of_ble_eq_true rfl) ?_
    exact PX.er e rfl C2
  | some b =>
    rw [hs] at O
    have b1 := (wstN_ok _ _ hs).1
    have e : worstC r = 0 := worst_C.mpr (by rw [hs]; intro z; cases z)
    show TX _ _ _ 0 [(0, _)] [] _ _
    iterate 4 refine et_s rfl ?_
    refine et_c rfl rfl ⟨Nat.le_of_ble_eq_true rfl, Nat.le_of_ble_eq_true rfl⟩ (U) ?_
    iterate 4 refine et_s rfl ?_
    refine et_c rfl rfl ⟨Nat.le_of_ble_eq_true rfl, Nat.le_of_ble_eq_true rfl⟩ (O) ?_
    iterate 2 refine et_s rfl ?_
    refine et_b rfl rfl (fun _ => ?_) (fun q => absurd (nI_pos' (n := b) (by omega)) q)
    refine et_s rfl ?_
    refine et_q rfl ?_
    exact PX.ok e ⟨rfl, C2⟩
theorem p_op_goneIn (n d : Nat) (C : CS h r w S K q T) (I : Inv B r w) (hB : B + 97 < 2 ^ 30) : TM (n + 1) (d + 7) mX10_goneIn [.ref 31] h (PX (gnC r w) 3 (fun v h' => v = some (.int (nI (gnK r w))) ∧ CS h' r w S K q T) (fun h' => CS h' r w S K q T)) := by
  have G := p_firstGone d C.1 I.1 I.2.1 hB
  have g0 := gn_pos (r := r) (w := w)
  by_cases c : gnK r w < 97
  · rw [if_pos c] at G
    have e : gnC r w = 0 := if_pos c
    show TX _ _ _ 0 [(0, _)] [] _ _
    iterate 4 refine et_s rfl ?_
    refine et_xc rfl rfl ⟨Nat.le_of_ble_eq_true rfl, Nat.le_of_ble_eq_true rfl⟩ (G) (fun rv9 h9 p9 => ?_)
    obtain ⟨rfl, F⟩ := p9
    iterate 3 refine et_s rfl ?_
    refine et_b rfl rfl (fun _ => ?_) (fun q => absurd (nI_le (a := 1) (by omega) (by omega)) q)
    refine et_s rfl ?_
    refine et_q rfl ?_
    exact PX.ok e ⟨rfl, C.frA F⟩
  · rw [if_neg c] at G
    have e : gnC r w = 1 := if_neg c
    show TX _ _ _ 0 [(0, _)] [] _ _
    iterate 4 refine et_s rfl ?_
    refine et_xc rfl rfl ⟨Nat.le_of_ble_eq_true rfl, Nat.le_of_ble_eq_true rfl⟩ (G) (fun rv9 h9 p9 => ?_)
    obtain ⟨rfl, F⟩ := p9
    iterate 3 refine et_s rfl ?_
    refine et_b rfl rfl (fun q => absurd q (by decide)) (fun _ => ?_)
    refine et_t 3 rfl (by decide +kernel) (Nat.le_of_ble_eq_true rfl) ?_
    exact PX.er (by rw [e]; decide) rfl (C.frA F)
theorem p_op_massBits (n d : Nat) (C : CS h r w S K q T) (I : Inv B r w) (hB : B + 48 < 2 ^ 30) (x y : Int32) : TM (n + 3) (d + 7) mX10_massBits [.ref 31, .int x, .int y] h (PX (mbC r x y) (flE (mbC r x y)) (fun v h' => v = some (.int (mbA r w x.toNatClampNeg y.toNatClampNeg)) ∧ CS h' r w S K q T) (fun h' => CS h' r w S K q T)) := by
  have hw := I.1.1
  have h40 := hw.2.1
  have A := p_reqSawn (n + 1) (d + 5) C hw x
  have A2 := p_reqHours n (d + 6) h y
  show TX _ _ _ 0 [(0, _), (1, _), (2, _)] [] _ _
  iterate 2 refine et_s rfl ?_
  refine et_7 (i := 79) (mj := mX10_requireSawn) 1 rfl (by decide +kernel) rfl ⟨Nat.le_of_ble_eq_true rfl, Nat.le_of_ble_eq_true rfl⟩ (A) (fun rv9 h9 p9 => ?_) (fun en9 h9 p9 => (by obtain ⟨z1, z2, rfl⟩ := PX.inr p9; have e : mbC r x y = 1 := if_pos (sawn_1 z1); exact PX.er (by rw [e]; decide) (by rw [e, z2]; rfl) C))
  obtain ⟨z1, rfl, rfl⟩ := PX.inl p9
  have c1 := sawn_0 z1
  iterate 2 refine et_s rfl ?_
  refine et_7 (i := 170) (mj := mX10_requireHoursAhead) 1 rfl (by decide +kernel) rfl ⟨Nat.le_of_ble_eq_true rfl, Nat.le_of_ble_eq_true rfl⟩ (A2) (fun rv9 h9 p9 => ?_) (fun en9 h9 p9 => (by obtain ⟨z2, z3, rfl⟩ := PX.inr p9; have e : mbC r x y = 2 := (by unfold mbC; rw [if_neg (fun z => z c1), if_neg (left_1 z2)]); exact PX.er (by rw [e]; decide) (by rw [e, z3]; rfl) C))
  obtain ⟨z2, rfl, rfl⟩ := PX.inl p9
  have c2 := left_0 z2
  obtain ⟨b, hb, rfl⟩ := (blk_or hw x).resolve_right (fun z => z c1)
  obtain ⟨n9, hn, rfl⟩ := nI_of2 (M := 48) (n := 48) rfl (Int32.not_lt.mpr c2.1) c2.2
  have O := p_bitsOfMass d n9 (by omega) C.1 I hB hb
  iterate 6 refine et_s rfl ?_
  refine et_xc rfl rfl ⟨Nat.le_of_ble_eq_true rfl, Nat.le_of_ble_eq_true rfl⟩ (O) (fun rv9 h9 p9 => ?_)
  obtain ⟨rfl, F⟩ := p9
  refine et_q rfl ?_
  exact PX.ok (by unfold mbC; rw [if_neg (fun z => z c1), if_pos c2]) ⟨by rw [nI_clamp (by omega), nI_clamp (by omega)], C.frA F⟩
theorem p_op_left (n d : Nat) (C : CS h r w S K q T) (I : Inv B r w) (hB : B + 48 < 2 ^ 30) (y : Int32) : TM (n + 2) (d + 7) mX10_left [.ref 31, .int y] h (PX (leftC y) 1 (fun v h' => v = some (.int (nI (onN (hoursR y.toNatClampNeg r w)))) ∧ CS h' r w S K q T) (fun h' => CS h' r w S K q T)) := by
  have A2 := p_reqHours n (d + 6) h y
  show TX _ _ _ 0 [(0, _), (1, _)] [] _ _
  iterate 2 refine et_s rfl ?_
  refine et_7 (i := 170) (mj := mX10_requireHoursAhead) 1 rfl (by decide +kernel) rfl ⟨Nat.le_of_ble_eq_true rfl, Nat.le_of_ble_eq_true rfl⟩ (A2) (fun rv9 h9 p9 => ?_) (fun en9 h9 p9 => (by obtain ⟨z2, z3, rfl⟩ := PX.inr p9; exact PX.er z2 z3 C))
  obtain ⟨z2, rfl, rfl⟩ := PX.inl p9
  have c2 := left_0 z2
  obtain ⟨n9, hn, rfl⟩ := nI_of2 (M := 48) (n := 48) rfl (Int32.not_lt.mpr c2.1) c2.2
  have O := p_blocksOnWall d n9 (by omega) C.1 I.1 I.2.1 hB
  iterate 5 refine et_s rfl ?_
  refine et_xc rfl rfl ⟨Nat.le_of_ble_eq_true rfl, Nat.le_of_ble_eq_true rfl⟩ (O) (fun rv9 h9 p9 => ?_)
  obtain ⟨rfl, F⟩ := p9
  refine et_q rfl ?_
  exact PX.ok z2 ⟨by rw [nI_clamp (by omega)], C.frA F⟩
abbrev sfA (r : Nat → Int32) (w : Nat → UInt32) : Int32 := oI (svF r w 51)
theorem p_sf_loop (n d : Nat) (C : CS h r w S K q T) (I : Inv B r w) (hB : B + 48 < 2 ^ 30) : ∀ (m : Nat) (g : AH), m ≤ 51 → FrA h g → svF r w 51 = svF r w m → TX (n + 1) (d + 7) mX10_safe 3 [(0, .ref 31), (1, .int (nI m - 1))] [] g (PX (sfC r w) 3 (fun v h' => v = some (.int (sfA r w)) ∧ CS h' r w S K q T) (fun h' => CS h' r w S K q T))
  | 0, g, hm, F, e => by
    have e1 : svF r w 51 = none := e
    have e2 : sfC r w = 1 := if_pos e1
    refine et_s rfl ?_
    refine et_b rfl rfl (fun _ => ?_) (fun q => absurd (by decide) q)
    refine et_t 3 rfl (by decide +kernel) (Nat.le_of_ble_eq_true rfl) ?_
    exact PX.er (by rw [e2]; decide) rfl (C.frA F)
  | m + 1, g, hm, F, e => by
    have em : nI (m + 1) - 1 = nI m := nI_m1 (by omega)
    rw [em]
    have CG := C.frA F
    have O := p_isSafeFor d m (by omega) CG.1 I.1 I.2.1 hB
    by_cases c : svP r w m = true
    · have e1 : svF r w 51 = some m := e.trans (if_pos c)
      have e2 : sfC r w = 0 := if_neg (by rw [e1]; intro z; cases z)
      refine et_s rfl ?_
      refine et_b rfl rfl (fun q => absurd q (nI_pos (n := m) (by omega))) (fun _ => ?_)
      iterate 5 refine et_s rfl ?_
      refine et_xc rfl rfl ⟨Nat.le_of_ble_eq_true rfl, Nat.le_of_ble_eq_true rfl⟩ (O) (fun rv9 h9 p9 => ?_)
      obtain ⟨rfl, F2⟩ := p9
      refine et_b rfl rfl (fun q => absurd q (bI_ne.mpr c)) (fun _ => ?_)
      refine et_s rfl ?_
      refine et_q rfl ?_
      exact PX.ok e2 ⟨by show _ = some (Value.int (oI (svF r w 51))); rw [e1]; rfl, CG.frA F2⟩
    · have e1 : svF r w 51 = svF r w m := e.trans (if_neg c)
      have e3 : nI m + -1 = nI m - 1 := (Int32.sub_eq_add_neg _ _).symm
      refine et_s rfl ?_
      refine et_b rfl rfl (fun q => absurd q (nI_pos (n := m) (by omega))) (fun _ => ?_)
      iterate 5 refine et_s rfl ?_
      refine et_xc rfl rfl ⟨Nat.le_of_ble_eq_true rfl, Nat.le_of_ble_eq_true rfl⟩ (O) (fun rv9 h9 p9 => ?_)
      obtain ⟨rfl, F2⟩ := p9
      refine et_b rfl rfl (fun _ => ?_) (fun q => absurd (bI_eq.mpr c) q)
      refine et_s rfl ?_
      refine et_g rfl rfl ?_
      rw [e3]
      exact et_sub (sub2 rfl rfl) (p_sf_loop n d C I hB m _ (by omega) (F.tr F2) e1)
theorem p_op_safe (n d : Nat) (C : CS h r w S K q T) (I : Inv B r w) (hB : B + 48 < 2 ^ 30) : TM (n + 1) (d + 7) mX10_safe [.ref 31] h (PX (sfC r w) 3 (fun v h' => v = some (.int (sfA r w)) ∧ CS h' r w S K q T) (fun h' => CS h' r w S K q T)) := by
  have Z := p_sf_loop n d C I hB 51 h (by decide) (fun _ _ => ⟨rfl, rfl⟩) rfl
  show TX _ _ _ 0 [(0, _)] [] _ _
  iterate 2 refine et_s rfl ?_
  exact et_sub (sub2 rfl rfl) Z
theorem p_op_meanBits (n d : Nat) (C : CS h r w S K q T) (I : Inv B r w) : TM (n + 1) (d + 2) mX10_meanBits [.ref 31] h (PX (meanC r) 5 (fun v h' => v = some (.long (meanD r w).toInt64) ∧ CS h' r w S K q T) (fun h' => CS h' r w S K q T)) := by
  have hw := I.1.1
  have hm := I.2.1.2.1
  have h40 := hw.2.1
  have N := p_countOnWall d palL32 C.1 hw
  have ho : onN r ≤ CN r := cntP_le _ _
  by_cases c : cntS r 1 (CN r) = 0
  · have e : meanC r = 1 := if_pos c
    have c : onN r = 0 := c
    rw [c] at N
    show TX _ _ _ 0 [(0, _)] [] _ _
    iterate 2 refine et_s rfl ?_
    refine et_c rfl rfl ⟨Nat.le_of_ble_eq_true rfl, Nat.le_of_ble_eq_true rfl⟩ (N) ?_
    iterate 3 refine et_s rfl ?_
    refine et_b rfl rfl (fun q => absurd q (by decide)) (fun _ => ?_)
    refine et_t 5 rfl (by decide +kernel) (Nat.le_of_ble_eq_true rfl) ?_
    exact PX.er (by rw [e]; decide) rfl C
  · have e : meanC r = 0 := if_neg c
    have c : 1 ≤ onN r := Nat.pos_of_ne_zero c
    have mo := mean_ok hw hm c
    have Sm := p_sumOfMasses (d + 1) C.1 hw hm
    have D := p_ofDouble (d + 1) h (x := meanD r w) mo.1 mo.2
    show TX _ _ _ 0 [(0, _)] [] _ _
    iterate 2 refine et_s rfl ?_
    refine et_c rfl rfl ⟨Nat.le_of_ble_eq_true rfl, Nat.le_of_ble_eq_true rfl⟩ (N) ?_
    iterate 3 refine et_s rfl ?_
    refine et_b rfl rfl (fun _ => ?_) (fun q => absurd (nI_le (a := 1) c (by omega)) q)
    iterate 2 refine et_s rfl ?_
    refine et_c rfl rfl ⟨Nat.le_of_ble_eq_true rfl, Nat.le_of_ble_eq_true rfl⟩ (Sm) ?_
    iterate 2 refine et_s rfl ?_
    refine et_ddiv rfl (d_nn (Nat.le_of_lt mo.2)) ?_
    refine et_c rfl rfl ⟨Nat.le_of_ble_eq_true rfl, Nat.le_of_ble_eq_true rfl⟩ (D) ?_
    refine et_q rfl ?_
    exact PX.ok e ⟨rfl, C⟩
theorem p_op_isWell (d : Nat) (C : CS h r w S K q T) (I : Inv B r w) : WM (d + 15) mX10_isWell [.ref 31] h (fun v h' => v = some (.int 1) ∧ CS h' r w S K q T) := by
  have hw := I.1.1
  have hm := I.2.1.2.1
  have U := p_sumUp (d + 11) palL32 (m := 96) ⟨rfl, rfl⟩ (by decide) C.1 I.1 hm
  have C2 := C.f97 (f := loadsR r w (h.2.1 (96 + 1)))
  have A := p_isAllWell d C2.1 I (fun b hb hs => by rw [show (hFr h 97 (loadsR r w (h.2.1 (96 + 1)))).2.1 97 = loadsR r w (h.2.1 (96 + 1)) from hFr_at]; exact loadsR_at hw hm hb hs)
  show WX _ _ 0 [(0, _)] [] _ _
  iterate 4 refine ex_s rfl ?_
  refine ex_c rfl rfl ⟨Nat.le_of_ble_eq_true rfl, Nat.le_of_ble_eq_true rfl⟩ (U) ?_
  iterate 4 refine ex_s rfl ?_
  refine ex_c rfl rfl ⟨Nat.le_of_ble_eq_true rfl, Nat.le_of_ble_eq_true rfl⟩ (A) ?_
  refine ex_q (ret_bK rfl rfl) ?_
  exact ⟨rfl, C2⟩
theorem p_op_errorPosition (d : Nat) (C : CS h r w S K q T) : WM (d + 1) mX10_errorPosition [.ref 31] h (fun v h' => v = some (.int T.2.1) ∧ CS h' r w S K q T) := by
  have E := p_errorOffset d h
  rw [C.2.2.2.2.2.2.1] at E
  show WX _ _ 0 [(0, _)] [] _ _
  iterate 2 refine ex_s rfl ?_
  refine ex_c rfl rfl ⟨Nat.le_of_ble_eq_true rfl, Nat.le_of_ble_eq_true rfl⟩ (E) ?_
  refine ex_q rfl ?_
  exact ⟨rfl, C⟩
end
end
