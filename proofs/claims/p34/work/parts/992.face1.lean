-- needs: 991
noncomputable section
/-- the end of a method of the face: its code, the number of what is thrown -/
def PX (f : Int32) (en : Nat) (Gd : Option Value → AH → Prop) (Bd : AH → Prop) (o : Out) : Prop := match o with | .inl q => f = 0 ∧ Gd q.1 q.2 | .inr q => f ≠ 0 ∧ q.1 = en ∧ Bd q.2
theorem PX.ok {f : Int32} {en : Nat} {Gd : Option Value → AH → Prop} {Bd : AH → Prop} {v : Option Value} {h : AH} (hf : f = 0) (g : Gd v h) : PX f en Gd Bd (.inl (v, h)) := ⟨hf, g⟩
theorem PX.er {f : Int32} {en e2 : Nat} {Gd : Option Value → AH → Prop} {Bd : AH → Prop} {h : AH} (hf : f ≠ 0) (he : e2 = en) (g : Bd h) : PX f en Gd Bd (.inr (e2, h)) := ⟨hf, he, g⟩
def flE (f : Int32) : Nat := if f = 1 then 0 else if f = 2 then 1 else 2
theorem CS.frH {h h' : AH} {r r' : Nat → Int32} {w w' : Nat → UInt32} {S : Sv} {K : Hs} {q : Int32 × Int32} {T : Tx} (C : CS h r w S K q T) (P : Pal h' 32 r' w') (F : FrH 32 72 h h') : CS h' r' w' S K q T := C.to (fun a ha => ⟨(F.1 a (by omega)).1 (by omega), (F.1 a (by omega)).2 (by omega)⟩) P
theorem CS.frA {h h' : AH} {r : Nat → Int32} {w : Nat → UInt32} {S : Sv} {K : Hs} {q : Int32 × Int32} {T : Tx} (C : CS h r w S K q T) (F : FrA h h') : CS h' r w S K q T := C.to (fun a ha => F a (by omega)) (C.1.same (fun a x y => F a (by omega)))
section
variable {h : AH} {r : Nat → Int32} {w : Nat → UInt32} {S : Sv} {K : Hs} {q : Int32 × Int32} {T : Tx} {B : Nat}
theorem p_permit (n d : Nat) (C : CS h r w S K q T) (h40 : CN r ≤ 40) (f : Int32) : TM (n + 1) (d + 3) mX10_permit [.ref 31, .int f] h (PX f (flE f) (fun v h' => v = none ∧ CS h' r w S (pushK K r w) q T) (fun h' => h' = h)) := by
  obtain ⟨C1, -, ⟨c0, N, c1, c2, c3, -⟩, -⟩ := id C
  have R := p_remember d (k := 32) (by decide) palL32 h40 C1 c1 c0 c2 c3
  by_cases e1 : f = 1
  · show TX _ _ _ 0 [(0, _), (1, _)] [] _ _
    iterate 2 refine et_s rfl ?_
    refine et_b rfl rfl (fun q => absurd q (fun z => z e1)) (fun _ => ?_)
    refine et_t 0 rfl (by decide +kernel) (by decide) ?_
    exact PX.er (by rw [e1]; decide) (if_pos e1).symm rfl
  · by_cases e2 : f = 2
    · show TX _ _ _ 0 [(0, _), (1, _)] [] _ _
      iterate 2 refine et_s rfl ?_
      refine et_b rfl rfl (fun _ => ?_) (fun q => absurd e1 q)
      iterate 2 refine et_s rfl ?_
      refine et_b rfl rfl (fun q => absurd q (fun z => z e2)) (fun _ => ?_)
      refine et_t 1 rfl (by decide +kernel) (by decide) ?_
      exact PX.er (by rw [e2]; decide) (by unfold flE; rw [if_neg e1, if_pos e2]) rfl
    · by_cases e0 : f = 0
      · show TX _ _ _ 0 [(0, _), (1, _)] [] _ _
        iterate 2 refine et_s rfl ?_
        refine et_b rfl rfl (fun _ => ?_) (fun q => absurd e1 q)
        iterate 2 refine et_s rfl ?_
        refine et_b rfl rfl (fun _ => ?_) (fun q => absurd e2 q)
        refine et_s rfl ?_
        refine et_b rfl rfl (fun _ => ?_) (fun q => absurd e0 q)
        iterate 4 refine et_s rfl ?_
        refine et_xc rfl rfl ⟨Nat.le_of_ble_eq_true rfl, Nat.le_of_ble_eq_true rfl⟩ (R) (fun rv9 h9 p9 => ?_)
        obtain ⟨rfl, g1, g2, g3, g4⟩ := p9
        refine et_q rfl ?_
        exact PX.ok e0 ⟨rfl, C.rem c1 c2 g1 g2 g3 g4⟩
      · show TX _ _ _ 0 [(0, _), (1, _)] [] _ _
        iterate 2 refine et_s rfl ?_
        refine et_b rfl rfl (fun _ => ?_) (fun q => absurd e1 q)
        iterate 2 refine et_s rfl ?_
        refine et_b rfl rfl (fun _ => ?_) (fun q => absurd e2 q)
        refine et_s rfl ?_
        refine et_b rfl rfl (fun q => absurd q e0) (fun _ => ?_)
        refine et_t 2 rfl (by decide +kernel) (by decide) ?_
        exact PX.er e0 (by unfold flE; rw [if_neg e1, if_neg e2]) rfl
def sawnC (r : Nat → Int32) (x : Int32) : Int32 := if 0 ≤ x ∧ x ≤ r 4 - 1 then 0 else 1
theorem p_reqSawn (n d : Nat) (C : CS h r w S K q T) (hw : Wel r) (x : Int32) : TM (n + 1) (d + 1) mX10_requireSawn [.ref 31, .int x] h (PX (sawnC r x) 0 (fun v h' => v = none ∧ h' = h) (fun h' => h' = h)) := by
  have A := p_sawn d palL32 C.1 hw x
  unfold sawnC
  by_cases c : 0 ≤ x ∧ x ≤ r 4 - 1
  · rw [if_pos c]
    show TX _ _ _ 0 [(0, _), (1, _)] [] _ _
    iterate 3 refine et_s rfl ?_
    refine et_c rfl rfl ⟨Nat.le_of_ble_eq_true rfl, Nat.le_of_ble_eq_true rfl⟩ (A) ?_
    refine et_b rfl rfl (fun _ => ?_) (fun q => absurd (bI_ne.mpr c) q)
    refine et_q rfl ?_
    exact PX.ok rfl ⟨rfl, rfl⟩
  · rw [if_neg c]
    show TX _ _ _ 0 [(0, _), (1, _)] [] _ _
    iterate 3 refine et_s rfl ?_
    refine et_c rfl rfl ⟨Nat.le_of_ble_eq_true rfl, Nat.le_of_ble_eq_true rfl⟩ (A) ?_
    refine et_b rfl rfl (fun q => absurd q (fun z => z (bI_eq.mpr c))) (fun _ => ?_)
    refine et_t 0 rfl (by decide +kernel) (by decide) ?_
    exact PX.er (by decide) rfl rfl
def wallC (r : Nat → Int32) (b : Nat) : Int32 := if ofB r b 2 = 1 then 0 else 1
theorem p_reqWall (n d : Nat) (C : CS h r w S K q T) (hw : Wel r) {b : Nat} (hb : b < CN r) : TM (n + 1) (d + 1) mX10_requireOnWall [.ref 31, .int (nI b)] h (PX (wallC r b) 3 (fun v h' => v = none ∧ h' = h) (fun h' => h' = h)) := by
  have h40 := hw.2.1
  have A := p_isOnWall d palL32 (b := b) (by omega) h
  rw [show h.1 (32 + 5) b = ofB r b 2 from C.1.st hb] at A
  unfold wallC
  by_cases c : ofB r b 2 = 1
  · rw [if_pos c]
    show TX _ _ _ 0 [(0, _), (1, _)] [] _ _
    iterate 3 refine et_s rfl ?_
    refine et_c rfl rfl ⟨Nat.le_of_ble_eq_true rfl, Nat.le_of_ble_eq_true rfl⟩ (A) ?_
    refine et_b rfl rfl (fun _ => ?_) (fun q => absurd (bI_ne.mpr c) q)
    refine et_q rfl ?_
    exact PX.ok rfl ⟨rfl, rfl⟩
  · rw [if_neg c]
    show TX _ _ _ 0 [(0, _), (1, _)] [] _ _
    iterate 3 refine et_s rfl ?_
    refine et_c rfl rfl ⟨Nat.le_of_ble_eq_true rfl, Nat.le_of_ble_eq_true rfl⟩ (A) ?_
    refine et_b rfl rfl (fun q => absurd q (fun z => z (bI_eq.mpr c))) (fun _ => ?_)
    refine et_t 3 rfl (by decide +kernel) (by decide) ?_
    exact PX.er (by decide) rfl rfl
theorem p_reqHours (n d : Nat) (h : AH) (x : Int32) : TM (n + 1) d mX10_requireHoursAhead [.ref 31, .int x] h (PX (leftC x) 1 (fun v h' => v = none ∧ h' = h) (fun h' => h' = h)) := by
  unfold leftC
  by_cases c1 : x < 0
  · rw [if_neg (fun z => Int32.not_le.mpr c1 z.1)]
    show TX _ _ _ 0 [(0, _), (1, _)] [] _ _
    refine et_s rfl ?_
    refine et_b rfl rfl (fun _ => ?_) (fun q => absurd c1 q)
    refine et_t 1 rfl (by decide +kernel) (by decide) ?_
    exact PX.er (by decide) rfl rfl
  · by_cases c2 : x ≤ 48
    · rw [if_pos ⟨Int32.not_lt.mp c1, c2⟩]
      show TX _ _ _ 0 [(0, _), (1, _)] [] _ _
      refine et_s rfl ?_
      refine et_b rfl rfl (fun q => absurd q c1) (fun _ => ?_)
      iterate 2 refine et_s rfl ?_
      refine et_b rfl rfl (fun _ => ?_) (fun q => absurd c2 q)
      refine et_q rfl ?_
      exact PX.ok rfl ⟨rfl, rfl⟩
    · rw [if_neg (fun z => c2 z.2)]
      show TX _ _ _ 0 [(0, _), (1, _)] [] _ _
      refine et_s rfl ?_
      refine et_b rfl rfl (fun q => absurd q c1) (fun _ => ?_)
      iterate 2 refine et_s rfl ?_
      refine et_b rfl rfl (fun q => absurd q c2) (fun _ => ?_)
      refine et_t 1 rfl (by decide +kernel) (by decide) ?_
      exact PX.er (by decide) rfl rfl
theorem p_op_heat (n d : Nat) (C : CS h r w S K q T) (I : Inv B r w) (hB : B + 48 < 2 ^ 30) (a b : Int32) : TM (n + 2) (d + 7) mX10_heat [.ref 31, .int a, .int b] h (PX (clF 116 r (a, b, 0)) (flE (clF 116 r (a, b, 0))) (fun v h' => v = some (.int (pfA 116 r w (a, b, 0))) ∧ CS h' (pfR 116 r w (a, b, 0)) (pfW 116 r w (a, b, 0)) S (pushK K r w) q T) (fun h' => CS h' r w S K (if clF 116 r (a, b, 0) = 3 then clD 116 r (a, b, 0) else q) T)) := by
  have ho : SgO 116 := by unfold SgO; decide
  have F := p_faultOf (d + 3) C.1 I.1.1 ho (a, b, 0)
  have C2 := C.wk (f := clF 116 r (a, b, 0)) (re := (clD 116 r (a, b, 0)).1) (de := (clD 116 r (a, b, 0)).2)
  have PM := p_permit n (d + 3) C2 I.1.1.2.1 (clF 116 r (a, b, 0))
  show TX _ _ _ 0 [(0, _), (1, _), (2, _)] [] _ _
  iterate 9 refine et_s rfl ?_
  refine et_c rfl rfl ⟨Nat.le_of_ble_eq_true rfl, Nat.le_of_ble_eq_true rfl⟩ (F) ?_
  refine et_7 (i := 72) (mj := mX10_permit) 1 rfl (by decide +kernel) rfl ⟨Nat.le_of_ble_eq_true rfl, Nat.le_of_ble_eq_true rfl⟩ (PM) (fun rv9 h9 p9 => ?_) (fun en9 h9 p9 => (by obtain ⟨z1, z2, z3⟩ := p9; subst z3; exact PX.er z1 z2 C2))
  obtain ⟨z1, rfl, C3⟩ := p9
  rw [if_neg (show ¬ clF 116 r (a, b, 0) = 3 by rw [z1]; decide)] at C3
  have PF := p_perform d C3.1 I hB ho (a, b, 0) z1
  iterate 8 refine et_s rfl ?_
  refine et_xc rfl rfl ⟨Nat.le_of_ble_eq_true rfl, Nat.le_of_ble_eq_true rfl⟩ (PF) (fun rv9 h9 p9 => ?_)
  obtain ⟨rfl, P4, F4⟩ := p9
  refine et_q rfl ?_
  exact PX.ok z1 ⟨rfl, C3.frH P4 F4⟩
theorem p_op_visit (n d : Nat) (C : CS h r w S K q T) (I : Inv B r w) (hB : B + 48 < 2 ^ 30) (a : Int32) : TM (n + 2) (d + 7) mX10_visit [.ref 31, .int a] h (PX (clF 118 r (a, 0, 0)) (flE (clF 118 r (a, 0, 0))) (fun v h' => v = some (.int (pfA 118 r w (a, 0, 0))) ∧ CS h' (pfR 118 r w (a, 0, 0)) (pfW 118 r w (a, 0, 0)) S (pushK K r w) q T) (fun h' => CS h' r w S K (if clF 118 r (a, 0, 0) = 3 then clD 118 r (a, 0, 0) else q) T)) := by
  have ho : SgO 118 := by unfold SgO; decide
  have F := p_faultOf (d + 3) C.1 I.1.1 ho (a, 0, 0)
  have C2 := C.wk (f := clF 118 r (a, 0, 0)) (re := (clD 118 r (a, 0, 0)).1) (de := (clD 118 r (a, 0, 0)).2)
  have PM := p_permit n (d + 3) C2 I.1.1.2.1 (clF 118 r (a, 0, 0))
  show TX _ _ _ 0 [(0, _), (1, _)] [] _ _
  iterate 9 refine et_s rfl ?_
  refine et_c rfl rfl ⟨Nat.le_of_ble_eq_true rfl, Nat.le_of_ble_eq_true rfl⟩ (F) ?_
  refine et_7 (i := 72) (mj := mX10_permit) 1 rfl (by decide +kernel) rfl ⟨Nat.le_of_ble_eq_true rfl, Nat.le_of_ble_eq_true rfl⟩ (PM) (fun rv9 h9 p9 => ?_) (fun en9 h9 p9 => (by obtain ⟨z1, z2, z3⟩ := p9; subst z3; exact PX.er z1 z2 C2))
  obtain ⟨z1, rfl, C3⟩ := p9
  rw [if_neg (show ¬ clF 118 r (a, 0, 0) = 3 by rw [z1]; decide)] at C3
  have PF := p_perform d C3.1 I hB ho (a, 0, 0) z1
  iterate 8 refine et_s rfl ?_
  refine et_xc rfl rfl ⟨Nat.le_of_ble_eq_true rfl, Nat.le_of_ble_eq_true rfl⟩ (PF) (fun rv9 h9 p9 => ?_)
  obtain ⟨rfl, P4, F4⟩ := p9
  refine et_q rfl ?_
  exact PX.ok z1 ⟨rfl, C3.frH P4 F4⟩
theorem p_op_saw (n d : Nat) (C : CS h r w S K q T) (I : Inv B r w) (hB : B + 48 < 2 ^ 30) (a b c : Int32) : TM (n + 2) (d + 7) mX10_saw [.ref 31, .int a, .int b, .int c] h (PX (clF 115 r (a, b, c)) (flE (clF 115 r (a, b, c))) (fun v h' => v = some (.int (pfA 115 r w (a, b, c))) ∧ CS h' (pfR 115 r w (a, b, c)) (pfW 115 r w (a, b, c)) S (pushK K r w) q T) (fun h' => CS h' r w S K (if clF 115 r (a, b, c) = 3 then clD 115 r (a, b, c) else q) T)) := by
  have ho : SgO 115 := by unfold SgO; decide
  have F := p_faultOf (d + 3) C.1 I.1.1 ho (a, b, c)
  have C2 := C.wk (f := clF 115 r (a, b, c)) (re := (clD 115 r (a, b, c)).1) (de := (clD 115 r (a, b, c)).2)
  have PM := p_permit n (d + 3) C2 I.1.1.2.1 (clF 115 r (a, b, c))
  show TX _ _ _ 0 [(0, _), (1, _), (2, _), (3, _)] [] _ _
  iterate 9 refine et_s rfl ?_
  refine et_c rfl rfl ⟨Nat.le_of_ble_eq_true rfl, Nat.le_of_ble_eq_true rfl⟩ (F) ?_
  refine et_7 (i := 72) (mj := mX10_permit) 1 rfl (by decide +kernel) rfl ⟨Nat.le_of_ble_eq_true rfl, Nat.le_of_ble_eq_true rfl⟩ (PM) (fun rv9 h9 p9 => ?_) (fun en9 h9 p9 => (by obtain ⟨z1, z2, z3⟩ := p9; subst z3; exact PX.er z1 z2 C2))
  obtain ⟨z1, rfl, C3⟩ := p9
  rw [if_neg (show ¬ clF 115 r (a, b, c) = 3 by rw [z1]; decide)] at C3
  have PF := p_perform d C3.1 I hB ho (a, b, c) z1
  iterate 8 refine et_s rfl ?_
  refine et_xc rfl rfl ⟨Nat.le_of_ble_eq_true rfl, Nat.le_of_ble_eq_true rfl⟩ (PF) (fun rv9 h9 p9 => ?_)
  obtain ⟨rfl, P4, F4⟩ := p9
  refine et_q rfl ?_
  exact PX.ok z1 ⟨rfl, C3.frH P4 F4⟩
theorem p_op_lay (n d : Nat) (C : CS h r w S K q T) (I : Inv B r w) (hB : B + 48 < 2 ^ 30) (a b c : Int32) : TM (n + 2) (d + 7) mX10_lay [.ref 31, .int a, .int b, .int c] h (PX (clF 108 r (a, b, c)) (flE (clF 108 r (a, b, c))) (fun v h' => v = some (.int (pfA 108 r w (a, b, c))) ∧ CS h' (pfR 108 r w (a, b, c)) (pfW 108 r w (a, b, c)) S (pushK K r w) q T) (fun h' => CS h' r w S K (if clF 108 r (a, b, c) = 3 then clD 108 r (a, b, c) else q) T)) := by
  have ho : SgO 108 := by unfold SgO; decide
  have F := p_faultOf (d + 3) C.1 I.1.1 ho (a, b, c)
  have C2 := C.wk (f := clF 108 r (a, b, c)) (re := (clD 108 r (a, b, c)).1) (de := (clD 108 r (a, b, c)).2)
  have PM := p_permit n (d + 3) C2 I.1.1.2.1 (clF 108 r (a, b, c))
  show TX _ _ _ 0 [(0, _), (1, _), (2, _), (3, _)] [] _ _
  iterate 9 refine et_s rfl ?_
  refine et_c rfl rfl ⟨Nat.le_of_ble_eq_true rfl, Nat.le_of_ble_eq_true rfl⟩ (F) ?_
  refine et_7 (i := 72) (mj := mX10_permit) 1 rfl (by decide +kernel) rfl ⟨Nat.le_of_ble_eq_true rfl, Nat.le_of_ble_eq_true rfl⟩ (PM) (fun rv9 h9 p9 => ?_) (fun en9 h9 p9 => (by obtain ⟨z1, z2, z3⟩ := p9; subst z3; exact PX.er z1 z2 C2))
  obtain ⟨z1, rfl, C3⟩ := p9
  rw [if_neg (show ¬ clF 108 r (a, b, c) = 3 by rw [z1]; decide)] at C3
  have PF := p_perform d C3.1 I hB ho (a, b, c) z1
  iterate 8 refine et_s rfl ?_
  refine et_xc rfl rfl ⟨Nat.le_of_ble_eq_true rfl, Nat.le_of_ble_eq_true rfl⟩ (PF) (fun rv9 h9 p9 => ?_)
  obtain ⟨rfl, P4, F4⟩ := p9
  refine et_q rfl ?_
  exact PX.ok z1 ⟨rfl, C3.frH P4 F4⟩
theorem p_op_take (n d : Nat) (C : CS h r w S K q T) (I : Inv B r w) (hB : B + 48 < 2 ^ 30) (a : Int32) : TM (n + 2) (d + 7) mX10_take [.ref 31, .int a] h (PX (clF 120 r (a, 0, 0)) (flE (clF 120 r (a, 0, 0))) (fun v h' => v = some (.int (pfA 120 r w (a, 0, 0))) ∧ CS h' (pfR 120 r w (a, 0, 0)) (pfW 120 r w (a, 0, 0)) S (pushK K r w) q T) (fun h' => CS h' r w S K (if clF 120 r (a, 0, 0) = 3 then clD 120 r (a, 0, 0) else q) T)) := by
  have ho : SgO 120 := by unfold SgO; decide
  have F := p_faultOf (d + 3) C.1 I.1.1 ho (a, 0, 0)
  have C2 := C.wk (f := clF 120 r (a, 0, 0)) (re := (clD 120 r (a, 0, 0)).1) (de := (clD 120 r (a, 0, 0)).2)
  have PM := p_permit n (d + 3) C2 I.1.1.2.1 (clF 120 r (a, 0, 0))
  show TX _ _ _ 0 [(0, _), (1, _)] [] _ _
  iterate 9 refine et_s rfl ?_
  refine et_c rfl rfl ⟨Nat.le_of_ble_eq_true rfl, Nat.le_of_ble_eq_true rfl⟩ (F) ?_
  refine et_7 (i := 72) (mj := mX10_permit) 1 rfl (by decide +kernel) rfl ⟨Nat.le_of_ble_eq_true rfl, Nat.le_of_ble_eq_true rfl⟩ (PM) (fun rv9 h9 p9 => ?_) (fun en9 h9 p9 => (by obtain ⟨z1, z2, z3⟩ := p9; subst z3; exact PX.er z1 z2 C2))
  obtain ⟨z1, rfl, C3⟩ := p9
  rw [if_neg (show ¬ clF 120 r (a, 0, 0) = 3 by rw [z1]; decide)] at C3
  have PF := p_perform d C3.1 I hB ho (a, 0, 0) z1
  iterate 8 refine et_s rfl ?_
  refine et_xc rfl rfl ⟨Nat.le_of_ble_eq_true rfl, Nat.le_of_ble_eq_true rfl⟩ (PF) (fun rv9 h9 p9 => ?_)
  obtain ⟨rfl, P4, F4⟩ := p9
  refine et_q rfl ?_
  exact PX.ok z1 ⟨rfl, C3.frH P4 F4⟩
theorem p_op_pass (n d : Nat) (C : CS h r w S K q T) (I : Inv B r w) (hB : B + 48 < 2 ^ 30) (a : Int32) : TM (n + 2) (d + 7) mX10_pass [.ref 31, .int a] h (PX (clF 104 r (a, 0, 0)) (flE (clF 104 r (a, 0, 0))) (fun v h' => v = some (.int (pfA 104 r w (a, 0, 0))) ∧ CS h' (pfR 104 r w (a, 0, 0)) (pfW 104 r w (a, 0, 0)) S (pushK K r w) q T) (fun h' => CS h' r w S K (if clF 104 r (a, 0, 0) = 3 then clD 104 r (a, 0, 0) else q) T)) := by
  have ho : SgO 104 := by unfold SgO; decide
  have F := p_faultOf (d + 3) C.1 I.1.1 ho (a, 0, 0)
  have C2 := C.wk (f := clF 104 r (a, 0, 0)) (re := (clD 104 r (a, 0, 0)).1) (de := (clD 104 r (a, 0, 0)).2)
  have PM := p_permit n (d + 3) C2 I.1.1.2.1 (clF 104 r (a, 0, 0))
  show TX _ _ _ 0 [(0, _), (1, _)] [] _ _
  iterate 9 refine et_s rfl ?_
  refine et_c rfl rfl ⟨Nat.le_of_ble_eq_true rfl, Nat.le_of_ble_eq_true rfl⟩ (F) ?_
  refine et_7 (i := 72) (mj := mX10_permit) 1 rfl (by decide +kernel) rfl ⟨Nat.le_of_ble_eq_true rfl, Nat.le_of_ble_eq_true rfl⟩ (PM) (fun rv9 h9 p9 => ?_) (fun en9 h9 p9 => (by obtain ⟨z1, z2, z3⟩ := p9; subst z3; exact PX.er z1 z2 C2))
  obtain ⟨z1, rfl, C3⟩ := p9
  rw [if_neg (show ¬ clF 104 r (a, 0, 0) = 3 by rw [z1]; decide)] at C3
  have PF := p_perform d C3.1 I hB ho (a, 0, 0) z1
  iterate 8 refine et_s rfl ?_
  refine et_xc rfl rfl ⟨Nat.le_of_ble_eq_true rfl, Nat.le_of_ble_eq_true rfl⟩ (PF) (fun rv9 h9 p9 => ?_)
  obtain ⟨rfl, P4, F4⟩ := p9
  refine et_q rfl ?_
  exact PX.ok z1 ⟨rfl, C3.frH P4 F4⟩
end
end
