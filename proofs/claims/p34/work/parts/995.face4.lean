-- needs: 994
noncomputable section
theorem palL58 : PalL 58 := ⟨rfl, rfl, rfl, rfl, rfl, rfl, rfl, rfl, rfl, rfl, rfl, rfl, rfl⟩
section
variable {h h9 : AH} {r r9 : Nat → Int32} {w w9 : Nat → UInt32} {S : Sv} {K : Hs} {q : Int32 × Int32} {T : Tx} {B : Nat}
def appC (T : Tx) : Int32 := if T.1 < 60 then 0 else 1
theorem CS.app (C : CS h r w S K q T) (hL : T.1 < 60) (x : Int32) : CS (hI (hI h 207 T.1 x) 206 5 (nI (T.1 + 1))) r w S K q (T.1 + 1, T.2.1, upd T.2.2 T.1 x) := by
  obtain ⟨a1, ⟨b1, b2⟩, ⟨c0, N, c1, c2, c3, c4⟩, ⟨d1, d2⟩, e1, e2, e3, e4⟩ := C
  have e : ∀ a, a ≠ 206 → a ≠ 207 → (hI (hI h 207 T.1 x) 206 5 (nI (T.1 + 1))).1 a = h.1 a ∧ (hI (hI h 207 T.1 x) 206 5 (nI (T.1 + 1))).2.1 a = h.2.1 a := fun a ha hb => ⟨by rw [hI_ne ha, hI_ne hb], rfl⟩
  have m : ∀ x, x % 8 < 8 := fun x => Nat.mod_lt _ (by decide)
  refine ⟨a1.same (fun a x y => e a (by omega) (by omega)), ⟨by rw [(e 31 (by decide) (by decide)).1]; exact b1, fun s => (b2 s).same (fun a x y => e a (by omega) (by omega))⟩, ⟨c0, N, c1, by rw [(e 100 (by decide) (by decide)).1]; exact c2, by rw [(e 100 (by decide) (by decide)).1]; exact c3, fun i hi => (c4 i hi).same (fun a x y => e a (by have := m (N + 8 - K.1 + i); omega) (by have := m (N + 8 - K.1 + i); omega))⟩, ⟨by rw [(e 71 (by decide) (by decide)).1]; exact d1, by rw [(e 71 (by decide) (by decide)).1]; exact d2⟩, ?_, Nat.succ_le_of_lt hL, ?_, ?_⟩
  · rw [hI_at, upd_eq]
  · rw [hI_at, upd_ne (by decide), hI_ne (by decide)]; exact e3
  · rw [hI_ne (by decide), hI_at, e4]
theorem p_op_append (n d : Nat) (C : CS h r w S K q T) {x : Int32} (hx : kOk 2 x = true) : TM (n + 1) (d + 1) mX10_append [.ref 31, .int x] h (PX (appC T) 4 (fun v h' => v = some (.int (nI (T.1 + 1))) ∧ CS h' r w S K q (T.1 + 1, T.2.1, upd T.2.2 T.1 x)) (fun h' => CS h' r w S K q T)) := by
  have e5 : h.1 206 5 = nI T.1 := C.2.2.2.2.1
  have e6 : T.1 ≤ 60 := C.2.2.2.2.2.1
  have Hs := p_hasSpace d e5 e6
  by_cases c : T.1 < 60
  · have e : appC T = 0 := if_pos c
    have A := p_add d e5 c hx
    have g5 : (hI (hI h 207 T.1 x) 206 5 (nI (T.1 + 1))).1 206 5 = nI (T.1 + 1) := by rw [hI_at, upd_eq]
    have C2 := C.app c x
    have L := p_inputLength d (hI (hI h 207 T.1 x) 206 5 (nI (T.1 + 1)))
    rw [g5] at L
    show TX _ _ _ 0 [(0, _), (1, _)] [] _ _
    iterate 2 refine et_s rfl ?_
    refine et_c rfl rfl ⟨Nat.le_of_ble_eq_true rfl, Nat.le_of_ble_eq_true rfl⟩ (Hs) ?_
    refine et_b rfl rfl (fun _ => ?_) (fun q => absurd (bI_ne.mpr c) q)
    iterate 3 refine et_s rfl ?_
    refine et_c rfl rfl ⟨Nat.le_of_ble_eq_true rfl, Nat.le_of_ble_eq_true rfl⟩ (A) ?_
    iterate 2 refine et_s rfl ?_
    refine et_c rfl rfl ⟨Nat.le_of_ble_eq_true rfl, Nat.le_of_ble_eq_true rfl⟩ (L) ?_
    refine et_q rfl ?_
    exact PX.ok e ⟨rfl, C2⟩
  · have e : appC T = 1 := if_neg c
    show TX _ _ _ 0 [(0, _), (1, _)] [] _ _
    iterate 2 refine et_s rfl ?_
    refine et_c rfl rfl ⟨Nat.le_of_ble_eq_true rfl, Nat.le_of_ble_eq_true rfl⟩ (Hs) ?_
    refine et_b rfl rfl (fun q => absurd q (fun z => z (bI_eq.mpr c))) (fun _ => ?_)
    refine et_t 4 rfl (by decide +kernel) (Nat.le_of_ble_eq_true rfl) ?_
    exact PX.er (by rw [e]; decide) rfl C
def rfuC (q : Int32 × Int32) : Int32 := if q.1 = 0 then 1 else 0
theorem sw_c10 : ∀ i, i < 13 → swt (cSw mX10_account 19) (nI i) = 60 := by decide
theorem p_op_account (n d : Nat) (C : CS h r w S K q T) (I : Inv B r w) (x : Int32) : TM (n + 1) (d + 3) mX10_account [.ref 31, .int x] h (PX (acctC x) 1 (fun v h' => v = some (.int (acctV r (nI T.1) (nI K.1) x.toNatClampNeg)) ∧ CS h' r w S K q T) (fun h' => CS h' r w S K q T)) := by
  by_cases c1 : x < 0
  · have e : acctC x = 1 := if_neg (fun z => Int32.not_le.mpr c1 z.1)
    show TX _ _ _ 0 [(0, _), (1, _)] [] _ _
    refine et_s rfl ?_
    refine et_b rfl rfl (fun _ => ?_) (fun q => absurd c1 q)
    refine et_t 1 rfl (by decide +kernel) (Nat.le_of_ble_eq_true rfl) ?_
    exact PX.er (by rw [e]; decide) rfl C
  · by_cases c2 : x ≤ 14
    · have e : acctC x = 0 := if_pos ⟨Int32.not_lt.mp c1, c2⟩
      obtain ⟨m, hm, rfl⟩ := nI_of2 (M := 14) (n := 14) rfl c1 c2
      rw [cl m]
      rcases (show m < 13 ∨ m = 13 ∨ m = 14 by omega) with t9 | rfl | rfl
      · have A := p_accountOf d C.1 I t9 (nI T.1) (nI K.1)
        show TX _ _ _ 0 [(0, _), (1, _)] [] _ _
        refine et_s rfl ?_
        refine et_b rfl rfl (fun q => absurd q c1) (fun _ => ?_)
        iterate 2 refine et_s rfl ?_
        refine et_b rfl rfl (fun _ => ?_) (fun q => absurd c2 q)
        refine et_s rfl ?_
        refine et_sw rfl (sw_c10 m t9) ?_
        iterate 3 refine et_s rfl ?_
        refine et_c rfl rfl ⟨Nat.le_of_ble_eq_true rfl, Nat.le_of_ble_eq_true rfl⟩ (A) ?_
        refine et_q rfl ?_
        exact PX.ok e ⟨rfl, C⟩
      · have L := p_inputLength (d + 2) h
        rw [show h.1 206 5 = nI T.1 from C.2.2.2.2.1] at L
        show TX _ _ _ 0 [(0, _), (1, _)] [] _ _
        refine et_s rfl ?_
        refine et_b rfl rfl (fun q => absurd q c1) (fun _ => ?_)
        iterate 2 refine et_s rfl ?_
        refine et_b rfl rfl (fun _ => ?_) (fun q => absurd c2 q)
        refine et_s rfl ?_
        refine et_sw rfl rfl ?_
        iterate 2 refine et_s rfl ?_
        refine et_c rfl rfl ⟨Nat.le_of_ble_eq_true rfl, Nat.le_of_ble_eq_true rfl⟩ (L) ?_
        refine et_q rfl ?_
        exact PX.ok e ⟨rfl, C⟩
      · have L := p_hnumber (d + 2) h
        obtain ⟨N, -, -, g2, -⟩ := C.2.2.1.2
        rw [g2] at L
        show TX _ _ _ 0 [(0, _), (1, _)] [] _ _
        refine et_s rfl ?_
        refine et_b rfl rfl (fun q => absurd q c1) (fun _ => ?_)
        iterate 2 refine et_s rfl ?_
        refine et_b rfl rfl (fun _ => ?_) (fun q => absurd c2 q)
        refine et_s rfl ?_
        refine et_sw rfl rfl ?_
        iterate 2 refine et_s rfl ?_
        refine et_c rfl rfl ⟨Nat.le_of_ble_eq_true rfl, Nat.le_of_ble_eq_true rfl⟩ (L) ?_
        refine et_q rfl ?_
        exact PX.ok e ⟨rfl, C⟩
    · have e : acctC x = 1 := if_neg (fun z => c2 z.2)
      show TX _ _ _ 0 [(0, _), (1, _)] [] _ _
      refine et_s rfl ?_
      refine et_b rfl rfl (fun q => absurd q c1) (fun _ => ?_)
      iterate 2 refine et_s rfl ?_
      refine et_b rfl rfl (fun q => absurd q c2) (fun _ => ?_)
      refine et_t 1 rfl (by decide +kernel) (Nat.le_of_ble_eq_true rfl) ?_
      exact PX.er (by rw [e]; decide) rfl C
def undoC (K : Hs) : Int32 := if K.1 = 0 then 1 else 0
theorem CS.undo {N : Nat} (C : CS h r w S K q T) (hK : 0 < K.1) (c1 : N < 8) (c3 : ∀ i, i < K.1 → Pal h (102 + 13 * ((N + 8 - K.1 + i) % 8)) (K.2.1 i) (K.2.2 i)) (g1 : h9.1 100 1 = nI ((N + 7) % 8)) (g2 : h9.1 100 2 = nI (K.1 - 1)) (P : Pal h9 32 r9 w9) (F : ∀ a, a ≠ 100 → (a < 32 ∨ 44 < a) → h9.1 a = h.1 a ∧ h9.2.1 a = h.2.1 a) : CS h9 r9 w9 S (K.1 - 1, K.2) q T := by
  obtain ⟨-, ⟨b1, b2⟩, ⟨c0, -⟩, ⟨d1, d2⟩, e1, e2, e3, e4⟩ := C
  have m : ∀ x, x % 8 < 8 := fun x => Nat.mod_lt _ (by decide)
  refine ⟨P, ⟨by rw [(F 31 (by decide) (by decide)).1]; exact b1, fun s => (b2 s).same (fun a x y => F a (by omega) (by omega))⟩, ⟨by show K.1 - 1 ≤ 8; omega, (N + 7) % 8, m _, g1, g2, fun i hi => ?_⟩, ⟨by rw [(F 71 (by decide) (by decide)).1]; exact d1, by rw [(F 71 (by decide) (by decide)).1]; exact d2⟩, by rw [(F 206 (by decide) (by decide)).1]; exact e1, e2, by rw [(F 206 (by decide) (by decide)).1]; exact e3, by rw [(F 207 (by decide) (by decide)).1]; exact e4⟩
  have hi : i < K.1 - 1 := hi
  show Pal h9 (102 + 13 * (((N + 7) % 8 + 8 - (K.1 - 1) + i) % 8)) (K.2.1 i) (K.2.2 i)
  have := c3 i (by omega)
  rw [show ((N + 7) % 8 + 8 - (K.1 - 1) + i) % 8 = (N + 8 - K.1 + i) % 8 by omega]
  exact this.same (fun a x y => F a (by omega) (by omega))
theorem p_op_undo (n d : Nat) (C : CS h r w S K q T) (I : IS B r w S K) : TM (n + 1) (d + 3) mX10_undo [.ref 31] h (PX (undoC K) 4 (fun v h' => v = some (.int (nI (K.1 - 1))) ∧ CS h' (K.2.1 (K.1 - 1)) (K.2.2 (K.1 - 1)) S (K.1 - 1, K.2) q T) (fun h' => CS h' r w S K q T)) := by
  obtain ⟨c0, N, c1, c2, c3, c4⟩ := C.2.2.1
  have L := p_hnumber (d + 2) h
  rw [c3] at L
  by_cases c : K.1 = 0
  · have e : undoC K = 1 := if_pos c
    show TX _ _ _ 0 [(0, _)] [] _ _
    iterate 2 refine et_s rfl ?_
    refine et_c rfl rfl ⟨Nat.le_of_ble_eq_true rfl, Nat.le_of_ble_eq_true rfl⟩ (L) ?_
    refine et_s rfl ?_
    refine et_b rfl rfl (fun q => absurd q (by rw [c]; decide)) (fun _ => ?_)
    refine et_t 4 rfl (by decide +kernel) (Nat.le_of_ble_eq_true rfl) ?_
    exact PX.er (by rw [e]; decide) rfl C
  · have e : undoC K = 0 := if_neg c
    have P := c4 (K.1 - 1) (by omega)
    rw [show (N + 8 - K.1 + (K.1 - 1)) % 8 = (N + 7) % 8 by omega] at P
    have G := p_goBack d (I.2.2 (K.1 - 1) (by omega)).1.1.2.1 c1 (by omega) c0 c2 c3 P
    show TX _ _ _ 0 [(0, _)] [] _ _
    iterate 2 refine et_s rfl ?_
    refine et_c rfl rfl ⟨Nat.le_of_ble_eq_true rfl, Nat.le_of_ble_eq_true rfl⟩ (L) ?_
    refine et_s rfl ?_
    refine et_b rfl rfl (fun _ => ?_) (fun q => absurd (nI_le (a := 1) (by omega) (by omega)) q)
    iterate 4 refine et_s rfl ?_
    refine et_xc rfl rfl ⟨Nat.le_of_ble_eq_true rfl, Nat.le_of_ble_eq_true rfl⟩ (G) (fun rv9 h9 p9 => ?_)
    obtain ⟨rfl, g1, g2, g3, g4⟩ := p9
    have L2 := p_hnumber (d + 2) h9
    rw [g2] at L2
    have C2 := C.undo (by omega) c1 c4 g1 g2 g3 g4
    iterate 2 refine et_s rfl ?_
    refine et_c rfl rfl ⟨Nat.le_of_ble_eq_true rfl, Nat.le_of_ble_eq_true rfl⟩ (L2) ?_
    refine et_q rfl ?_
    exact PX.ok e ⟨rfl, C2⟩
theorem CS.sv (C : CS h r w S K q T) (P : Pal h9 58 r w) (F : FrP 58 h h9) : CS (hI h9 31 9 1) r w (true, r, w) K q T := by
  obtain ⟨a1, -, ⟨c0, N, c1, c2, c3, c4⟩, ⟨d1, d2⟩, e1, e2, e3, e4⟩ := C
  have m : ∀ x, x % 8 < 8 := fun x => Nat.mod_lt _ (by decide)
  have e : ∀ a, a ≠ 31 → (a < 58 ∨ 70 < a) → (hI h9 31 9 1).1 a = h.1 a ∧ (hI h9 31 9 1).2.1 a = h.2.1 a := fun a ha hb => ⟨by rw [hI_ne ha]; exact (F.1 a (by omega)).1, (F.1 a (by omega)).2⟩
  exact ⟨a1.same (fun a x y => e a (by omega) (by omega)), ⟨by rw [hI_at, upd_eq]; rfl, fun _ => P.same (fun a x y => ⟨hI_ne (by omega), rfl⟩)⟩, ⟨c0, N, c1, by rw [(e 100 (by decide) (by decide)).1]; exact c2, by rw [(e 100 (by decide) (by decide)).1]; exact c3, fun i hi => (c4 i hi).same (fun a x y => e a (by have := m (N + 8 - K.1 + i); omega) (by have := m (N + 8 - K.1 + i); omega))⟩, ⟨by rw [(e 71 (by decide) (by decide)).1]; exact d1, by rw [(e 71 (by decide) (by decide)).1]; exact d2⟩, by rw [(e 206 (by decide) (by decide)).1]; exact e1, e2, by rw [(e 206 (by decide) (by decide)).1]; exact e3, by rw [(e 207 (by decide) (by decide)).1]; exact e4⟩
theorem p_op_save (d : Nat) (C : CS h r w S K q T) (I : Inv B r w) : WM (d + 2) mX10_save [.ref 31] h (fun v h' => v = some (.int (r 4)) ∧ CS h' r w (true, r, w) K q T) := by
  have A := p_copyFrom d palL58 palL32 (by decide) I.1.1.2.1 C.1
  show WX _ _ 0 [(0, _)] [] _ _
  iterate 4 refine ex_s rfl ?_
  refine ex_xc rfl rfl ⟨Nat.le_of_ble_eq_true rfl, Nat.le_of_ble_eq_true rfl⟩ (A) (fun rv9 h9 p9 => ?_)
  obtain ⟨rfl, P1, F1⟩ := p9
  have C2 := C.sv P1 F1
  iterate 6 refine ex_s rfl ?_
  refine ex_q rfl ?_
  exact ⟨congrArg (fun x => some (Value.int x)) (C2.1.hd (i := 4) (by decide)), C2⟩
def restC (S : Sv) : Int32 := if S.1 = true then 0 else 1
theorem CS.rest (C : CS h r w S K q T) (P : Pal h9 32 r9 w9) (F : FrP 32 h h9) : CS (hI h9 100 2 0) r9 w9 S (0, K.2) q T := by
  obtain ⟨-, ⟨b1, b2⟩, ⟨-, N, c1, c2, -⟩, ⟨d1, d2⟩, e1, e2, e3, e4⟩ := C
  have e : ∀ a, a ≠ 100 → (a < 32 ∨ 44 < a) → (hI h9 100 2 0).1 a = h.1 a ∧ (hI h9 100 2 0).2.1 a = h.2.1 a := fun a ha hb => ⟨by rw [hI_ne ha]; exact (F.1 a (by omega)).1, (F.1 a (by omega)).2⟩
  exact ⟨Pal_near P (by decide), ⟨by rw [(e 31 (by decide) (by decide)).1]; exact b1, fun s => (b2 s).same (fun a x y => e a (by omega) (by omega))⟩, ⟨Nat.zero_le _, N, c1, by rw [hI_at, upd_ne (by decide), (F.1 100 (by decide)).1]; exact c2, by rw [hI_at, upd_eq]; rfl, fun i hi => absurd hi (Nat.not_lt_zero _)⟩, ⟨by rw [(e 71 (by decide) (by decide)).1]; exact d1, by rw [(e 71 (by decide) (by decide)).1]; exact d2⟩, by rw [(e 206 (by decide) (by decide)).1]; exact e1, e2, by rw [(e 206 (by decide) (by decide)).1]; exact e3, by rw [(e 207 (by decide) (by decide)).1]; exact e4⟩
theorem p_op_restore (n d : Nat) (C : CS h r w S K q T) (I : IS B r w S K) : TM (n + 1) (d + 2) mX10_restore [.ref 31] h (PX (restC S) 4 (fun v h' => v = some (.int (S.2.1 4)) ∧ CS h' S.2.1 S.2.2 S (0, K.2) q T) (fun h' => CS h' r w S K q T)) := by
  obtain ⟨b1, b2⟩ := C.2.1
  by_cases c : S.1 = true
  · have e : restC S = 0 := if_pos c
    have A := p_copyFrom d palL32 palL58 (by decide) (I.2.1 c).1.1.2.1 (b2 c)
    show TX _ _ _ 0 [(0, _)] [] _ _
    iterate 2 refine et_s rfl ?_
    refine et_b rfl rfl (fun _ => ?_) (fun q => absurd (by rw [b1]; exact bI_ne.mpr c) q)
    iterate 4 refine et_s rfl ?_
    refine et_xc rfl rfl ⟨Nat.le_of_ble_eq_true rfl, Nat.le_of_ble_eq_true rfl⟩ (A) (fun rv9 h9 p9 => ?_)
    obtain ⟨rfl, P1, F1⟩ := p9
    have C2 := C.rest P1 F1
    iterate 2 refine et_s rfl ?_
    refine et_c rfl rfl ⟨Nat.le_of_ble_eq_true rfl, Nat.le_of_ble_eq_true rfl⟩ (p_forget (d + 1) h9) ?_
    iterate 3 refine et_s rfl ?_
    refine et_q rfl ?_
    exact PX.ok e ⟨congrArg (fun x => some (Value.int x)) (C2.1.hd (i := 4) (by decide)), C2⟩
  · have e : restC S = 1 := if_neg c
    show TX _ _ _ 0 [(0, _)] [] _ _
    iterate 2 refine et_s rfl ?_
    refine et_b rfl rfl (fun q => absurd q (by rw [b1]; exact fun z => z (bI_eq.mpr c))) (fun _ => ?_)
    refine et_t 4 rfl (by decide +kernel) (Nat.le_of_ble_eq_true rfl) ?_
    exact PX.er (by rw [e]; decide) rfl C
end
end
