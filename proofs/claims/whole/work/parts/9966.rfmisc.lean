-- needs: 9965
noncomputable section
section
variable {h h' : AH} {r r' : Nat → Int32} {w w' : Nat → UInt32} {S : Sv} {K : Hs} {q : Int32 × Int32} {T : Tx} {d mj B : Nat} {av : List Value} {code re de er : Int32} {p : Bool} {V : Option Value → Prop}
theorem RS.i0 {x : Int32} (R : RS h r w S K q T) : RS (hI h 0 0 x) r w S K q T := by
  obtain ⟨⟨a1, a2⟩, ⟨b1, b2⟩, ⟨c0, c1, c2⟩, ⟨d1, d2⟩, e1, e2, e3, e4, e5⟩ := R
  have z : ∀ j, j ≠ 0 → (hI h 0 0 x).1 0 j = h.1 0 j := fun j hj => by rw [hI_at, upd_ne hj]
  have e : ∀ a, a ≠ 0 → (hI h 0 0 x).1 a = h.1 a := fun a ha => hI_ne ha
  exact ⟨⟨(e 1 (by decide)).trans a1, a2⟩, ⟨(z 14 (by decide)).trans b1, fun s => ⟨fun j hj => by rw [e 2 (by decide)]; exact (b2 s).1 j hj, (b2 s).2⟩⟩, ⟨c0, (z 11 (by decide)).trans c1, fun i hi => ⟨fun j hj => by rw [e (10 + i) (by omega)]; exact (c2 i hi).1 j hj, (c2 i hi).2⟩⟩, ⟨(z 12 (by decide)).trans d1, (z 13 (by decide)).trans d2⟩, (z 15 (by decide)).trans e1, (z 19 (by decide)).trans e2, e3, (z 21 (by decide)).trans e4, (e 29 (by decide)).trans e5⟩
theorem RS.app (R : RS h r w S K q T) (hL : T.1 < 60) (x : Int32) : RS (hI (hI (hI h 0 0 0) 29 T.1 x) 0 19 (nI (T.1 + 1))) r w S K q (T.1 + 1, T.2.1, upd T.2.2 T.1 x) := by
  obtain ⟨⟨a1, a2⟩, ⟨b1, b2⟩, ⟨c0, c1, c2⟩, ⟨d1, d2⟩, e1, e2, e3, e4, e5⟩ := R
  have z : ∀ j, j ≠ 0 → j ≠ 19 → (hI (hI (hI h 0 0 0) 29 T.1 x) 0 19 (nI (T.1 + 1))).1 0 j = h.1 0 j := fun j h1 h2 => by rw [hI_at, upd_ne h2, hI_ne (by decide), hI_at, upd_ne h1]
  have e : ∀ a, a ≠ 0 → a ≠ 29 → (hI (hI (hI h 0 0 0) 29 T.1 x) 0 19 (nI (T.1 + 1))).1 a = h.1 a := fun a h1 h2 => by rw [hI_ne h1, hI_ne h2, hI_ne h1]
  exact ⟨⟨(e 1 (by decide) (by decide)).trans a1, a2⟩, ⟨(z 14 (by decide) (by decide)).trans b1, fun s => ⟨fun j hj => by rw [e 2 (by decide) (by decide)]; exact (b2 s).1 j hj, (b2 s).2⟩⟩, ⟨c0, (z 11 (by decide) (by decide)).trans c1, fun i hi => ⟨fun j hj => by rw [e (10 + i) (by omega) (by omega)]; exact (c2 i hi).1 j hj, (c2 i hi).2⟩⟩, ⟨(z 12 (by decide) (by decide)).trans d1, (z 13 (by decide) (by decide)).trans d2⟩, (z 15 (by decide) (by decide)).trans e1, by rw [hI_at, upd_eq], Nat.succ_le_of_lt hL, (z 21 (by decide) (by decide)).trans e4, by rw [hI_ne (by decide), hI_at, hI_ne (by decide), e5]⟩
theorem g_append (R : RS h r w S K q T) (a : Int32) (hx : kOk 2 a = true) : WM 20 mX11_append [.ref 0, .int a] h (FQ h (appC T) (nI (T.1 + 1)) (fun g => RS g r w S K q (if appC T = 0 then (T.1 + 1, T.2.1, upd T.2.2 T.1 a) else T))) := by
  have e2 := R.2.2.2.2.2.1
  have e3 := R.2.2.2.2.2.2.1
  by_cases c : T.1 < 60
  · have e : appC T = 0 := if_pos c
    rw [e, if_pos rfl]
    have F := f_append 19 a hx h e2 c
    exact ⟨_, _, F, ⟨_, rfl, fun _ => rfl⟩, R.app c a, by rw [hI_at, upd_ne (by decide), hI_ne (by decide), hI_at, upd_eq], evm_fr rf_clo F (by decide) rfl⟩
  · have e : appC T = 1 := if_neg c
    rw [e, if_neg (by decide)]
    have F := f_append60 19 a h (e2.trans (by rw [show T.1 = 60 by omega]; rfl))
    exact ⟨_, _, F, ⟨_, rfl, fun z => absurd z (by decide)⟩, R.i0, by rw [hI_at, upd_eq], evm_fr rf_clo F (by decide) rfl⟩
theorem g_refusal (R : RS h r w S K q T) (a : Int32) : WM 20 mX11_refusal [.ref 0, .int a] h (FQ h (rfuC q) (if a = 0 then q.1 else q.2) (fun g => RS g r w S K q T)) := by
  have F := f_refusal 19 a h
  rw [R.2.2.2.1.1, R.2.2.2.1.2] at F
  refine ⟨_, _, F, ⟨_, rfl, fun z => ?_⟩, R.i0, by rw [hI_at, upd_eq]; rfl, evm_fr rf_clo F (by decide) rfl⟩
  by_cases c : q.1 = 0
  · exact absurd z (by unfold rfuC; rw [if_pos c]; decide)
  · exact if_neg c
theorem RS.udo (R : RS h r w S K q T) (I : IS B r w S K) {k : Nat} (hk : K.1 = k + 1) : RS (udH h k) (K.2.1 k) (K.2.2 k) S (k, K.2) q T := by
  obtain ⟨⟨a1, a2⟩, ⟨b1, b2⟩, ⟨c0, c1, c2⟩, ⟨d1, d2⟩, e1, e2, e3, e4, e5⟩ := R
  have z : ∀ j, j ≠ 0 → j ≠ 11 → (udH h k).1 0 j = h.1 0 j := fun j h1 h2 => by unfold udH; rw [hFr_1, hIr_ne (by decide), hI_at, upd_ne h2, hI_at, upd_ne h1]
  have e : ∀ a, a ≠ 0 → a ≠ 1 → (udH h k).1 a = h.1 a := fun a h1 h2 => by unfold udH; rw [hFr_1, hIr_ne h2, hI_ne h1, hI_ne h1]
  have f : ∀ a, a ≠ 5 → (udH h k).2.1 a = h.2.1 a := fun a h1 => hFr_ne _ _ h1
  have IK := I.2.2 k (by omega)
  obtain ⟨y1, y2⟩ := c2 k (by omega)
  refine ⟨⟨?_, ?_⟩, ⟨(z 14 (by decide) (by decide)).trans b1, fun s => ⟨fun j hj => by rw [e 2 (by decide) (by decide)]; exact (b2 s).1 j hj, fun j hj => by rw [f 6 (by decide)]; exact (b2 s).2 j hj⟩⟩, ⟨by show k ≤ 8; omega, ?_, fun i (hi : i < k) => ⟨fun j hj => by rw [e (10 + i) (by omega) (by omega)]; exact (c2 i (by omega)).1 j hj, fun j hj => by rw [f (19 + i) (by omega)]; exact (c2 i (by omega)).2 j hj⟩⟩, ⟨(z 12 (by decide) (by decide)).trans d1, (z 13 (by decide) (by decide)).trans d2⟩, (z 15 (by decide) (by decide)).trans e1, (z 19 (by decide) (by decide)).trans e2, e3, (z 21 (by decide) (by decide)).trans e4, (e 29 (by decide) (by decide)).trans e5⟩
  · unfold udH
    rw [hFr_1, hIr_at, a1]
    exact cpI1 y1 IK.2.2.2.1 I.1.2.2.2.1
  · unfold udH
    rw [hFr_at, a2]
    exact cpF1 y2 IK.2.2.2.2.1 I.1.2.2.2.2.1
  · unfold udH
    rw [hFr_1, hIr_ne (by decide), hI_at, upd_eq]
theorem g_undo (R : RS h r w S K q T) (I : IS B r w S K) : WM 20 mX11_undo [.ref 0] h (FQ h (undoC K) (nI (K.1 - 1)) (fun g => RS g (if undoC K = 0 then K.2.1 (K.1 - 1) else r) (if undoC K = 0 then K.2.2 (K.1 - 1) else w) S (if undoC K = 0 then (K.1 - 1, K.2) else K) q T)) := by
  have c1 := R.2.2.1.2.1
  have c0 := R.2.2.1.1
  by_cases c : K.1 = 0
  · have e : undoC K = 1 := if_pos c
    rw [e, if_neg (by decide), if_neg (by decide), if_neg (by decide)]
    have F := f_undo0 19 h (c1.trans (by rw [c]; rfl))
    exact ⟨_, _, F, ⟨_, rfl, fun z => absurd z (by decide)⟩, R.i0, by rw [hI_at, upd_eq], evm_fr rf_clo F (by decide) rfl⟩
  · have e : undoC K = 0 := if_neg c
    rw [e, if_pos rfl, if_pos rfl, if_pos rfl]
    have hk : K.1 = (K.1 - 1) + 1 := by omega
    have F := f_undo 19 h (K := K.1 - 1) (by omega) (c1.trans (congrArg nI hk))
    exact ⟨_, _, F, ⟨_, rfl, fun _ => rfl⟩, R.udo I hk, by unfold udH; rw [hFr_1, hIr_ne (by decide), hI_at, upd_ne (by decide), hI_at, upd_eq], evm_fr rf_clo F (by decide) rfl⟩
theorem RS.rst (R : RS h r w S K q T) (I : IS B r w S K) (hs : S.1 = true) : RS (rsH h) S.2.1 S.2.2 S (0, K.2) q T := by
  obtain ⟨⟨a1, a2⟩, ⟨b1, b2⟩, ⟨c0, c1, c2⟩, ⟨d1, d2⟩, e1, e2, e3, e4, e5⟩ := R
  have z : ∀ j, j ≠ 0 → j ≠ 11 → (rsH h).1 0 j = h.1 0 j := fun j h1 h2 => by unfold rsH; rw [hI_at, upd_ne h2, hFr_1, hIr_ne (by decide), hI_at, upd_ne h1]
  have e : ∀ a, a ≠ 0 → a ≠ 1 → (rsH h).1 a = h.1 a := fun a h1 h2 => by unfold rsH; rw [hI_ne h1, hFr_1, hIr_ne h2, hI_ne h1]
  have f : ∀ a, a ≠ 5 → (rsH h).2.1 a = h.2.1 a := fun a h1 => hFr_ne _ _ h1
  have IK := I.2.1 hs
  obtain ⟨y1, y2⟩ := b2 hs
  refine ⟨⟨?_, ?_⟩, ⟨(z 14 (by decide) (by decide)).trans b1, fun s => ⟨fun j hj => by rw [e 2 (by decide) (by decide)]; exact (b2 s).1 j hj, fun j hj => by rw [f 6 (by decide)]; exact (b2 s).2 j hj⟩⟩, ⟨Nat.zero_le 8, ?_, fun i (hi : i < 0) => absurd hi (Nat.not_lt_zero _)⟩, ⟨(z 12 (by decide) (by decide)).trans d1, (z 13 (by decide) (by decide)).trans d2⟩, (z 15 (by decide) (by decide)).trans e1, (z 19 (by decide) (by decide)).trans e2, e3, (z 21 (by decide) (by decide)).trans e4, (e 29 (by decide) (by decide)).trans e5⟩
  · unfold rsH
    rw [hI_ne (by decide), hFr_1, hIr_at, a1]
    exact cpI1 y1 IK.2.2.2.1 I.1.2.2.2.1
  · show (hFr _ 5 _).2.1 5 = _
    rw [hFr_at, a2]
    exact cpF1 y2 IK.2.2.2.2.1 I.1.2.2.2.2.1
  · unfold rsH
    rw [hI_at, upd_eq]
    rfl
theorem g_restore (R : RS h r w S K q T) (I : IS B r w S K) : WM 20 mX11_restore [.ref 0] h (FQ h (restC S) (S.2.1 4) (fun g => RS g (if restC S = 0 then S.2.1 else r) (if restC S = 0 then S.2.2 else w) S (if restC S = 0 then (0, K.2) else K) q T)) := by
  have b1 := R.2.1.1
  have F := f_restore 19 h
  by_cases c : S.1 = true
  · have e : restC S = 0 := if_pos c
    rw [e, if_pos rfl, if_pos rfl, if_pos rfl]
    have n0 : ¬ h.1 0 14 = 0 := by rw [b1]; exact bI_ne.mpr c
    rw [if_neg n0, if_neg n0] at F
    exact ⟨_, _, F, ⟨_, rfl, fun _ => (R.2.1.2 c).1 4 (by decide)⟩, R.rst I c, by unfold rsH; rw [hI_at, upd_ne (by decide), hFr_1, hIr_ne (by decide), hI_at, upd_eq], evm_fr rf_clo F (by decide) rfl⟩
  · have e : restC S = 1 := if_neg c
    rw [e, if_neg (by decide), if_neg (by decide), if_neg (by decide)]
    have n0 : h.1 0 14 = 0 := by rw [b1]; exact bI_eq.mpr c
    rw [if_pos n0, if_pos n0] at F
    exact ⟨_, _, F, ⟨_, rfl, fun z => absurd z (by decide)⟩, R.i0, by rw [hI_at, upd_eq], evm_fr rf_clo F (by decide) rfl⟩
theorem RS.sav (R : RS h r w S K q T) : RS (svH h) r w (true, r, w) K q T := by
  obtain ⟨⟨a1, a2⟩, -, ⟨c0, c1, c2⟩, ⟨d1, d2⟩, e1, e2, e3, e4, e5⟩ := R
  have z : ∀ j, j ≠ 0 → j ≠ 14 → (svH h).1 0 j = h.1 0 j := fun j h1 h2 => by unfold svH; rw [hFr_1, hIr_ne (by decide), hI_at, upd_ne h2, hI_at, upd_ne h1]
  have e : ∀ a, a ≠ 0 → a ≠ 2 → (svH h).1 a = h.1 a := fun a h1 h2 => by unfold svH; rw [hFr_1, hIr_ne h2, hI_ne h1, hI_ne h1]
  have f : ∀ a, a ≠ 6 → (svH h).2.1 a = h.2.1 a := fun a h1 => hFr_ne _ _ h1
  refine ⟨⟨(e 1 (by decide) (by decide)).trans a1, (f 5 (by decide)).trans a2⟩, ⟨?_, fun _ => ⟨fun j hj => ?_, fun j hj => ?_⟩⟩, ⟨c0, (z 11 (by decide) (by decide)).trans c1, fun i hi => ⟨fun j hj => by rw [e (10 + i) (by omega) (by omega)]; exact (c2 i hi).1 j hj, fun j hj => by rw [f (19 + i) (by omega)]; exact (c2 i hi).2 j hj⟩⟩, ⟨(z 12 (by decide) (by decide)).trans d1, (z 13 (by decide) (by decide)).trans d2⟩, (z 15 (by decide) (by decide)).trans e1, (z 19 (by decide) (by decide)).trans e2, e3, (z 21 (by decide) (by decide)).trans e4, (e 29 (by decide) (by decide)).trans e5⟩
  · unfold svH
    rw [hFr_1, hIr_ne (by decide), hI_at, upd_eq]
    rfl
  · unfold svH
    rw [hFr_1, hIr_at, mapI_lt hj, a1]
  · unfold svH
    rw [hFr_at, mapF_lt hj, a2]
theorem g_save (R : RS h r w S K q T) : WM 20 mX11_save [.ref 0] h (fun v h' => v = some (.int (r 4)) ∧ RS h' r w (true, r, w) K q T ∧ FrX rfP h h') := by
  have F := f_save 19 h
  exact ⟨_, _, F, by rw [R.1.1], R.sav, evm_fr rf_clo F (by decide) rfl⟩
theorem g_errorPosition (R : RS h r w S K q T) : WM 20 mX11_errorPosition [.ref 0] h (fun v h' => v = some (.int T.2.1) ∧ RS h' r w S K q T ∧ FrX rfP h h') := by
  have F := f_errorPosition 19 h
  exact ⟨_, _, F, by rw [R.2.2.2.2.2.2.2.1], R.i0, evm_fr rf_clo F (by decide) rfl⟩
theorem g_isWell (R : RS h r w S K q T) (I : IS B r w S K) : WM 20 mX11_isWell [.ref 0] h (fun v h' => v = some (.int 1) ∧ RS h' r w S K q T ∧ FrX rfP h h') := by
  obtain ⟨e1, e5⟩ := R.1
  subst e1 e5
  have F := f_isWell 8 h I.1.1 I.1.2.1.2.1 I.1.2.2.2.2.2.1 I.1.2.2.2.2.2.2.1 K.1
  rw [R.2.2.2.1.1, R.2.2.2.1.2] at F
  exact (rs_pk (V := fun v => v = some (.int 1)) R (by decide) rfl (F.mono (fun v h' z => ⟨z.1, z.2.q⟩))).mono (fun v h' z => ⟨z.1, z.2.1, z.2.2.2⟩)
theorem g_meanBits (R : RS h r w S K q T) (I : IS B r w S K) : WM 20 mX11_meanBits [.ref 0] h (fun v h' => (∃ a, v = some (.long a) ∧ (meanC r = 0 → a = (meanD r w).toInt64)) ∧ RS h' r w S K q T ∧ h'.1 0 0 = meanC r ∧ FrX rfP h h') := by
  obtain ⟨e1, e5⟩ := R.1
  subst e1 e5
  have F := f_meanBits 18 h I.1.1.1 I.1.2.1.2.1 K.1
  rw [R.2.2.2.1.1, R.2.2.2.1.2] at F
  exact (rs_pk R (by decide) rfl (F.mono (fun v h' z => ⟨z.1, z.2.q⟩))).mono (fun v h' z => ⟨z.1, z.2.1, z.2.2⟩)
theorem g_mass (R : RS h r w S K q T) (I : IS B r w S K) (a : Int32) : WM 20 mX11_mass [.ref 0, .int a] h (fun v h' => (∃ x, v = some (.float x) ∧ (massC r a = 0 → x = w a.toNatClampNeg) ∧ (massC r a ≠ 0 → x = 0)) ∧ RS h' r w S K q T ∧ h'.1 0 0 = massC r a ∧ FrX rfP h h') := by
  obtain ⟨e1, e5⟩ := R.1
  subst e1 e5
  have F := f_mass 18 a h I.1.1.1 K.1
  rw [R.2.2.2.1.1, R.2.2.2.1.2] at F
  exact (rs_pk R (by decide) rfl (F.mono (fun v h' z => ⟨z.1, z.2.q⟩))).mono (fun v h' z => ⟨z.1, z.2.1, z.2.2⟩)
theorem RS.rd (R : RS h r w S K q T) (H : RdP h h' code er re de r' w' p K.1) : RS h' r' w' S (if p = true then pushK K r w else K) (re, de) (0, er, T.2.2) := by
  obtain ⟨⟨a1, a2⟩, ⟨b1, b2⟩, ⟨c0, c1, c2⟩, -, e1, e2, e3, e4, e5⟩ := R
  obtain ⟨g1, g19, g21, g2, g3, g4, g5, g6, f1, f15, f2, f3, f4⟩ := H
  refine ⟨⟨g4, g5⟩, ⟨(f1 14 (by decide) (by decide) (by decide) (by decide)).trans b1, fun s => ⟨fun j hj => by rw [f2]; exact (b2 s).1 j hj, fun j hj => by rw [f4]; exact (b2 s).2 j hj⟩⟩, ?_, ⟨g2, g3⟩, f15, g19, Nat.zero_le 60, g21, f3.trans e5⟩
  cases p with
  | false =>
    obtain ⟨s1, s2⟩ : HSame h h' := g6
    exact ⟨c0, s1.trans c1, fun i (hi : i < K.1) => ⟨fun j hj => by rw [(s2 i (by omega)).1]; exact (c2 i hi).1 j hj, fun j hj => by rw [(s2 i (by omega)).2]; exact (c2 i hi).2 j hj⟩⟩
  | true =>
    obtain ⟨s1, s2, s3⟩ : HPush K.1 1 5 h h' := g6
    refine ⟨Nat.min_le_right _ _, s1, fun i hi => ?_⟩
    have hi : i < min (K.1 + 1) 8 := hi
    show (∀ j, j < 445 → h'.1 (10 + i) j = (if i = min K.1 7 then r else K.2.1 (if K.1 = 8 then i + 1 else i)) j) ∧ ∀ j, j < 40 → h'.2.1 (19 + i) j = (if i = min K.1 7 then w else K.2.2 (if K.1 = 8 then i + 1 else i)) j
    by_cases e : i = min K.1 7
    · rw [if_pos e, if_pos e, e]
      exact ⟨fun j hj => (s3.1 j hj).trans (by rw [a1]), fun j hj => (s3.2 j hj).trans (by rw [a2])⟩
    · rw [if_neg e, if_neg e]
      have hi2 : (if K.1 = 8 then i + 1 else i) < K.1 := by split <;> omega
      obtain ⟨t1, t2⟩ := s2 i (by omega)
      exact ⟨fun j hj => (t1 j hj).trans ((c2 _ hi2).1 j hj), fun j hj => (t2 j hj).trans ((c2 _ hi2).2 j hj)⟩
theorem g_read (R : RS h r w S K q T) (I : IS B r w S K) (hB : B + 3000 < 2 ^ 30) : WM 20 mX11_read [.ref 0] h (FQ h (rdK r w q T) (nI (oN0 T.2.2 T.1 + 1)) (fun g => RS g (if rdK r w q T = 0 then (rdC T.2.2 T.1 r w q).2.1 else r) (if rdK r w q T = 0 then (rdC T.2.2 T.1 r w q).2.2.1 else w) S (if rdK r w q T = 0 then pushK K r w else K) (if rdWr T.2.2 T.1 = true then q else (rdC T.2.2 T.1 r w q).2.2.2) (0, rdE T, T.2.2))) := by
  obtain ⟨e1, e5⟩ := R.1
  subst e1 e5
  have e15 := R.2.2.2.2.1
  have e19 := R.2.2.2.2.2.1
  have e60 := R.2.2.2.2.2.2.1
  have e29 := R.2.2.2.2.2.2.2.2
  have e12 := R.2.2.2.1.1
  have e13 := R.2.2.2.1.2
  by_cases c : rdWr T.2.2 T.1 = true
  · have e : rdK (h.1 1) (h.2.1 5) q T = 1 := if_pos c
    have er : rdE T = nI (rdAt T.2.2 T.1) := if_pos c
    rw [e, er, if_pos c, if_neg (by decide), if_neg (by decide), if_neg (by decide)]
    have F := f_readW 9 (K := K.1) e60 e19 e15 (by rw [e29]; exact c)
    rw [e29, e12, e13] at F
    exact (wm_fr rf_clo F (by decide) rfl).mono (fun v h' z => ⟨by obtain ⟨x, e9⟩ := z.1.1; exact ⟨x, e9, fun y => absurd y (by decide)⟩, R.rd z.1.2, z.1.2.1, z.2⟩)
  · have e : rdK (h.1 1) (h.2.1 5) q T = (rdC T.2.2 T.1 (h.1 1) (h.2.1 5) q).1 := if_neg c
    have er : rdE T = -1 := if_neg c
    rw [e, er, if_neg c]
    have F := f_readR 9 (K := K.1) e60 e19 I.1 hB R.2.2.1.1 R.2.2.1.2.1 (by rw [e29]; exact c)
    rw [e29, e12, e13] at F
    refine (wm_fr rf_clo F (by decide) rfl).mono (fun v h' z => ⟨z.1.1, ?_, z.1.2.1, z.2⟩)
    have Z := R.rd z.1.2
    simp only [decide_eq_true_eq] at Z
    exact Z
end
end
