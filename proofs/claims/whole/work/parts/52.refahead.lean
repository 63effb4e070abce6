-- needs: 51
noncomputable section
/-- what looking ahead leaves alone: the rest is scratch -/
def FrB (h h' : AH) : Prop := (∀ j, j ≠ 0 → (j < 11 ∨ 13 < j) → h'.1 0 j = h.1 0 j) ∧ h'.1 2 = h.1 2 ∧ h'.1 29 = h.1 29 ∧ h'.2.1 6 = h.2.1 6
theorem FrB.rf {h : AH} : FrB h h := ⟨fun _ _ _ => rfl, rfl, rfl, rfl⟩
theorem FrB.tr {a b c : AH} (h1 : FrB a b) (h2 : FrB b c) : FrB a c := ⟨fun j x y => (h2.1 j x y).trans (h1.1 j x y), h2.2.1.trans h1.2.1, h2.2.2.1.trans h1.2.2.1, h2.2.2.2.trans h1.2.2.2⟩
theorem FrO.b {h h' : AH} (F : FrO h h') : FrB h h' := ⟨F.1, F.2.1 2 (by decide) (by decide) (by decide) (by decide), F.2.1 29 (by decide) (by decide) (by decide) (by decide), F.2.2.1 6 (by decide) (by decide) (by decide)⟩
def OqP (h h' : AH) (code re de : Int32) (r' : Nat → Int32) (w' : Nat → UInt32) (p : Bool) (K : Nat) : Prop :=
  h'.1 0 0 = code ∧ h'.1 0 12 = re ∧ h'.1 0 13 = de ∧ h'.1 1 = r' ∧ h'.2.1 5 = w' ∧ HNew p K h h' ∧ FrB h h'
theorem OpP.q {h h' : AH} {code re de : Int32} {r' : Nat → Int32} {w' : Nat → UInt32} {p : Bool} {K : Nat} (H : OpP h h' code re de r' w' p K) : OqP h h' code re de r' w' p K := ⟨H.1, H.2.1, H.2.2.1, H.2.2.2.1, H.2.2.2.2.1, H.2.2.2.2.2.1, H.2.2.2.2.2.2.b⟩
/-- the row and its copy while hours are looked at -/
def BgI (h g : AH) : Prop := (g.1 1 = h.1 1 ∧ g.2.1 5 = h.2.1 5 ∧ g.1 0 = h.1 0 ∧ HSame h g ∧ FrB h g) ∧ (∀ j, j < 445 → g.1 3 j = h.1 1 j) ∧ ∀ j, j < 40 → g.2.1 7 j = h.2.1 5 j
def bgH (h : AH) : AH := hFr (hIr h 3 (mapI (h.1 1) 445 (h.1 3))) 7 (mapF (h.2.1 5) 40 (h.2.1 7))
def edH (g : AH) : AH := hFr (hIr g 1 (mapI (g.1 3) 445 (g.1 1))) 5 (mapF (g.2.1 7) 40 (g.2.1 5))
theorem BgI.bg {h : AH} : BgI h (bgH h) := by
  unfold bgH
  refine ⟨⟨by rw [hFr_1, hIr_ne (by decide)], hFr_ne _ _ (by decide), by rw [hFr_1, hIr_ne (by decide)], ⟨by rw [hFr_1, hIr_ne (by decide)], fun i hi => ⟨by rw [hFr_1, hIr_ne (by omega)], hFr_ne _ _ (by omega)⟩⟩, ⟨fun j a b => by rw [hFr_1, hIr_ne (by decide)], by rw [hFr_1, hIr_ne (by decide)], by rw [hFr_1, hIr_ne (by decide)], hFr_ne _ _ (by decide)⟩⟩, fun j hj => by rw [hFr_1, hIr_at, mapI_lt hj], fun j hj => by rw [hFr_at, mapF_lt hj]⟩
theorem BgI.ed {h g : AH} (H : BgI h g) (z1 : Z9 (h.1 1)) (z2 : ZW (h.2.1 5)) {r' sh : Nat → Int32} {w' ld : Nat → UInt32} (z3 : Z9 r') (z4 : ZW w') : BgI h (edH (hX g r' w' ld sh)) := by
  obtain ⟨⟨a1, a2, a3, a4, a5⟩, a6, a7⟩ := H
  have e3 : (hX g r' w' ld sh).1 3 = g.1 3 := hX_n (by decide) (by decide)
  have e7 : (hX g r' w' ld sh).2.1 7 = g.2.1 7 := hX_m (by decide) (by decide)
  unfold edH
  rw [e3, e7, hX_1, hX_5]
  have F : FrB g (hFr (hIr (hX g r' w' ld sh) 1 (mapI (g.1 3) 445 r')) 5 (mapF (g.2.1 7) 40 w')) := ⟨fun j a b => by rw [hFr_1, hIr_ne (by decide), hX_n (by decide) (by decide)], by rw [hFr_1, hIr_ne (by decide), hX_n (by decide) (by decide)], by rw [hFr_1, hIr_ne (by decide), hX_n (by decide) (by decide)], (hFr_ne _ _ (by decide)).trans (hX_m (r := r') (sh := sh) (by decide) (by decide))⟩
  refine ⟨⟨by rw [hFr_1, hIr_at]; exact cpI1 a6 z1 z3, by rw [hFr_at]; exact cpF1 a7 z2 z4, by rw [hFr_1, hIr_ne (by decide), hX_n (by decide) (by decide)]; exact a3, a4.tr ⟨by rw [hFr_1, hIr_ne (by decide), hX_n (by decide) (by decide)], fun i hi => ⟨by rw [hFr_1, hIr_ne (by omega), hX_n (by omega) (by omega)], (hFr_ne _ _ (by omega)).trans (hX_m (r := r') (sh := sh) (by omega) (by omega))⟩⟩, a5.tr F⟩, fun j hj => ?_, fun j hj => ?_⟩
  · rw [hFr_1, hIr_ne (by decide), e3]; exact a6 j hj
  · exact (congrFun ((hFr_ne _ _ (by decide)).trans e7) j).trans (a7 j hj)
theorem BgI.at {h g : AH} (H : BgI h g) {code : Int32} {K : Nat} : OqP h (hI g 0 0 code) code (h.1 0 12) (h.1 0 13) (h.1 1) (h.2.1 5) false K := by
  obtain ⟨⟨a1, a2, a3, a4, a5⟩, a6, a7⟩ := H
  exact ⟨by rw [hI_at, upd_eq], by rw [hI_at, upd_ne (by decide), a3], by rw [hI_at, upd_ne (by decide), a3], by rw [hI_ne (by decide)]; exact a1, a2, a4.tr (HSame.hI0 (by decide)), a5.tr (FrO.hI0 (Or.inl rfl)).b⟩
theorem BgI.at0 {h g : AH} {x : Int32} (H : BgI (hI h 0 0 x) g) {K : Nat} : OqP h g x (h.1 0 12) (h.1 0 13) (h.1 1) (h.2.1 5) false K := by
  obtain ⟨⟨a1, a2, a3, a4, a5⟩, a6, a7⟩ := H
  refine ⟨by rw [a3, hI_at, upd_eq], by rw [a3, hI_at, upd_ne (by decide)], by rw [a3, hI_at, upd_ne (by decide)], by rw [a1, hI_ne (by decide)], a2, (HSame.hI0 (by decide)).tr a4, (FrO.hI0 (Or.inl rfl)).b.tr a5⟩
theorem hX_same {g : AH} {r : Nat → Int32} {w : Nat → UInt32} (e1 : g.1 1 = r) (e2 : g.2.1 5 = w) : hX g r w (g.2.1 27) (g.1 28) = g := by
  rw [← e1, ← e2]
  exact hX_self
theorem f_begin2 (d : Nat) (h : AH) : EvM (d + 1) mX11_begin [.ref 0] h none (bgH h) := f_begin d h
theorem f_end2 (d : Nat) (g : AH) : EvM (d + 1) mX11_end [.ref 0] g none (edH g) := f_end d g
def leftC (n : Int32) : Int32 := if 0 ≤ n ∧ n ≤ 48 then 0 else 1
theorem f_left (d : Nat) (n : Int32) (h : AH) {B : Nat} (hS : HS B (h.1 1) (h.2.1 5)) (hB : B + 48 < 2 ^ 30) (z1 : Z9 (h.1 1)) (z2 : ZW (h.2.1 5)) (K : Nat) : WM (d + 9) mX11_left [.ref 0, .int n] h (fun v h' => (∃ a, v = some (.int a) ∧ (leftC n = 0 → a = nI (onN (hoursR n.toNatClampNeg (h.1 1) (h.2.1 5))))) ∧ OqP h h' (leftC n) (h.1 0 12) (h.1 0 13) (h.1 1) (h.2.1 5) false K) := by
  have T1 := f_isBetween (d + 8) n 0 48 h
  have e1 : (hI h 0 0 0).1 1 = h.1 1 := hI_ne (by decide)
  by_cases c1 : 0 ≤ n ∧ n ≤ 48
  · have e : leftC n = 0 := by unfold leftC; rw [if_pos c1]
    obtain ⟨N, hN, rfl⟩ := nI_of2 (M := 48) (n := 48) rfl (Int32.not_lt.mpr c1.1) c1.2
    rw [e, nI_clamp (by omega)]
    have Bg := f_begin2 (d + 7) (hI h 0 0 0)
    have I := BgI.bg (h := hI h 0 0 0)
    obtain ⟨ld, sh, G⟩ := f_goHours d N (bgH (hI h 0 0 0)) (h.1 1) (h.2.1 5) ((bgH (hI h 0 0 0)).2.1 27) ((bgH (hI h 0 0 0)).1 28) hS (by omega)
    have es := hX_same (g := bgH (hI h 0 0 0)) (w := h.2.1 5) (I.1.1.trans e1) I.1.2.1
    rw [es] at G
    have hz := hours_Z N B hS (by omega) z1 z2
    have hh := hours_HS N hS (by omega)
    have C := f_countState (d + 7) 1 (hX (bgH (hI h 0 0 0)) (hoursR N (h.1 1) (h.2.1 5)) (hoursW N (h.1 1) (h.2.1 5)) ld sh) (by rw [hX_1]; exact hh.1)
    rw [hX_1] at C
    have E := f_end2 (d + 7) (hX (bgH (hI h 0 0 0)) (hoursR N (h.1 1) (h.2.1 5)) (hoursW N (h.1 1) (h.2.1 5)) ld sh)
    have J := I.ed (by rw [e1]; exact z1) z2 (sh := sh) (ld := ld) hz.1 hz.2
    show WX _ _ 0 [(0, _), (1, _)] [] _ _
    iterate 5 refine ex_s rfl ?_
    refine ex_c rfl rfl ⟨Nat.le_of_ble_eq_true rfl, Nat.le_of_ble_eq_true rfl⟩ (T1) ?_
    refine ex_b rfl rfl (fun _ => ?_) (fun q => absurd (bI_ne.mpr c1) q)
    refine ex_s rfl ?_
    refine ex_c rfl rfl ⟨Nat.le_of_ble_eq_true rfl, Nat.le_of_ble_eq_true rfl⟩ (f_failsF _ _ _) ?_
    refine ex_b rfl rfl (fun _ => ?_) (fun q => absurd rfl q)
    refine ex_s rfl ?_
    refine ex_c rfl rfl ⟨Nat.le_of_ble_eq_true rfl, Nat.le_of_ble_eq_true rfl⟩ (Bg) ?_
    iterate 2 refine ex_s rfl ?_
    refine ex_c rfl rfl ⟨Nat.le_of_ble_eq_true rfl, Nat.le_of_ble_eq_true rfl⟩ (G) ?_
    iterate 2 refine ex_s rfl ?_
    refine ex_c rfl rfl ⟨Nat.le_of_ble_eq_true rfl, Nat.le_of_ble_eq_true rfl⟩ (C) ?_
    iterate 2 refine ex_s rfl ?_
    refine ex_c rfl rfl ⟨Nat.le_of_ble_eq_true rfl, Nat.le_of_ble_eq_true rfl⟩ (E) ?_
    refine ex_s rfl ?_
    refine ex_q rfl ?_
    exact ⟨⟨_, rfl, fun _ => rfl⟩, J.at0⟩
  · have e : leftC n = 1 := by unfold leftC; rw [if_neg c1]
    rw [e]
    show WX _ _ 0 [(0, _), (1, _)] [] _ _
    iterate 5 refine ex_s rfl ?_
    refine ex_c rfl rfl ⟨Nat.le_of_ble_eq_true rfl, Nat.le_of_ble_eq_true rfl⟩ (T1) ?_
    refine ex_b rfl rfl (fun q => absurd q (fun q => q (bI_eq.mpr c1))) (fun _ => ?_)
    refine ex_s rfl ?_
    refine ex_g rfl rfl ?_
    refine ex_c rfl rfl ⟨Nat.le_of_ble_eq_true rfl, Nat.le_of_ble_eq_true rfl⟩ (f_failsT _ _ _) ?_
    refine ex_b rfl rfl (fun q => absurd q (by decide)) (fun _ => ?_)
    refine ex_s rfl ?_
    refine ex_q rfl ?_
    exact ⟨⟨_, rfl, fun q => absurd q (by decide)⟩, OpP_x.q⟩
def mbC (r : Nat → Int32) (x n : Int32) : Int32 := if ¬ (0 ≤ x ∧ x ≤ r 4 - 1) then 1 else if 0 ≤ n ∧ n ≤ 48 then 0 else 2
def mbA (r : Nat → Int32) (w : Nat → UInt32) (b n : Nat) : Int32 := if ofB (hoursR n r w) b 2 = 2 then -1 else (hoursW n r w b).toInt32
theorem f_massBits (d : Nat) (x n : Int32) (h : AH) {B : Nat} (hT : Str (h.1 1)) (hS : HS B (h.1 1) (h.2.1 5)) (hK : MasK (h.1 1) (h.2.1 5)) (hB : B + 48 < 2 ^ 30) (z1 : Z9 (h.1 1)) (z2 : ZW (h.2.1 5)) (K : Nat) : WM (d + 9) mX11_massBits [.ref 0, .int x, .int n] h (fun v h' => (∃ a, v = some (.int a) ∧ (mbC (h.1 1) x n = 0 → a = mbA (h.1 1) (h.2.1 5) x.toNatClampNeg n.toNatClampNeg)) ∧ OqP h h' (mbC (h.1 1) x n) (h.1 0 12) (h.1 0 13) (h.1 1) (h.2.1 5) false K) := by
  have B1 := f_isBlock (d + 7) x h
  have T1 := f_isBetween (d + 8) n 0 48 (hI h 0 0 0)
  have e1 : (hI h 0 0 0).1 1 = h.1 1 := hI_ne (by decide)
  have hw := hS.1
  have h40 := hw.2.1
  by_cases c1 : 0 ≤ x ∧ x ≤ h.1 1 4 - 1
  · obtain ⟨b, hb, rfl⟩ := (blk_or hw x).resolve_right (fun q => q c1)
    by_cases c2 : 0 ≤ n ∧ n ≤ 48
    · have e : mbC (h.1 1) (nI b) n = 0 := by unfold mbC; rw [if_neg (fun q => q c1), if_pos c2]
      obtain ⟨N, hN, rfl⟩ := nI_of2 (M := 48) (n := 48) rfl (Int32.not_lt.mpr c2.1) c2.2
      rw [e, nI_clamp (by omega), nI_clamp (by omega)]
      have Bg := f_begin2 (d + 7) (hI h 0 0 0)
      have I := BgI.bg (h := hI h 0 0 0)
      obtain ⟨ld, sh, G⟩ := f_goHours d N (bgH (hI h 0 0 0)) (h.1 1) (h.2.1 5) ((bgH (hI h 0 0 0)).2.1 27) ((bgH (hI h 0 0 0)).1 28) hS (by omega)
      have es := hX_same (g := bgH (hI h 0 0 0)) (w := h.2.1 5) (I.1.1.trans e1) I.1.2.1
      rw [es] at G
      have hz := hours_Z N B hS (by omega) z1 z2
      have hh := hours_HS N hS (by omega)
      have hcn := hours_CN N B hS (by omega)
      have O := f_of (d + 8) (b := b) (by omega) (x := 2) (by omega) (hX (bgH (hI h 0 0 0)) (hoursR N (h.1 1) (h.2.1 5)) (hoursW N (h.1 1) (h.2.1 5)) ld sh)
      rw [hX_1] at O
      have E := f_end2 (d + 7) (hX (bgH (hI h 0 0 0)) (hoursR N (h.1 1) (h.2.1 5)) (hoursW N (h.1 1) (h.2.1 5)) ld sh)
      have J := I.ed (by rw [e1]; exact z1) z2 (sh := sh) (ld := ld) hz.1 hz.2
      unfold mbA
      by_cases c3 : ofB (hoursR N (h.1 1) (h.2.1 5)) b 2 = 2
      · rw [if_pos c3]
        show WX _ _ 0 [(0, _), (1, _), (2, _)] [] _ _
        iterate 4 refine ex_s rfl ?_
        refine ex_c rfl rfl ⟨Nat.le_of_ble_eq_true rfl, Nat.le_of_ble_eq_true rfl⟩ (B1) ?_
        refine ex_b rfl rfl (fun _ => ?_) (fun q => absurd (bI_ne.mpr c1) q)
        refine ex_s rfl ?_
        refine ex_c rfl rfl ⟨Nat.le_of_ble_eq_true rfl, Nat.le_of_ble_eq_true rfl⟩ (f_failsF _ _ _) ?_
        refine ex_b rfl rfl (fun q => absurd q (fun q => q rfl)) (fun _ => ?_)
        iterate 5 refine ex_s rfl ?_
        refine ex_c rfl rfl ⟨Nat.le_of_ble_eq_true rfl, Nat.le_of_ble_eq_true rfl⟩ (T1) ?_
        refine ex_b rfl rfl (fun _ => ?_) (fun q => absurd (bI_ne.mpr c2) q)
        refine ex_s rfl ?_
        refine ex_c rfl rfl ⟨Nat.le_of_ble_eq_true rfl, Nat.le_of_ble_eq_true rfl⟩ (f_failsF _ _ _) ?_
        refine ex_b rfl rfl (fun _ => ?_) (fun q => absurd rfl q)
        rw [hI_2]
        refine ex_s rfl ?_
        refine ex_c rfl rfl ⟨Nat.le_of_ble_eq_true rfl, Nat.le_of_ble_eq_true rfl⟩ (Bg) ?_
        iterate 2 refine ex_s rfl ?_
        refine ex_c rfl rfl ⟨Nat.le_of_ble_eq_true rfl, Nat.le_of_ble_eq_true rfl⟩ (G) ?_
        iterate 3 refine ex_s rfl ?_
        refine ex_c rfl rfl ⟨Nat.le_of_ble_eq_true rfl, Nat.le_of_ble_eq_true rfl⟩ (O) ?_
        refine ex_s rfl ?_
        refine ex_b rfl rfl (fun q => absurd q (fun q => q c3)) (fun _ => ?_)
        refine ex_s rfl ?_
        refine ex_g rfl rfl ?_
        iterate 2 refine ex_s rfl ?_
        refine ex_c rfl rfl ⟨Nat.le_of_ble_eq_true rfl, Nat.le_of_ble_eq_true rfl⟩ (E) ?_
        refine ex_s rfl ?_
        refine ex_q rfl ?_
        exact ⟨⟨_, rfl, fun _ => rfl⟩, J.at0⟩
      · rw [if_neg c3]
        have mo : mOk (hoursW N (h.1 1) (h.2.1 5) b) := by
          have hb2 : b < CN (hoursR N (h.1 1) (h.2.1 5)) := by rw [hcn]; exact hb
          rcases ((hours_Str N (w := h.2.1 5) hT).b hb2).2 with q | q | q
          · exact hours_MasK N B hS (by omega) hK b hb2 q.1
          · exact hh.2.1 b hb2 q.1
          · exact absurd q.1 c3
        have FB := f_bits (d + 7) (x := hoursW N (h.1 1) (h.2.1 5) b) (Nat.le_trans mo.2 (by decide)) (hX (bgH (hI h 0 0 0)) (hoursR N (h.1 1) (h.2.1 5)) (hoursW N (h.1 1) (h.2.1 5)) ld sh)
        show WX _ _ 0 [(0, _), (1, _), (2, _)] [] _ _
        iterate 4 refine ex_s rfl ?_
        refine ex_c rfl rfl ⟨Nat.le_of_ble_eq_true rfl, Nat.le_of_ble_eq_true rfl⟩ (B1) ?_
        refine ex_b rfl rfl (fun _ => ?_) (fun q => absurd (bI_ne.mpr c1) q)
        refine ex_s rfl ?_
        refine ex_c rfl rfl ⟨Nat.le_of_ble_eq_true rfl, Nat.le_of_ble_eq_true rfl⟩ (f_failsF _ _ _) ?_
        refine ex_b rfl rfl (fun q => absurd q (fun q => q rfl)) (fun _ => ?_)
        iterate 5 refine ex_s rfl ?_
        refine ex_c rfl rfl ⟨Nat.le_of_ble_eq_true rfl, Nat.le_of_ble_eq_true rfl⟩ (T1) ?_
        refine ex_b rfl rfl (fun _ => ?_) (fun q => absurd (bI_ne.mpr c2) q)
        refine ex_s rfl ?_
        refine ex_c rfl rfl ⟨Nat.le_of_ble_eq_true rfl, Nat.le_of_ble_eq_true rfl⟩ (f_failsF _ _ _) ?_
        refine ex_b rfl rfl (fun _ => ?_) (fun q => absurd rfl q)
        rw [hI_2]
        refine ex_s rfl ?_
        refine ex_c rfl rfl ⟨Nat.le_of_ble_eq_true rfl, Nat.le_of_ble_eq_true rfl⟩ (Bg) ?_
        iterate 2 refine ex_s rfl ?_
        refine ex_c rfl rfl ⟨Nat.le_of_ble_eq_true rfl, Nat.le_of_ble_eq_true rfl⟩ (G) ?_
        iterate 3 refine ex_s rfl ?_
        refine ex_c rfl rfl ⟨Nat.le_of_ble_eq_true rfl, Nat.le_of_ble_eq_true rfl⟩ (O) ?_
        refine ex_s rfl ?_
        refine ex_b rfl rfl (fun _ => ?_) (fun q => absurd c3 q)
        iterate 3 refine ex_s rfl ?_
        refine ex_fl rfl rfl (vi) ?_
        rw [cl b, hX_5]
        refine ex_c rfl rfl ⟨Nat.le_of_ble_eq_true rfl, Nat.le_of_ble_eq_true rfl⟩ (FB) ?_
        iterate 2 refine ex_s rfl ?_
        refine ex_c rfl rfl ⟨Nat.le_of_ble_eq_true rfl, Nat.le_of_ble_eq_true rfl⟩ (E) ?_
        refine ex_s rfl ?_
        refine ex_q rfl ?_
        exact ⟨⟨_, rfl, fun _ => rfl⟩, J.at0⟩
    · have e : mbC (h.1 1) (nI b) n = 2 := by unfold mbC; rw [if_neg (fun q => q c1), if_neg c2]
      rw [e]
      show WX _ _ 0 [(0, _), (1, _), (2, _)] [] _ _
      iterate 4 refine ex_s rfl ?_
      refine ex_c rfl rfl ⟨Nat.le_of_ble_eq_true rfl, Nat.le_of_ble_eq_true rfl⟩ (B1) ?_
      refine ex_b rfl rfl (fun _ => ?_) (fun q => absurd (bI_ne.mpr c1) q)
      refine ex_s rfl ?_
      refine ex_c rfl rfl ⟨Nat.le_of_ble_eq_true rfl, Nat.le_of_ble_eq_true rfl⟩ (f_failsF _ _ _) ?_
      refine ex_b rfl rfl (fun q => absurd q (fun q => q rfl)) (fun _ => ?_)
      iterate 5 refine ex_s rfl ?_
      refine ex_c rfl rfl ⟨Nat.le_of_ble_eq_true rfl, Nat.le_of_ble_eq_true rfl⟩ (T1) ?_
      refine ex_b rfl rfl (fun q => absurd q (fun q => q (bI_eq.mpr c2))) (fun _ => ?_)
      refine ex_s rfl ?_
      refine ex_g rfl rfl ?_
      refine ex_c rfl rfl ⟨Nat.le_of_ble_eq_true rfl, Nat.le_of_ble_eq_true rfl⟩ (f_failsT _ _ _) ?_
      refine ex_b rfl rfl (fun q => absurd q (by decide)) (fun _ => ?_)
      rw [hI_2]
      refine ex_s rfl ?_
      refine ex_q rfl ?_
      exact ⟨⟨_, rfl, fun q => absurd q (by decide)⟩, OpP_x.q⟩
  · have e : mbC (h.1 1) x n = 1 := by unfold mbC; rw [if_pos c1]
    rw [e]
    show WX _ _ 0 [(0, _), (1, _), (2, _)] [] _ _
    iterate 4 refine ex_s rfl ?_
    refine ex_c rfl rfl ⟨Nat.le_of_ble_eq_true rfl, Nat.le_of_ble_eq_true rfl⟩ (B1) ?_
    refine ex_b rfl rfl (fun q => absurd q (fun q => q (bI_eq.mpr c1))) (fun _ => ?_)
    refine ex_s rfl ?_
    refine ex_g rfl rfl ?_
    refine ex_c rfl rfl ⟨Nat.le_of_ble_eq_true rfl, Nat.le_of_ble_eq_true rfl⟩ (f_failsT _ _ _) ?_
    refine ex_b rfl rfl (fun _ => ?_) (fun q => absurd (by decide) q)
    refine ex_s rfl ?_
    refine ex_q rfl ?_
    exact ⟨⟨_, rfl, fun q => absurd q (by decide)⟩, OpP_x.q⟩
/-- the first hour after which a block is gone from the wall, 97: none -/
def gnP (r : Nat → Int32) (w : Nat → UInt32) (i : Nat) : Bool := decide (onN (hoursR i r w) ≠ onN r)
abbrev gnK (r : Nat → Int32) (w : Nat → UInt32) : Nat := fstP (gnP r w) 97 97 0
def gnC (r : Nat → Int32) (w : Nat → UInt32) : Int32 := if gnK r w < 97 then 0 else 1
/-- the walk over the hours -/
theorem f_gone_loop (d : Nat) (h g0 : AH) {B : Nat} (hS : HS B (h.1 1) (h.2.1 5)) (hB : B + 96 < 2 ^ 30) (Q : Option Value → AH → Prop) (KT : ∀ ld sh, gnK (h.1 1) (h.2.1 5) < 97 → WX (d + 9) mX11_goneIn 37 [(0, .ref 0), (1, .int (nI (onN (h.1 1)))), (2, .int (nI (gnK (h.1 1) (h.2.1 5))))] [] (hX g0 (hoursR (gnK (h.1 1) (h.2.1 5)) (h.1 1) (h.2.1 5)) (hoursW (gnK (h.1 1) (h.2.1 5)) (h.1 1) (h.2.1 5)) ld sh) Q) (KF : ∀ ld sh, gnK (h.1 1) (h.2.1 5) = 97 → onN (hoursR 96 (h.1 1) (h.2.1 5)) = onN (h.1 1) → WX (d + 9) mX11_goneIn 37 [(0, .ref 0), (1, .int (nI (onN (h.1 1)))), (2, .int (nI 96))] [] (hX g0 (hoursR 96 (h.1 1) (h.2.1 5)) (hoursW 96 (h.1 1) (h.2.1 5)) ld sh) Q) : ∀ (m i : Nat) (ld : Nat → UInt32) (sh : Nat → Int32), i + m = 96 → gnK (h.1 1) (h.2.1 5) = fstP (gnP (h.1 1) (h.2.1 5)) 97 (m + 1) i → WX (d + 9) mX11_goneIn 12 [(0, .ref 0), (1, .int (nI (onN (h.1 1)))), (2, .int (nI i))] [] (hX g0 (hoursR i (h.1 1) (h.2.1 5)) (hoursW i (h.1 1) (h.2.1 5)) ld sh) Q
  | 0, i, ld, sh, hi, e => by
    have hi : i = 96 := by omega
    subst hi
    have W : WX (d + 9) mX11_goneIn 37 [(0, .ref 0), (1, .int (nI (onN (h.1 1)))), (2, .int (nI 96))] [] (hX g0 (hoursR 96 (h.1 1) (h.2.1 5)) (hoursW 96 (h.1 1) (h.2.1 5)) ld sh) Q := by
      by_cases c1 : onN (hoursR 96 (h.1 1) (h.2.1 5)) = onN (h.1 1)
      · rw [fstP_f (show ¬ gnP (h.1 1) (h.2.1 5) 96 = true from fun q => (of_decide_eq_true q) c1)] at e
        exact KF ld sh e c1
      · rw [fstP_t (show gnP (h.1 1) (h.2.1 5) 96 = true from decide_eq_true c1)] at e
        have Z := KT ld sh (by rw [e]; decide)
        rw [e] at Z
        exact Z
    iterate 2 refine ex_s rfl ?_
    refine ex_b rfl rfl (fun _ => ?_) (fun q => absurd (Int32.le_refl _) q)
    exact ex_sub (sub3 rfl rfl rfl) W
  | m + 1, i, ld, sh, hi, e => by
    have le := hours_on i B hS (by omega)
    have l40 := onN_le hS.1
    have hh := hours_HS i hS (by omega)
    have C := f_countState (d + 7) 1 (hX g0 (hoursR i (h.1 1) (h.2.1 5)) (hoursW i (h.1 1) (h.2.1 5)) ld sh) (by rw [hX_1]; exact hh.1)
    rw [hX_1] at C
    by_cases c1 : onN (hoursR i (h.1 1) (h.2.1 5)) = onN (h.1 1)
    · rw [fstP_f (show ¬ gnP (h.1 1) (h.2.1 5) i = true from fun q => (of_decide_eq_true q) c1)] at e
      obtain ⟨ld2, sh2, G⟩ := f_goHour (d + 1) g0 (hoursR i (h.1 1) (h.2.1 5)) (hoursW i (h.1 1) (h.2.1 5)) ld sh hh
      have hs := hours_s i (r := h.1 1) (w := h.2.1 5)
      rw [← hs.1, ← hs.2] at G
      have IH := f_gone_loop d h g0 hS hB Q KT KF m (i + 1) ld2 sh2 (by omega) e
      iterate 2 refine ex_s rfl ?_
      refine ex_b rfl rfl (fun q => absurd q (nI_ge (b := 96) (by omega) (by omega))) (fun _ => ?_)
      iterate 2 refine ex_s rfl ?_
      refine ex_c rfl rfl ⟨Nat.le_of_ble_eq_true rfl, Nat.le_of_ble_eq_true rfl⟩ (C) ?_
      refine ex_s rfl ?_
      refine ex_b rfl rfl (fun q => absurd q (fun q => q (by rw [show cntS (hoursR i (h.1 1) (h.2.1 5)) 1 (CN (hoursR i (h.1 1) (h.2.1 5))) = onN (h.1 1) from c1]))) (fun _ => ?_)
      refine ex_s rfl ?_
      refine ex_c rfl rfl ⟨Nat.le_of_ble_eq_true rfl, Nat.le_of_ble_eq_true rfl⟩ (G) ?_
      refine ex_s rfl ?_
      refine ex_g rfl rfl ?_
      rw [nI_1]
      exact ex_sub (sub3 rfl rfl rfl) IH
    · rw [fstP_t (show gnP (h.1 1) (h.2.1 5) i = true from decide_eq_true c1)] at e
      have W := KT ld sh (by omega)
      rw [e] at W
      iterate 2 refine ex_s rfl ?_
      refine ex_b rfl rfl (fun q => absurd q (nI_ge (b := 96) (by omega) (by omega))) (fun _ => ?_)
      iterate 2 refine ex_s rfl ?_
      refine ex_c rfl rfl ⟨Nat.le_of_ble_eq_true rfl, Nat.le_of_ble_eq_true rfl⟩ (C) ?_
      refine ex_s rfl ?_
      refine ex_b rfl rfl (fun _ => ?_) (fun q => absurd (fun q => c1 ((nI_eq (by omega) (by omega)).mp q)) q)
      exact ex_sub (sub3 rfl rfl rfl) W
theorem f_goneIn (d : Nat) (h : AH) {B : Nat} (hS : HS B (h.1 1) (h.2.1 5)) (hB : B + 96 < 2 ^ 30) (z1 : Z9 (h.1 1)) (z2 : ZW (h.2.1 5)) (K : Nat) : WM (d + 9) mX11_goneIn [.ref 0] h (fun v h' => (∃ a, v = some (.int a) ∧ (gnC (h.1 1) (h.2.1 5) = 0 → a = nI (gnK (h.1 1) (h.2.1 5)))) ∧ OqP h h' (gnC (h.1 1) (h.2.1 5)) (h.1 0 12) (h.1 0 13) (h.1 1) (h.2.1 5) false K) := by
  have Bg := f_begin2 (d + 7) h
  have I := BgI.bg (h := h)
  have es := hX_same (g := bgH h) (w := h.2.1 5) I.1.1 I.1.2.1
  have C := f_countState (d + 7) 1 (bgH h) (by rw [I.1.1]; exact hS.1)
  rw [I.1.1] at C
  have l40 := onN_le hS.1
  have KT : ∀ ld sh, gnK (h.1 1) (h.2.1 5) < 97 → WX (d + 9) mX11_goneIn 37 [(0, .ref 0), (1, .int (nI (onN (h.1 1)))), (2, .int (nI (gnK (h.1 1) (h.2.1 5))))] [] (hX (bgH h) (hoursR (gnK (h.1 1) (h.2.1 5)) (h.1 1) (h.2.1 5)) (hoursW (gnK (h.1 1) (h.2.1 5)) (h.1 1) (h.2.1 5)) ld sh) (fun v h' => (∃ a, v = some (.int a) ∧ (gnC (h.1 1) (h.2.1 5) = 0 → a = nI (gnK (h.1 1) (h.2.1 5)))) ∧ OqP h h' (gnC (h.1 1) (h.2.1 5)) (h.1 0 12) (h.1 0 13) (h.1 1) (h.2.1 5) false K) := by
    intro ld sh hk
    have hp : onN (hoursR (gnK (h.1 1) (h.2.1 5)) (h.1 1) (h.2.1 5)) ≠ onN (h.1 1) := of_decide_eq_true (fstP_p _ _ hk)
    have le := hours_on (gnK (h.1 1) (h.2.1 5)) B hS (by omega)
    have hh := hours_HS (gnK (h.1 1) (h.2.1 5)) hS (by omega)
    have hz := hours_Z (gnK (h.1 1) (h.2.1 5)) B hS (by omega) z1 z2
    have C2 := f_countState (d + 7) 1 (hX (bgH h) (hoursR (gnK (h.1 1) (h.2.1 5)) (h.1 1) (h.2.1 5)) (hoursW (gnK (h.1 1) (h.2.1 5)) (h.1 1) (h.2.1 5)) ld sh) (by rw [hX_1]; exact hh.1)
    rw [hX_1] at C2
    have E := f_end2 (d + 7) (hX (bgH h) (hoursR (gnK (h.1 1) (h.2.1 5)) (h.1 1) (h.2.1 5)) (hoursW (gnK (h.1 1) (h.2.1 5)) (h.1 1) (h.2.1 5)) ld sh)
    have J := I.ed z1 z2 (sh := sh) (ld := ld) hz.1 hz.2
    have e : gnC (h.1 1) (h.2.1 5) = 0 := by unfold gnC; rw [if_pos hk]
    rw [e]
    iterate 2 refine ex_s rfl ?_
    refine ex_c rfl rfl ⟨Nat.le_of_ble_eq_true rfl, Nat.le_of_ble_eq_true rfl⟩ (C2) ?_
    refine ex_s rfl ?_
    refine ex_b rfl rfl (fun q => absurd q (nI_ge (show onN (hoursR (gnK (h.1 1) (h.2.1 5)) (h.1 1) (h.2.1 5)) < onN (h.1 1) by omega) (by omega))) (fun _ => ?_)
    refine ex_s rfl ?_
    refine ex_g rfl rfl ?_
    iterate 2 refine ex_s rfl ?_
    refine ex_c rfl rfl ⟨Nat.le_of_ble_eq_true rfl, Nat.le_of_ble_eq_true rfl⟩ (E) ?_
    iterate 3 refine ex_s rfl ?_
    refine ex_b rfl rfl (fun _ => ?_) (fun q => absurd (by decide) q)
    refine ex_s rfl ?_
    refine ex_c rfl rfl ⟨Nat.le_of_ble_eq_true rfl, Nat.le_of_ble_eq_true rfl⟩ (f_failsF _ _ _) ?_
    refine ex_b rfl rfl (fun _ => ?_) (fun q => absurd rfl q)
    refine ex_s rfl ?_
    refine ex_q rfl ?_
    exact ⟨⟨_, rfl, fun _ => rfl⟩, J.at⟩
  have KF : ∀ ld sh, gnK (h.1 1) (h.2.1 5) = 97 → onN (hoursR 96 (h.1 1) (h.2.1 5)) = onN (h.1 1) → WX (d + 9) mX11_goneIn 37 [(0, .ref 0), (1, .int (nI (onN (h.1 1)))), (2, .int (nI 96))] [] (hX (bgH h) (hoursR 96 (h.1 1) (h.2.1 5)) (hoursW 96 (h.1 1) (h.2.1 5)) ld sh) (fun v h' => (∃ a, v = some (.int a) ∧ (gnC (h.1 1) (h.2.1 5) = 0 → a = nI (gnK (h.1 1) (h.2.1 5)))) ∧ OqP h h' (gnC (h.1 1) (h.2.1 5)) (h.1 0 12) (h.1 0 13) (h.1 1) (h.2.1 5) false K) := by
    intro ld sh hk hq
    have hh := hours_HS 96 hS (by omega)
    have hz := hours_Z 96 B hS (by omega) z1 z2
    have C2 := f_countState (d + 7) 1 (hX (bgH h) (hoursR 96 (h.1 1) (h.2.1 5)) (hoursW 96 (h.1 1) (h.2.1 5)) ld sh) (by rw [hX_1]; exact hh.1)
    rw [hX_1, show cntS (hoursR 96 (h.1 1) (h.2.1 5)) 1 (CN (hoursR 96 (h.1 1) (h.2.1 5))) = onN (h.1 1) from hq] at C2
    have E := f_end2 (d + 7) (hX (bgH h) (hoursR 96 (h.1 1) (h.2.1 5)) (hoursW 96 (h.1 1) (h.2.1 5)) ld sh)
    have J := I.ed z1 z2 (sh := sh) (ld := ld) hz.1 hz.2
    have e : gnC (h.1 1) (h.2.1 5) = 1 := by unfold gnC; rw [if_neg (by omega)]
    rw [e]
    iterate 2 refine ex_s rfl ?_
    refine ex_c rfl rfl ⟨Nat.le_of_ble_eq_true rfl, Nat.le_of_ble_eq_true rfl⟩ (C2) ?_
    refine ex_s rfl ?_
    refine ex_b rfl rfl (fun _ => ?_) (fun q => absurd (Int32.le_refl _) q)
    iterate 3 refine ex_s rfl ?_
    refine ex_c rfl rfl ⟨Nat.le_of_ble_eq_true rfl, Nat.le_of_ble_eq_true rfl⟩ (E) ?_
    iterate 3 refine ex_s rfl ?_
    refine ex_b rfl rfl (fun q => absurd q (fun q => q rfl)) (fun _ => ?_)
    refine ex_s rfl ?_
    refine ex_g rfl rfl ?_
    refine ex_c rfl rfl ⟨Nat.le_of_ble_eq_true rfl, Nat.le_of_ble_eq_true rfl⟩ (f_failsT _ _ _) ?_
    refine ex_b rfl rfl (fun q => absurd q (by decide)) (fun _ => ?_)
    refine ex_s rfl ?_
    refine ex_g rfl rfl ?_
    refine ex_q rfl ?_
    exact ⟨⟨_, rfl, fun q => absurd q (by decide)⟩, J.at⟩
  have L := f_gone_loop d h (bgH h) hS hB _ KT KF 96 0 ((bgH h).2.1 27) ((bgH h).1 28) (by omega) rfl
  rw [show hX (bgH h) (hoursR 0 (h.1 1) (h.2.1 5)) (hoursW 0 (h.1 1) (h.2.1 5)) ((bgH h).2.1 27) ((bgH h).1 28) = bgH h from es] at L
  show WX _ _ 0 [(0, _)] [] _ _
  refine ex_s rfl ?_
  refine ex_c rfl rfl ⟨Nat.le_of_ble_eq_true rfl, Nat.le_of_ble_eq_true rfl⟩ (Bg) ?_
  iterate 2 refine ex_s rfl ?_
  refine ex_c rfl rfl ⟨Nat.le_of_ble_eq_true rfl, Nat.le_of_ble_eq_true rfl⟩ (C) ?_
  iterate 3 refine ex_s rfl ?_
  exact ex_sub (sub3 rfl rfl rfl) L
end
