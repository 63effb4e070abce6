-- needs: 37
noncomputable section
/-- only the palace k and the hours' own rows are changed -/
def FrH (k m : Nat) (h h' : AH) : Prop := (∀ a, (a < k ∨ k + 12 < a) → (a ≠ m + 4 → h'.1 a = h.1 a) ∧ (a ≠ m + 2 → h'.2.1 a = h.2.1 a)) ∧ h'.2.2 = h.2.2
theorem FrP.hr {k m : Nat} {h h' : AH} (F : FrP k h h') : FrH k m h h' := ⟨fun a ha => ⟨fun _ => (F.1 a ha).1, fun _ => (F.1 a ha).2⟩, F.2⟩
theorem FrH.rf {k m : Nat} {h : AH} : FrH k m h h := ⟨fun _ _ => ⟨fun _ => rfl, fun _ => rfl⟩, rfl⟩
theorem FrH.tr {k m : Nat} {a b c : AH} (h1 : FrH k m a b) (h2 : FrH k m b c) : FrH k m a c := ⟨fun x hx => ⟨fun y => ((h2.1 x hx).1 y).trans ((h1.1 x hx).1 y), fun y => ((h2.1 x hx).2 y).trans ((h1.1 x hx).2 y)⟩, h2.2.trans h1.2⟩
theorem p_removeM (d : Nat) {k m : Nat} (hL : PalL k) {r : Nat → Int32} {w : Nat → UInt32} (hS : Str r) : ∀ (n i : Nat) (h : AH), i + n = CN r → Pal h k (remR w i r) w → WX (d + 3) mX4_removeMelted 2 [(0, .ref m), (1, .ref k), (2, .int (nI i))] [] h (fun v h' => v = none ∧ Pal h' k (remR w (CN r) r) w ∧ FrP k h h') := by
  have h40 := hS.1.2.1
  have hL2 := hL
  obtain ⟨L0, L1, L2, L3, L4, L5, L6, L7, L8, L9, L10, L11, L12⟩ := hL2
  intro n
  induction n with
  | zero =>
    intro i h hi P
    have hi : i = CN r := by omega
    subst hi
    obtain ⟨hS2, hC⟩ := remR_Str (w := w) hS (CN r) (Nat.le_refl _)
    by_cases h4 : CN r < 40
    · iterate 2 refine ex_s rfl ?_
      refine ex_b rfl rfl (fun q => absurd q (nI_ge (b := 40) h4 (by decide))) (fun _ => ?_)
      iterate 2 refine ex_s rfl ?_
      refine ex_f rfl L0 rfl ?_
      refine ex_b rfl rfl (fun _ => ?_) (fun q => absurd (by rw [P.hd (by decide), hS2.1.1, hC]; exact Int32.le_refl _) q)
      refine ex_q rfl ?_
      exact ⟨rfl, P, FrP.rf⟩
    · iterate 2 refine ex_s rfl ?_
      refine ex_b rfl rfl (fun _ => ?_) (fun q => absurd (nI_le (a := 40) (by omega) (by omega)) q)
      refine ex_q rfl ?_
      exact ⟨rfl, P, FrP.rf⟩
  | succ n ih =>
    intro i h hi P
    have hiC : i < CN r := by omega
    obtain ⟨hS2, hC⟩ := remR_Str (w := w) hS i (by omega)
    have es : remR w (i + 1) r = if (decide (ofB (remR w i r) i 2 = 1) && lt1 (w i)) = true then goesR (remR w i r) i 2 else remR w i r := rfl
    have IH := ih (i + 1)
    rw [es] at IH
    have W := p_isOnWall (d + 2) hL (b := i) (by omega) h
    rw [P.st (by rw [hC]; exact hiC)] at W
    by_cases hs : ofB (remR w i r) i 2 = 1
    · by_cases hl : lt1 (w i) = true
      · rw [if_pos (by rw [decide_eq_true hs, hl]; rfl)] at IH
        iterate 2 refine ex_s rfl ?_
        refine ex_b rfl rfl (fun q => absurd q (nI_ge (b := 40) (by omega) (by decide))) (fun _ => ?_)
        iterate 2 refine ex_s rfl ?_
        refine ex_f rfl L0 rfl ?_
        refine ex_b rfl rfl (fun q => absurd q (by rw [P.hd (by decide), hS2.1.1, hC]; exact nI_ge hiC (by omega))) (fun _ => ?_)
        iterate 2 refine ex_s rfl ?_
        refine ex_v1 rfl L0 rfl ⟨Nat.le_of_ble_eq_true rfl, Nat.le_of_ble_eq_true rfl⟩ (W) ?_
        refine ex_b rfl rfl (fun q => absurd q (fun q => bI_eq.mp q hs)) (fun _ => ?_)
        refine ex_s rfl ?_
        refine ex_f rfl L0 rfl ?_
        refine ex_s rfl ?_
        refine ex_fl rfl L4 (vi) ?_
        rw [cl i, P.ms (show i < CN (remR w i r) by rw [hC]; exact hiC)]
        iterate 2 refine ex_s rfl ?_
        refine ex_b rfl rfl (fun q => absurd q (of_decide_eq_true hl)) (fun _ => ?_)
        iterate 3 refine ex_s rfl ?_
        refine ex_x2 rfl L0 rfl ⟨Nat.le_of_ble_eq_true rfl, Nat.le_of_ble_eq_true rfl⟩ (p_remW (d + 0) hL P hS2 (by rw [hC]; exact hiC) hs 2) (fun rv9 h9 p9 => ?_)
        obtain ⟨rfl, P9, F9⟩ := p9
        refine ex_s rfl ?_
        refine ex_g rfl rfl ?_
        rw [nI_1]
        exact ex_sub (sub3 rfl rfl rfl) ((IH h9 (by omega) P9).mono (fun v0 h0 z => ⟨z.1, z.2.1, F9.tr z.2.2⟩))
      · rw [if_neg (by rw [Bool.eq_false_iff.mpr hl, Bool.and_false]; decide)] at IH
        iterate 2 refine ex_s rfl ?_
        refine ex_b rfl rfl (fun q => absurd q (nI_ge (b := 40) (by omega) (by decide))) (fun _ => ?_)
        iterate 2 refine ex_s rfl ?_
        refine ex_f rfl L0 rfl ?_
        refine ex_b rfl rfl (fun q => absurd q (by rw [P.hd (by decide), hS2.1.1, hC]; exact nI_ge hiC (by omega))) (fun _ => ?_)
        iterate 2 refine ex_s rfl ?_
        refine ex_v1 rfl L0 rfl ⟨Nat.le_of_ble_eq_true rfl, Nat.le_of_ble_eq_true rfl⟩ (W) ?_
        refine ex_b rfl rfl (fun q => absurd q (fun q => bI_eq.mp q hs)) (fun _ => ?_)
        refine ex_s rfl ?_
        refine ex_f rfl L0 rfl ?_
        refine ex_s rfl ?_
        refine ex_fl rfl L4 (vi) ?_
        rw [cl i, P.ms (show i < CN (remR w i r) by rw [hC]; exact hiC)]
        iterate 2 refine ex_s rfl ?_
        refine ex_b rfl rfl (fun _ => ?_) (fun q => absurd (Decidable.not_not.mp (fun q => hl (decide_eq_true q))) q)
        refine ex_s rfl ?_
        refine ex_g rfl rfl ?_
        rw [nI_1]
        exact ex_sub (sub3 rfl rfl rfl) (IH h (by omega) P)
    · rw [if_neg (by rw [decide_eq_false hs, Bool.false_and]; decide)] at IH
      iterate 2 refine ex_s rfl ?_
      refine ex_b rfl rfl (fun q => absurd q (nI_ge (b := 40) (by omega) (by decide))) (fun _ => ?_)
      iterate 2 refine ex_s rfl ?_
      refine ex_f rfl L0 rfl ?_
      refine ex_b rfl rfl (fun q => absurd q (by rw [P.hd (by decide), hS2.1.1, hC]; exact nI_ge hiC (by omega))) (fun _ => ?_)
      iterate 2 refine ex_s rfl ?_
      refine ex_v1 rfl L0 rfl ⟨Nat.le_of_ble_eq_true rfl, Nat.le_of_ble_eq_true rfl⟩ (W) ?_
      refine ex_b rfl rfl (fun _ => ?_) (fun q => absurd (bI_eq.mpr hs) q)
      refine ex_s rfl ?_
      refine ex_g rfl rfl ?_
      rw [nI_1]
      exact ex_sub (sub3 rfl rfl rfl) (IH h (by omega) P)
theorem p_removeMelted (d : Nat) {k m : Nat} (hL : PalL k) {h : AH} {r : Nat → Int32} {w : Nat → UInt32} (hS : Str r) (P : Pal h k r w) : WM (d + 3) mX4_removeMelted [.ref m, .ref k] h (fun v h' => v = none ∧ Pal h' k (remR w (CN r) r) w ∧ FrP k h h') := by
  have Z := p_removeM d (m := m) hL (w := w) hS (CN r) 0 h (by omega) P
  show WX _ _ 0 [(0, _), (1, _)] [] _ _
  iterate 2 refine ex_s rfl ?_
  exact ex_sub (sub3 rfl rfl rfl) Z
theorem p_dropIn (d : Nat) {k m c : Nat} (hc8 : c < 8) (hL : PalL k) {r : Nat → Int32} {w : Nat → UInt32} (hS : Str r) {Q : Option Value → AH → Prop} : ∀ (n i : Nat) (h : AH), i + n = CN r → Pal h k (fallC c i r) w → (∀ h2, Pal h2 k (fallC c (CN r) r) w → FrP k h h2 → WX (d + 3) mX4_dropUnsupported 54 [(0, .ref m), (1, .ref k), (2, .int (nI c))] [] h2 Q) → WX (d + 3) mX4_dropUnsupported 10 [(0, .ref m), (1, .ref k), (2, .int (nI c)), (3, .int (nI i))] [] h Q := by
  have h40 := hS.1.2.1
  have hL2 := hL
  obtain ⟨L0, L1, L2, L3, L4, L5, L6, L7, L8, L9, L10, L11, L12⟩ := hL2
  intro n
  induction n with
  | zero =>
    intro i h hi P K
    have hi : i = CN r := by omega
    subst hi
    obtain ⟨hS2, hC⟩ := fallC_Str (c := c) hS (CN r) (Nat.le_refl _)
    have K0 := K h P FrP.rf
    by_cases h4 : CN r < 40
    · iterate 2 refine ex_s rfl ?_
      refine ex_b rfl rfl (fun q => absurd q (nI_ge (b := 40) h4 (by decide))) (fun _ => ?_)
      iterate 2 refine ex_s rfl ?_
      refine ex_f rfl L0 rfl ?_
      refine ex_b rfl rfl (fun _ => ?_) (fun q => absurd (by rw [P.hd (by decide), hS2.1.1, hC]; exact Int32.le_refl _) q)
      exact ex_sub (sub3 rfl rfl rfl) K0
    · iterate 2 refine ex_s rfl ?_
      refine ex_b rfl rfl (fun _ => ?_) (fun q => absurd (nI_le (a := 40) (by omega) (by omega)) q)
      exact ex_sub (sub3 rfl rfl rfl) K0
  | succ n ih =>
    intro i h hi P K
    have hiC : i < CN r := by omega
    obtain ⟨hS2, hC⟩ := fallC_Str (c := c) hS i (by omega)
    have hiC2 : i < CN (fallC c i r) := by rw [hC]; exact hiC
    have es : fallC c (i + 1) r = if (decide (ofB (fallC c i r) i 2 = 1) && decide (ofB (fallC c i r) i 4 = nI c) && decide (¬ LN (fallC c i r) i ≤ 2 * supN (fallC c i r) i)) = true then goesR (fallC c i r) i 4 else fallC c i r := rfl
    have IH := ih (i + 1)
    rw [es] at IH
    have Sp := p_isSupported (d + 0) hL P hS2.1 hiC2
    generalize fallC c i r = R at IH P hS2 hiC2 hC Sp
    by_cases hq : ofB R i 4 = nI c
    · have hs : ofB R i 2 = 1 := by
        by_cases hs : ofB R i 2 = 1
        · exact hs
        · rw [hS2.cu hiC2 hs] at hq
          exact absurd (nI_pos' (n := c) (by omega)) (by rw [← hq]; decide)
      by_cases hl : LN R i ≤ 2 * supN R i
      · rw [if_neg (by rw [decide_eq_false (p := ¬ LN R i ≤ 2 * supN R i) (fun q => q hl), Bool.and_false]; decide)] at IH
        iterate 2 refine ex_s rfl ?_
        refine ex_b rfl rfl (fun q => absurd q (nI_ge (b := 40) (by omega) (by decide))) (fun _ => ?_)
        iterate 2 refine ex_s rfl ?_
        refine ex_f rfl L0 rfl ?_
        refine ex_b rfl rfl (fun q => absurd q (by rw [P.hd (by decide), hS2.1.1, hC]; exact nI_ge hiC (by omega))) (fun _ => ?_)
        refine ex_s rfl ?_
        refine ex_f rfl L0 rfl ?_
        refine ex_s rfl ?_
        refine ex_il rfl L7 (vi) ?_
        refine ex_s rfl ?_
        refine ex_b rfl rfl (fun q => absurd q (fun q => q (by rw [cl i, P.cu hiC2]; exact hq))) (fun _ => ?_)
        iterate 2 refine ex_s rfl ?_
        refine ex_v1 rfl L0 rfl ⟨Nat.le_of_ble_eq_true rfl, Nat.le_of_ble_eq_true rfl⟩ (Sp) ?_
        refine ex_b rfl rfl (fun _ => ?_) (fun q => absurd (bI_ne.mpr ⟨hs, hl⟩) q)
        refine ex_s rfl ?_
        refine ex_g rfl rfl ?_
        rw [nI_1]
        exact ex_sub (sub4 rfl rfl rfl rfl) (IH h (by omega) P K)
      · rw [if_pos (by rw [decide_eq_true hs, decide_eq_true hq, decide_eq_true hl]; rfl)] at IH
        iterate 2 refine ex_s rfl ?_
        refine ex_b rfl rfl (fun q => absurd q (nI_ge (b := 40) (by omega) (by decide))) (fun _ => ?_)
        iterate 2 refine ex_s rfl ?_
        refine ex_f rfl L0 rfl ?_
        refine ex_b rfl rfl (fun q => absurd q (by rw [P.hd (by decide), hS2.1.1, hC]; exact nI_ge hiC (by omega))) (fun _ => ?_)
        refine ex_s rfl ?_
        refine ex_f rfl L0 rfl ?_
        refine ex_s rfl ?_
        refine ex_il rfl L7 (vi) ?_
        refine ex_s rfl ?_
        refine ex_b rfl rfl (fun q => absurd q (fun q => q (by rw [cl i, P.cu hiC2]; exact hq))) (fun _ => ?_)
        iterate 2 refine ex_s rfl ?_
        refine ex_v1 rfl L0 rfl ⟨Nat.le_of_ble_eq_true rfl, Nat.le_of_ble_eq_true rfl⟩ (Sp) ?_
        refine ex_b rfl rfl (fun q => absurd q (fun q => q (bI_eq.mpr (fun z => hl z.2)))) (fun _ => ?_)
        iterate 3 refine ex_s rfl ?_
        refine ex_x2 rfl L0 rfl ⟨Nat.le_of_ble_eq_true rfl, Nat.le_of_ble_eq_true rfl⟩ (p_remW (d + 0) hL P hS2 hiC2 hs 4) (fun rv9 h9 p9 => ?_)
        obtain ⟨rfl, P9, F9⟩ := p9
        refine ex_s rfl ?_
        refine ex_g rfl rfl ?_
        rw [nI_1]
        exact ex_sub (sub4 rfl rfl rfl rfl) (IH h9 (by omega) P9 (fun h2 p2 f2 => K h2 p2 (F9.tr f2)))
    · rw [if_neg (by rw [decide_eq_false hq, Bool.and_false, Bool.false_and]; decide)] at IH
      iterate 2 refine ex_s rfl ?_
      refine ex_b rfl rfl (fun q => absurd q (nI_ge (b := 40) (by omega) (by decide))) (fun _ => ?_)
      iterate 2 refine ex_s rfl ?_
      refine ex_f rfl L0 rfl ?_
      refine ex_b rfl rfl (fun q => absurd q (by rw [P.hd (by decide), hS2.1.1, hC]; exact nI_ge hiC (by omega))) (fun _ => ?_)
      refine ex_s rfl ?_
      refine ex_f rfl L0 rfl ?_
      refine ex_s rfl ?_
      refine ex_il rfl L7 (vi) ?_
      refine ex_s rfl ?_
      refine ex_b rfl rfl (fun _ => ?_) (fun q => absurd (by rw [cl i, P.cu hiC2]; exact hq) q)
      refine ex_s rfl ?_
      refine ex_g rfl rfl ?_
      rw [nI_1]
      exact ex_sub (sub4 rfl rfl rfl rfl) (IH h (by omega) P K)
theorem p_dropOut (d : Nat) {k m : Nat} (hL : PalL k) {r : Nat → Int32} {w : Nat → UInt32} (hS : Str r) : ∀ (n i : Nat) (h : AH), i + n = 7 → Pal h k (fallI i r) w → WX (d + 3) mX4_dropUnsupported 2 [(0, .ref m), (1, .ref k), (2, .int (nI (i + 1)))] [] h (fun v h' => v = none ∧ Pal h' k (fallR r) w ∧ FrP k h h')
  | 0, i, h, hi, P => by
    have hi : i = 7 := by omega
    subst hi
    iterate 2 refine ex_s rfl ?_
    refine ex_b rfl rfl (fun _ => ?_) (fun q => absurd (by decide) q)
    refine ex_q rfl ?_
    exact ⟨rfl, P, FrP.rf⟩
  | n + 1, i, h, hi, P => by
    have IH := p_dropOut d (m := m) hL (w := w) hS n (i + 1)
    have hS2 := (fallI_Str hS i (by omega)).1
    have KK : ∀ h2, Pal h2 k (fallC (i + 1) (CN (fallI i r)) (fallI i r)) w → FrP k h h2 → WX (d + 3) mX4_dropUnsupported 54 [(0, .ref m), (1, .ref k), (2, .int (nI (i + 1)))] [] h2 (fun v h' => v = none ∧ Pal h' k (fallR r) w ∧ FrP k h h') := by
      intro h2 p2 f2
      have K := (IH h2 (by omega) p2).mono (P := fun v h' => v = none ∧ Pal h' k (fallR r) w ∧ FrP k h h') (fun v0 h0 z => ⟨z.1, z.2.1, f2.tr z.2.2⟩)
      refine ex_s rfl ?_
      refine ex_g rfl rfl ?_
      rw [nI_1]
      exact ex_sub (sub3 rfl rfl rfl) K
    have L := p_dropIn d (m := m) (c := i + 1) (by omega) hL (w := w) hS2 (CN (fallI i r)) 0 h (by omega) P KK
    iterate 2 refine ex_s rfl ?_
    refine ex_b rfl rfl (fun q => absurd q (nI_ge (b := 8) (by omega) (by decide))) (fun _ => ?_)
    iterate 2 refine ex_s rfl ?_
    exact ex_sub (sub4 rfl rfl rfl rfl) L
theorem p_drop (d : Nat) {k m : Nat} (hL : PalL k) {h : AH} {r : Nat → Int32} {w : Nat → UInt32} (hS : Str r) (P : Pal h k r w) : WM (d + 3) mX4_dropUnsupported [.ref m, .ref k] h (fun v h' => v = none ∧ Pal h' k (fallR r) w ∧ FrP k h h') := by
  have Z := p_dropOut d (m := m) hL (w := w) hS 7 0 h rfl P
  show WX _ _ 0 [(0, _), (1, _)] [] _ _
  iterate 2 refine ex_s rfl ?_
  exact ex_sub (sub3 rfl rfl rfl) Z
theorem p_breakL (d : Nat) {k m : Nat} (hL : PalL k) (hH : HouL m) (hkm : m + 4 < k ∨ k + 12 < m) {w : Nat → UInt32} : ∀ (n i : Nat) (h : AH) (r : Nat → Int32), i + n = 40 → Str r → MasW r w → Pal h k r w → WX (d + 4) mX4_breakOverloaded 2 [(0, .ref m), (1, .ref k), (2, .int (nI i))] [] h (fun v h' => v = none ∧ Pal h' k (brkR w n r) w ∧ FrH k m h h') := by
  have hL2 := hL
  obtain ⟨L0, L1, L2, L3, L4, L5, L6, L7, L8, L9, L10, L11, L12⟩ := hL2
  obtain ⟨H0, hN, hO⟩ := hH
  have hN2 := hN
  obtain ⟨N0, N1⟩ := hN2
  intro n
  induction n with
  | zero =>
    intro i h r hi hS hm P
    have hi : i = 40 := by omega
    subst hi
    iterate 2 refine ex_s rfl ?_
    refine ex_b rfl rfl (fun _ => ?_) (fun q => absurd (Int32.le_refl _) q)
    refine ex_q rfl ?_
    exact ⟨rfl, P, FrH.rf⟩
  | succ n ih =>
    intro i h r hi hS hm P
    have h40 := hS.1.2.1
    have U := p_sumUp (d + 0) hL hN (by omega) P hS hm
    have P1 := P.fr (m := m + 2) (f := loadsR r w (h.2.1 (m + 2))) (by omega)
    have F1 := p_first (d + 1) hL hN P1 hS hm (fun b hb hs => by
      show (hFr h (m + 2) _).2.1 (m + 2) b = _
      rw [hFr_at]
      exact loadsR_at hS.1 hm hb hs)
    have f1 : FrH k m h (hFr h (m + 2) (loadsR r w (h.2.1 (m + 2)))) := ⟨fun a ha => ⟨fun _ => rfl, fun z => hFr_ne _ _ z⟩, rfl⟩
    by_cases hlt : ovN r w < CN r
    · have eb : brkR w (n + 1) r = brkR w n (fallR (goesR r (ovN r w) 3)) := if_pos hlt
      rw [eb]
      have h1 := fstP_p _ _ hlt
      unfold ovP at h1
      rw [Bool.and_eq_true] at h1
      have hs := of_decide_eq_true h1.1
      obtain ⟨a1, a2, a3⟩ := ov_step hS.1 hlt
      have g := goes_Str (y := 3) hS hlt (by decide) (by decide)
      have g2 := (fallI_Str g 7 (Nat.le_refl _)).1
      have IH := ih (i + 1)
      iterate 2 refine ex_s rfl ?_
      refine ex_b rfl rfl (fun q => absurd q (nI_ge (b := 40) (by omega) (by decide))) (fun _ => ?_)
      refine ex_s rfl ?_
      refine ex_f rfl H0 rfl ?_
      refine ex_s rfl ?_
      refine ex_v1 rfl N0 rfl ⟨Nat.le_of_ble_eq_true rfl, Nat.le_of_ble_eq_true rfl⟩ (U) ?_
      refine ex_s rfl ?_
      refine ex_f rfl H0 rfl ?_
      refine ex_s rfl ?_
      refine ex_v1 rfl N0 rfl ⟨Nat.le_of_ble_eq_true rfl, Nat.le_of_ble_eq_true rfl⟩ (F1) ?_
      iterate 2 refine ex_s rfl ?_
      refine ex_b rfl rfl (fun _ => ?_) (fun q => absurd (Int32.not_lt.mp (fun q => (orM_neg h40).mp q hlt)) q)
      iterate 3 refine ex_s rfl ?_
      rw [orM_t hlt]
      refine ex_x2 rfl L0 rfl ⟨Nat.le_of_ble_eq_true rfl, Nat.le_of_ble_eq_true rfl⟩ (p_remW (d + 1) hL P1 hS hlt hs 3) (fun rv9 h9 p9 => ?_)
      obtain ⟨rfl, P9, F9⟩ := p9
      iterate 2 refine ex_s rfl ?_
      refine ex_x1 rfl H0 rfl ⟨Nat.le_of_ble_eq_true rfl, Nat.le_of_ble_eq_true rfl⟩ (p_drop (d + 0) (m := m) hL g P9) (fun rv9 h9 p9 => ?_)
      obtain ⟨rfl, P8, F8⟩ := p9
      refine ex_s rfl ?_
      refine ex_g rfl rfl ?_
      rw [nI_1]
      exact ex_sub (sub3 rfl rfl rfl) ((IH _ _ (by omega) g2 (a1.MasW hm) P8).mono (fun v0 h0 z => ⟨z.1, z.2.1, f1.tr (F9.hr.tr (F8.hr.tr z.2.2))⟩))
    · have eb : brkR w (n + 1) r = r := if_neg hlt
      rw [eb]
      iterate 2 refine ex_s rfl ?_
      refine ex_b rfl rfl (fun q => absurd q (nI_ge (b := 40) (by omega) (by decide))) (fun _ => ?_)
      refine ex_s rfl ?_
      refine ex_f rfl H0 rfl ?_
      refine ex_s rfl ?_
      refine ex_v1 rfl N0 rfl ⟨Nat.le_of_ble_eq_true rfl, Nat.le_of_ble_eq_true rfl⟩ (U) ?_
      refine ex_s rfl ?_
      refine ex_f rfl H0 rfl ?_
      refine ex_s rfl ?_
      refine ex_v1 rfl N0 rfl ⟨Nat.le_of_ble_eq_true rfl, Nat.le_of_ble_eq_true rfl⟩ (F1) ?_
      iterate 2 refine ex_s rfl ?_
      refine ex_b rfl rfl (fun q => absurd q (Int32.not_le.mpr ((orM_neg h40).mpr hlt))) (fun _ => ?_)
      refine ex_q rfl ?_
      exact ⟨rfl, P1, f1⟩
theorem p_break (d : Nat) {k m : Nat} (hL : PalL k) (hH : HouL m) (hkm : m + 4 < k ∨ k + 12 < m) {h : AH} {r : Nat → Int32} {w : Nat → UInt32} (hS : Str r) (hm : MasW r w) (P : Pal h k r w) : WM (d + 4) mX4_breakOverloaded [.ref m, .ref k] h (fun v h' => v = none ∧ Pal h' k (brkR w 40 r) w ∧ FrH k m h h') := by
  have Z := p_breakL d (m := m) hL hH hkm (w := w) 40 0 h r rfl hS hm P
  show WX _ _ 0 [(0, _), (1, _)] [] _ _
  iterate 2 refine ex_s rfl ?_
  exact ex_sub (sub3 rfl rfl rfl) Z
theorem cntP_ext {p : Nat → Bool} {n : Nat} : ∀ m, (∀ k, n ≤ k → k < n + m → ¬ p k = true) → cntP p (n + m) = cntP p n
  | 0, _ => rfl
  | m + 1, h => by
    show cntP p (n + m) + (if p (n + m) = true then 1 else 0) = _
    rw [if_neg (h (n + m) (by omega) (by omega)), Nat.add_zero]
    exact cntP_ext m (fun k h1 h2 => h k h1 (by omega))
theorem p_countStates (d : Nat) {k : Nat} (hL : PalL k) {h : AH} {r : Nat → Int32} {w : Nat → UInt32} (P : Pal h k r w) (hw : Wel r) (s : Int32) (hs : s ≠ -1) : EvM d mX8_countStates [.ref k, .int s] h (some (.int (nI (cntS r s (CN r))))) h := by
  have h40 := hw.2.1
  obtain ⟨L0, L1, L2, L3, L4, L5, L6, L7, L8, L9, L10, L11, L12⟩ := hL
  have e : cntP (fun b => decide (h.1 (k + 5) b = s)) 40 = cntS r s (CN r) := by
    have := cntP_ext (p := fun b => decide (h.1 (k + 5) b = s)) (n := CN r) (40 - CN r) (fun b h1 h2 q => by
      have q := of_decide_eq_true q
      rw [(P.2.2.2.1 b h1 (by omega)).1] at q
      exact hs q.symm)
    rw [show CN r + (40 - CN r) = 40 by omega] at this
    rw [this]
    exact cntP_congr (fun b hb => by rw [P.st hb])
  rw [← e]
  have Lp : ∀ (n i : Nat), i + n = 40 → EvR d mX8_countStates 4 [(0, .ref k), (1, .int s), (2, .int (nI (cntP (fun b => decide (h.1 (k + 5) b = s)) i))), (3, .int (nI i))] [] h (some (.int (nI (cntP (fun b => decide (h.1 (k + 5) b = s)) 40)))) h := by
    intro n
    induction n with
    | zero =>
      intro i hi
      have hi : i = 40 := by omega
      subst hi
      iterate 2 refine er_s rfl ?_
      refine er_b rfl rfl (fun _ => ?_) (fun q => absurd (Int32.le_refl _) q)
      refine er_s rfl ?_
      refine er_q rfl ?_ ?_
      · rfl
      · rfl
    | succ n ih =>
      intro i hi
      have IH := ih (i + 1) (by omega)
      iterate 2 refine er_s rfl ?_
      refine er_b rfl rfl (fun q => absurd q (nI_ge (b := 40) (by omega) (by decide))) (fun _ => ?_)
      refine er_s rfl ?_
      refine er_f rfl L0 rfl ?_
      refine er_s rfl ?_
      refine er_il rfl L5 (vi) ?_
      rw [cl i]
      refine er_s rfl ?_
      refine er_b rfl rfl (fun c17 => ?_) (fun c17 => ?_)
      · refine er_s rfl ?_
        refine er_g rfl rfl ?_
        rw [cnt_f2 (p := fun b => decide (h.1 (k + 5) b = s)) (fun q => c17 (of_decide_eq_true q)), nI_1]
        exact er_sub (sub4 rfl rfl rfl rfl) IH
      · iterate 2 refine er_s rfl ?_
        refine er_g rfl rfl ?_
        rw [cnt_t (p := fun b => decide (h.1 (k + 5) b = s)) (decide_eq_true (Decidable.not_not.mp c17)), nI_1]
        exact er_sub (sub4 rfl rfl rfl rfl) IH
  have Z := Lp 40 0 rfl
  show EvR _ _ 0 [(0, _), (1, _)] [] _ _ _
  iterate 4 refine er_s rfl ?_
  exact er_sub (sub4 rfl rfl rfl rfl) Z
theorem p_countOnWall (d : Nat) {k : Nat} (hL : PalL k) {h : AH} {r : Nat → Int32} {w : Nat → UInt32} (P : Pal h k r w) (hw : Wel r) : EvM (d + 1) mX8_countOnWall [.ref k] h (some (.int (nI (onN r)))) h := by
  have C := p_countStates d hL P hw 1 (by decide)
  have L0 := hL.1
  show EvR _ _ 0 [(0, _)] [] _ _ _
  iterate 2 refine er_s rfl ?_
  refine er_v1 rfl L0 rfl ⟨Nat.le_of_ble_eq_true rfl, Nat.le_of_ble_eq_true rfl⟩ (C) ?_
  refine er_q rfl ?_ ?_
  · rfl
  · rfl
/-- shadows don't hang on joints -/
theorem hgt_congr {r r' : Nat → Int32} (eg : ∀ c j, c < 8 → j < 12 → gAt r' c j = gAt r c j) {j : Nat} (hj : j < 12) : ∀ n, n ≤ 8 → hgtN r' j n = hgtN r j n
  | 0, _ => rfl
  | n + 1, hn => by
    unfold hgtN
    rw [eg n j (by omega) hj, hgt_congr eg hj n (by omega)]
theorem shadR_congr {r r' : Nat → Int32} {hr : Int32} {b : Nat} (hl : LnOk r b) (hp : PlOk r b) (eg : ∀ c j, c < 8 → j < 12 → gAt r' c j = gAt r c j) (e1 : CO r' b = CO r b) (e2 : CU r' b = CU r b) (e3 : LN r' b = LN r b) : shadR r' b hr = shadR r b hr := by
  obtain ⟨-, l2, l3⟩ := hl
  obtain ⟨-, p2, -, p4, -, -⟩ := hp
  unfold shadR
  split
  · split
    · rw [Bool.eq_iff_iff, anyB_iff, anyB_iff]
      unfold shL
      rw [e1, e2]
      refine ⟨fun ⟨z, z1, z2⟩ => ⟨z, z1, ?_⟩, fun ⟨z, z1, z2⟩ => ⟨z, z1, ?_⟩⟩
      · obtain ⟨q1, q2, q3⟩ := of_decide_eq_true z2
        rw [hgt_congr eg (by omega) 8 (Nat.le_refl _)] at q3
        exact decide_eq_true ⟨q1, q2, q3⟩
      · obtain ⟨q1, q2, q3⟩ := of_decide_eq_true z2
        exact decide_eq_true ⟨q1, q2, by rw [hgt_congr eg (by omega) 8 (Nat.le_refl _)]; exact q3⟩
    · rw [Bool.eq_iff_iff, anyB_iff, anyB_iff]
      unfold shR
      rw [e1, e2, e3]
      refine ⟨fun ⟨z, z1, z2⟩ => ⟨z, z1, ?_⟩, fun ⟨z, z1, z2⟩ => ⟨z, z1, ?_⟩⟩
      · obtain ⟨q1, q2, q3⟩ := of_decide_eq_true z2
        rw [hgt_congr eg (by omega) 8 (Nat.le_refl _)] at q3
        exact decide_eq_true ⟨q1, q2, q3⟩
      · obtain ⟨q1, q2, q3⟩ := of_decide_eq_true z2
        exact decide_eq_true ⟨q1, q2, by rw [hgt_congr eg (by omega) 8 (Nat.le_refl _)]; exact q3⟩
  · rfl
theorem shadR_freeze {r : Nat → Int32} {t hr : Int32} {b : Nat} (hl : LnOk r b) (hp : PlOk r b) : shadR (freezeR t r) b hr = shadR r b hr :=
  shadR_congr hl hp (fun c j hc hj => freeze_hd (by omega) (by omega)) (congrArg Int32.toNatClampNeg (freeze_b (by decide) (by decide))) (congrArg Int32.toNatClampNeg (freeze_b (by decide) (by decide))) (congrArg Int32.toNatClampNeg (freeze_b (by decide) (by decide)))
end
