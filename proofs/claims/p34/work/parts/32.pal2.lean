-- needs: 31
noncomputable section
/-- nothing but the palace k is changed -/
def FrP (k : Nat) (h h' : AH) : Prop := (∀ a, (a < k ∨ k + 12 < a) → h'.1 a = h.1 a ∧ h'.2.1 a = h.2.1 a) ∧ h'.2.2 = h.2.2
theorem FrP.rf {k : Nat} {h : AH} : FrP k h h := ⟨fun _ _ => ⟨rfl, rfl⟩, rfl⟩
theorem FrP.tr {k : Nat} {a b c : AH} (h1 : FrP k a b) (h2 : FrP k b c) : FrP k a c := ⟨fun x hx => ⟨(h2.1 x hx).1.trans (h1.1 x hx).1, (h2.1 x hx).2.trans (h1.1 x hx).2⟩, h2.2.trans h1.2⟩
theorem hI_at {h : AH} {k i : Nat} {x : Int32} : (hI h k i x).1 k = upd (h.1 k) i x := by funext j; by_cases e : j = i <;> simp [hI, upd, e]
theorem hI_ne {h : AH} {k i a : Nat} {x : Int32} (e : a ≠ k) : (hI h k i x).1 a = h.1 a := by funext j; simp [hI, e]
theorem hI_f {h : AH} {k i : Nat} {x : Int32} : (hI h k i x).2 = h.2 := rfl
theorem hIr_at {h : AH} {k : Nat} {f : Nat → Int32} : (hIr h k f).1 k = f := by funext j; simp [hIr]
theorem hIr_ne {h : AH} {k a : Nat} {f : Nat → Int32} (e : a ≠ k) : (hIr h k f).1 a = h.1 a := by funext j; simp [hIr, e]
theorem hIr_f {h : AH} {k : Nat} {f : Nat → Int32} : (hIr h k f).2 = h.2 := rfl
theorem hIr_self {h : AH} {k : Nat} : hIr h k (h.1 k) = h := by
  obtain ⟨g, f⟩ := h
  refine Prod.ext ?_ rfl
  funext a j
  by_cases e : a = k <;> simp [hIr, e]
theorem hI_hIr {h : AH} {k i : Nat} {f : Nat → Int32} {x : Int32} : hI (hIr h k f) k i x = hIr h k (upd f i x) := by
  refine Prod.ext ?_ rfl
  funext a j
  by_cases e : a = k
  · subst e
    by_cases e2 : j = i <;> simp [hI, hIr, upd, e2]
  · simp [hI, hIr, e]
theorem maxI {a b : Nat} (ha : a < 2 ^ 31) (hb : b < 2 ^ 31) : (if nI a < nI b then nI b else nI a) = nI (max a b) := by
  by_cases h : a < b
  · rw [if_pos (nI_lt h hb), Nat.max_eq_right (by omega)]
  · rw [if_neg (nI_nlt (by omega) ha), Nat.max_eq_left (by omega)]
theorem minI {a b : Nat} (ha : a < 2 ^ 31) (hb : b < 2 ^ 31) : (if nI b < nI a then nI b else nI a) = nI (min a b) := by
  by_cases h : b < a
  · rw [if_pos (nI_lt h ha), Nat.min_eq_right (by omega)]
  · rw [if_neg (nI_nlt (by omega) hb), Nat.min_eq_left (by omega)]
theorem max0I {a b : Nat} (ha : a < 2 ^ 31) (hb : b < 2 ^ 31) : (if nI a - nI b < 0 then 0 else nI a - nI b) = nI (a - b) := by
  by_cases h : a < b
  · rw [if_pos (nI_sub_neg h hb), show a - b = 0 by omega]; rfl
  · rw [nI_sub (by omega), if_neg (nI_pos (by omega))]
theorem p_shared (d : Nat) {k : Nat} (hL : PalL k) {h : AH} {r : Nat → Int32} {w : Nat → UInt32} (P : Pal h k r w) (hw : Wel r) {a b : Nat} (ha : a < CN r) (hb : b < CN r) (sa : ofB r a 2 = 1) (sb : ofB r b 2 = 1) : EvM d mX8_sharedColumns [.ref k, .int (nI a), .int (nI b)] h (some (.int (nI (min (CO r a + LN r a) (CO r b + LN r b) - max (CO r a) (CO r b))))) h := by
  have h40 := hw.2.1
  obtain ⟨⟨la, -, -⟩, pa⟩ := hw.2.2 a ha
  obtain ⟨⟨lb, -, -⟩, pb⟩ := hw.2.2 b hb
  obtain ⟨a1, a2, -, -, -, -⟩ := pa sa
  obtain ⟨b1, b2, -, -, -, -⟩ := pb sb
  obtain ⟨L0, L1, L2, L3, L4, L5, L6, L7, L8, L9, L10, L11, L12⟩ := hL
  show EvR _ _ 0 [(0, _), (1, _), (2, _)] [] _ _ _
  refine er_s rfl ?_
  refine er_b rfl rfl (fun q => absurd q (nI_pos (by omega))) (fun _ => ?_)
  iterate 2 refine er_s rfl ?_
  refine er_b rfl rfl (fun q => absurd q (nI_ge (b := 40) (by omega) (by decide))) (fun _ => ?_)
  refine er_s rfl ?_
  refine er_b rfl rfl (fun q => absurd q (nI_pos (by omega))) (fun _ => ?_)
  iterate 2 refine er_s rfl ?_
  refine er_b rfl rfl (fun _ => ?_) (fun q => absurd (nI_lt (b := 40) (by omega) (by decide)) q)
  refine er_s rfl ?_
  refine er_f rfl L0 rfl ?_
  refine er_s rfl ?_
  refine er_il rfl L6 (vi) ?_
  refine er_s rfl ?_
  refine er_f rfl L0 rfl ?_
  refine er_s rfl ?_
  refine er_il rfl L6 (vi) ?_
  iterate 3 refine er_s rfl ?_
  refine er_f rfl L0 rfl ?_
  refine er_s rfl ?_
  refine er_il rfl L6 (vi) ?_
  refine er_s rfl ?_
  refine er_f rfl L0 rfl ?_
  refine er_s rfl ?_
  refine er_il rfl L3 (vi) ?_
  iterate 2 refine er_s rfl ?_
  refine er_f rfl L0 rfl ?_
  refine er_s rfl ?_
  refine er_il rfl L6 (vi) ?_
  refine er_s rfl ?_
  refine er_f rfl L0 rfl ?_
  refine er_s rfl ?_
  refine er_il rfl L3 (vi) ?_
  iterate 8 refine er_s rfl ?_
  refine er_q rfl ?_ ?_
  · rw [cl a, cl b, P.co ha, P.co hb, P.ln ha, P.ln hb, a1, b1, la, lb, maxI (by omega) (by omega), nI_add, nI_add, minI (by omega) (by omega)]
    exact congrArg (fun z => some (Value.int z)) (max0I (by omega) (by omega))
  · rfl
/-- v at L places of the wall's row -/
def fillW (f : Nat → Int32) (s L : Nat) (v : Int32) : Nat → Int32 := fun i => if s ≤ i ∧ i < s + L then v else f i
theorem fillW_0 {f : Nat → Int32} {s : Nat} {v : Int32} : fillW f s 0 v = f := by
  funext i
  exact if_neg (by omega)
theorem fillW_s {f : Nat → Int32} {s n : Nat} {v : Int32} : upd (fillW f s n v) (s + n) v = fillW f s (n + 1) v := by
  funext i
  unfold upd fillW
  by_cases e : i = s + n
  · rw [if_pos e, if_pos (by omega)]
  · rw [if_neg e]
    by_cases e2 : s ≤ i ∧ i < s + n
    · rw [if_pos e2, if_pos (by omega)]
    · rw [if_neg e2, if_neg (by omega)]
theorem p_mark (d : Nat) {k : Nat} (hL : PalL k) {b c j L : Nat} (hb : b < 40) (h : AH) (e1 : h.1 (k + 3) b = nI L) (e2 : h.1 (k + 6) b = nI j) (e3 : h.1 (k + 7) b = nI c) (hc : c < 8) (hj : j + L ≤ 12) (v : Int32) : EvM (d + 1) mX8_markColumns [.ref k, .int (nI b), .int v] h none (hIr h (k + 11) (fillW (h.1 (k + 11)) (c * 12 + j) L v)) := by
  obtain ⟨L0, L1, L2, L3, L4, L5, L6, L7, L8, L9, L10, L11, L12⟩ := hL
  have Lp : ∀ (m i : Nat), i + m = L → EvR (d + 1) mX8_markColumns 13 [(0, .ref k), (1, .int (nI b)), (2, .int v), (3, .int (nI i))] [] (hIr h (k + 11) (fillW (h.1 (k + 11)) (c * 12 + j) i v)) none (hIr h (k + 11) (fillW (h.1 (k + 11)) (c * 12 + j) L v)) := by
    intro m
    induction m with
    | zero =>
      intro i hi
      have hi : i = L := by omega
      subst hi
      iterate 2 refine er_s rfl ?_
      refine er_f rfl L0 rfl ?_
      refine er_s rfl ?_
      refine er_il rfl L3 (vi) ?_
      rw [hIr_ne (by omega), cl b, e1]
      refine er_b rfl rfl (fun _ => ?_) (fun q => absurd (Int32.le_refl _) q)
      refine er_q rfl ?_ ?_
      · rfl
      · rfl
    | succ m ih =>
      intro i hi
      have IH := ih (i + 1) (by omega)
      iterate 2 refine er_s rfl ?_
      refine er_f rfl L0 rfl ?_
      refine er_s rfl ?_
      refine er_il rfl L3 (vi) ?_
      rw [hIr_ne (by omega), cl b, e1]
      refine er_b rfl rfl (fun q => absurd q (nI_ge (by omega) (by omega))) (fun _ => ?_)
      refine er_s rfl ?_
      refine er_f rfl L0 rfl ?_
      refine er_s rfl ?_
      refine er_il rfl L6 (vi) ?_
      rw [hIr_ne (by omega), cl b, e2]
      iterate 2 refine er_s rfl ?_
      rw [nI_add]
      iterate 2 refine er_s rfl ?_
      refine er_c rfl rfl ⟨Nat.le_of_ble_eq_true rfl, Nat.le_of_ble_eq_true rfl⟩ (p_isColumn _ _ _) ?_
      refine er_b rfl rfl (fun q => absurd q (fun q => bI_eq.mp q ⟨nI_pos' (by omega), nI_lt (b := 12) (by omega) (by decide)⟩)) (fun _ => ?_)
      refine er_s rfl ?_
      refine er_f rfl L0 rfl ?_
      refine er_s rfl ?_
      refine er_il rfl L7 (vi) ?_
      rw [hIr_ne (by omega), cl b, e3]
      refine er_c rfl rfl ⟨Nat.le_of_ble_eq_true rfl, Nat.le_of_ble_eq_true rfl⟩ (p_isCourse _ _ _) ?_
      refine er_b rfl rfl (fun q => absurd q (fun q => bI_eq.mp q ⟨nI_pos' (by omega), nI_lt (b := 8) (by omega) (by decide)⟩)) (fun _ => ?_)
      refine er_s rfl ?_
      refine er_f rfl L0 rfl ?_
      refine er_s rfl ?_
      refine er_f rfl L0 rfl ?_
      refine er_s rfl ?_
      refine er_il rfl L7 (vi) ?_
      rw [hIr_ne (by omega), cl b, e3]
      iterate 5 refine er_s rfl ?_
      rw [show (12 : Int32) = nI 12 from rfl, pk_mul, nI_add]
      refine er_is rfl L11 (vi) ?_
      refine er_s rfl ?_
      refine er_g rfl rfl ?_
      rw [nI_1, cl _, hI_hIr, ← Nat.add_assoc, fillW_s]
      exact er_sub (sub4 rfl rfl rfl rfl) IH
  have Z := Lp L 0 (by omega)
  rw [fillW_0, hIr_self] at Z
  show EvR _ _ 0 [(0, _), (1, _), (2, _)] [] _ _ _
  refine er_s rfl ?_
  refine er_b rfl rfl (fun q => absurd q (nI_pos (by omega))) (fun _ => ?_)
  iterate 2 refine er_s rfl ?_
  refine er_b rfl rfl (fun _ => ?_) (fun q => absurd (nI_lt (b := 40) hb (by decide)) q)
  iterate 2 refine er_s rfl ?_
  exact er_sub (sub4 rfl rfl rfl rfl) Z
theorem p_leave (d : Nat) {k : Nat} (hL : PalL k) {b q p : Nat} (hb : b < 40) (h : AH) (e1 : h.1 (k + 2) b = nI q) (e2 : h.1 (k + 9) b = nI p) (hq : q < 2) (hp : p < 5) : EvM d mX8_leaveRack [.ref k, .int (nI b)] h none (hI (hI h (k + 12) (q * 5 + p) (-1)) (k + 9) b (-1)) := by
  obtain ⟨L0, L1, L2, L3, L4, L5, L6, L7, L8, L9, L10, L11, L12⟩ := hL
  show EvR _ _ 0 [(0, _), (1, _)] [] _ _ _
  refine er_s rfl ?_
  refine er_b rfl rfl (fun q => absurd q (nI_pos (by omega))) (fun _ => ?_)
  iterate 2 refine er_s rfl ?_
  refine er_b rfl rfl (fun _ => ?_) (fun q => absurd (nI_lt (b := 40) hb (by decide)) q)
  refine er_s rfl ?_
  refine er_f rfl L0 rfl ?_
  refine er_s rfl ?_
  refine er_il rfl L2 (vi) ?_
  rw [cl b, e1]
  iterate 3 refine er_s rfl ?_
  refine er_f rfl L0 rfl ?_
  refine er_s rfl ?_
  refine er_il rfl L9 (vi) ?_
  rw [cl b, e2, show (5 : Int32) = nI 5 from rfl, pk_mul]
  refine er_s rfl ?_
  rw [nI_add]
  iterate 2 refine er_s rfl ?_
  refine er_b rfl rfl (fun q => absurd q (nI_pos (by omega))) (fun _ => ?_)
  iterate 2 refine er_s rfl ?_
  refine er_f rfl L0 rfl ?_
  refine er_al rfl L12 ⟨by decide, by decide⟩ ?_
  refine er_b rfl rfl (fun q => absurd q (nI_ge (b := 10) (by omega) (by decide))) (fun _ => ?_)
  refine er_s rfl ?_
  refine er_f rfl L0 rfl ?_
  iterate 2 refine er_s rfl ?_
  refine er_is rfl L12 (vi) ?_
  refine er_s rfl ?_
  refine er_f rfl L0 rfl ?_
  iterate 2 refine er_s rfl ?_
  refine er_is rfl L9 (vi) ?_
  refine er_q rfl ?_ ?_
  · rfl
  · rw [cl b, cl _]
/-- six fields of a block put anew, and the wall and the racks -/
theorem Pal_set {h h' : AH} {k b : Nat} {r r' : Nat → Int32} {w : Nat → UInt32} {s co cu jt pl wy : Int32} (P : Pal h k r w) (hw : Wel r) (hb : b < CN r) (hr : ∀ i, i < 29 → r' i = r i) (hB : ∀ b2 x, x < 8 → ofB r' b2 x = ofB (setB r b s co cu jt pl wy) b2 x)
    (E0 : h'.1 k = h.1 k) (E1 : h'.1 (k + 1) = h.1 (k + 1)) (E2 : h'.1 (k + 2) = h.1 (k + 2)) (E3 : h'.1 (k + 3) = h.1 (k + 3)) (E4 : h'.2.1 (k + 4) = h.2.1 (k + 4)) (E5 : h'.1 (k + 5) = upd (h.1 (k + 5)) b s) (E6 : h'.1 (k + 6) = upd (h.1 (k + 6)) b co) (E7 : h'.1 (k + 7) = upd (h.1 (k + 7)) b cu) (E8 : h'.1 (k + 8) = upd (h.1 (k + 8)) b jt) (E9 : h'.1 (k + 9) = upd (h.1 (k + 9)) b pl) (E10 : h'.1 (k + 10) = upd (h.1 (k + 10)) b wy)
    (E11 : ∀ i, i < 96 → h'.1 (k + 11) i = r' (29 + i)) (E12 : ∀ q p, q < 2 → p < 5 → h'.1 (k + 12) (q * 5 + p) = orM (blkIn r' (nI q) (nI p)) (CN r')) : Pal h' k r' w := by
  have hC : CN r' = CN r := by show (r' 4).toNatClampNeg = _; rw [hr 4 (by decide)]
  refine ⟨fun i hi => ?_, fun i hi => ?_, fun b2 hb2 => ?_, fun b2 hb2 hb3 => ?_, E11, E12⟩
  · rw [E0, P.hd hi, hr i (by omega)]
  · rw [E1, P.tm hi, hr _ (by omega)]
  · rw [hC] at hb2
    by_cases e : b2 = b
    · subst e
      obtain ⟨f0, f1, f2, f3, f4, f5, f6, f7⟩ := setB_eq (r := r) (b := b2) (s := s) (co := co) (cu := cu) (jt := jt) (pl := pl) (wy := wy)
      refine ⟨by rw [E2, P.kd hb2, hB _ _ (by decide), f0], by rw [E3, P.ln hb2, hB _ _ (by decide), f1], by rw [E4, P.ms hb2], fun o h1 h2 => ?_⟩
      rw [hB _ _ h2]
      rcases (by omega : o = 2 ∨ o = 3 ∨ o = 4 ∨ o = 5 ∨ o = 6 ∨ o = 7) with rfl | rfl | rfl | rfl | rfl | rfl
      · show h'.1 (k + 5) b2 = _
        rw [E5, f2, upd_eq]
      · show h'.1 (k + 6) b2 = _
        rw [E6, f3, upd_eq]
      · show h'.1 (k + 7) b2 = _
        rw [E7, f4, upd_eq]
      · show h'.1 (k + 8) b2 = _
        rw [E8, f5, upd_eq]
      · show h'.1 (k + 9) b2 = _
        rw [E9, f6, upd_eq]
      · show h'.1 (k + 10) b2 = _
        rw [E10, f7, upd_eq]
    · refine ⟨by rw [E2, P.kd hb2, hB _ _ (by decide), setB_ne e (by decide)], by rw [E3, P.ln hb2, hB _ _ (by decide), setB_ne e (by decide)], by rw [E4, P.ms hb2], fun o h1 h2 => ?_⟩
      rw [hB _ _ h2, setB_ne e h2]
      rcases (by omega : o = 2 ∨ o = 3 ∨ o = 4 ∨ o = 5 ∨ o = 6 ∨ o = 7) with rfl | rfl | rfl | rfl | rfl | rfl
      · show h'.1 (k + 5) b2 = _
        rw [E5, upd_ne e, P.st hb2]
      · show h'.1 (k + 6) b2 = _
        rw [E6, upd_ne e, P.co hb2]
      · show h'.1 (k + 7) b2 = _
        rw [E7, upd_ne e, P.cu hb2]
      · show h'.1 (k + 8) b2 = _
        rw [E8, upd_ne e, P.jt hb2]
      · show h'.1 (k + 9) b2 = _
        rw [E9, upd_ne e, P.pl hb2]
      · show h'.1 (k + 10) b2 = _
        rw [E10, upd_ne e, P.wy hb2]
  · rw [hC] at hb2
    have e : b2 ≠ b := by omega
    rw [E5, E6, E7, E8, E9, E10, upd_ne e, upd_ne e, upd_ne e, upd_ne e, upd_ne e, upd_ne e]
    exact P.2.2.2.1 b2 hb2 hb3
theorem p_remW (d : Nat) {k : Nat} (hL : PalL k) {h : AH} {r : Nat → Int32} {w : Nat → UInt32} (P : Pal h k r w) (hS : Str r) {b : Nat} (hb : b < CN r) (hs : ofB r b 2 = 1) (y : Int32) : WM (d + 2) mX8_remove [.ref k, .int (nI b), .int y] h (fun v h' => v = none ∧ Pal h' k (goesR r b y) w ∧ FrP k h h') := by
  have h40 := hS.1.2.1
  obtain ⟨⟨l1, l2, l3⟩, pb⟩ := hS.1.2.2 b hb
  have hp := pb
  obtain ⟨p1, p2, p3, p4, p5, p6⟩ := pb hs
  have M := p_mark d hL (b := b) (c := CU r b) (j := CO r b) (L := LN r b) (by omega) h (by rw [P.ln hb]; exact l1) (by rw [P.co hb]; exact p1) (by rw [P.cu hb]; exact p3) (by omega) (by omega) (-1)
  have b6 : ofB r b 6 = -1 := by
    rcases (hS.b hb).2 with q | q | q
    · exact absurd (q.1.symm.trans hs) (by decide)
    · exact q.2.1
    · exact absurd (q.1.symm.trans hs) (by decide)
  obtain ⟨L0, L1, L2, L3, L4, L5, L6, L7, L8, L9, L10, L11, L12⟩ := hL
  refine ex_of (v := none) (h' := hI (hI (hI (hI (hI (hIr h (k + 11) (fillW (h.1 (k + 11)) (CU r b * 12 + CO r b) (LN r b) (-1))) (k + 5) b 2) (k + 6) b (-1)) (k + 7) b (-1)) (k + 8) b 0) (k + 10) b y) ?_ ⟨rfl, ?_, ?_⟩
  · show EvR _ _ 0 [(0, _), (1, _), (2, _)] [] _ _ _
    refine er_s rfl ?_
    refine er_b rfl rfl (fun q => absurd q (nI_pos (by omega))) (fun _ => ?_)
    iterate 2 refine er_s rfl ?_
    refine er_b rfl rfl (fun _ => ?_) (fun q => absurd (nI_lt (b := 40) (by omega) (by decide)) q)
    refine er_s rfl ?_
    refine er_f rfl L0 rfl ?_
    refine er_s rfl ?_
    refine er_il rfl L5 (vi) ?_
    refine er_s rfl ?_
    refine er_b rfl rfl (fun q => absurd q (fun q => q (by rw [cl b, P.st hb]; exact hs))) (fun _ => ?_)
    iterate 3 refine er_s rfl ?_
    refine er_v2 rfl L0 rfl ⟨Nat.le_of_ble_eq_true rfl, Nat.le_of_ble_eq_true rfl⟩ (M) ?_
    refine er_g rfl rfl ?_
    refine er_s rfl ?_
    refine er_f rfl L0 rfl ?_
    iterate 2 refine er_s rfl ?_
    refine er_is rfl L5 (vi) ?_
    refine er_s rfl ?_
    refine er_f rfl L0 rfl ?_
    iterate 2 refine er_s rfl ?_
    refine er_is rfl L6 (vi) ?_
    refine er_s rfl ?_
    refine er_f rfl L0 rfl ?_
    iterate 2 refine er_s rfl ?_
    refine er_is rfl L7 (vi) ?_
    refine er_s rfl ?_
    refine er_f rfl L0 rfl ?_
    iterate 2 refine er_s rfl ?_
    refine er_is rfl L8 (vi) ?_
    refine er_s rfl ?_
    refine er_f rfl L0 rfl ?_
    iterate 2 refine er_s rfl ?_
    refine er_is rfl L10 (vi) ?_
    refine er_q rfl ?_ ?_
    · rfl
    · rw [cl b]
  · refine Pal_set P hS.1 hb (s := 2) (co := -1) (cu := -1) (jt := 0) (pl := -1) (wy := y) (fun i hi => goesR_hd hi) (fun b2 x hx => ?_) ?_ ?_ ?_ ?_ rfl ?_ ?_ ?_ ?_ ?_ ?_ (fun i hi => ?_) (fun q p hq hpp => ?_)
    · by_cases e : b2 = b
      · subst e
        obtain ⟨g0, g1, g2, g3, g4, g5, g6, g7⟩ := goesR_eq (wy := y) hp
        obtain ⟨f0, f1, f2, f3, f4, f5, f6, f7⟩ := setB_eq (r := r) (b := b2) (s := 2) (co := -1) (cu := -1) (jt := 0) (pl := -1) (wy := y)
        rcases (by omega : x = 0 ∨ x = 1 ∨ x = 2 ∨ x = 3 ∨ x = 4 ∨ x = 5 ∨ x = 6 ∨ x = 7) with rfl | rfl | rfl | rfl | rfl | rfl | rfl | rfl
        · rw [g0, f0]
        · rw [g1, f1]
        · rw [g2, f2]
        · rw [g3, f3]
        · rw [g4, f4]
        · rw [g5, f5]
        · rw [g6, f6]
        · rw [g7, f7]
      · rw [goesR_ne hp e hx, setB_ne e hx]
    all_goals first
      | (repeat (first | rw [hI_at] | rw [hI_ne (by omega)] | rw [hIr_ne (by omega)])
         done)
      | skip
    · repeat (first | rw [hI_ne (by omega)] | rw [hIr_ne (by omega)])
      funext i
      unfold upd
      split
      · next e => rw [e, P.pl hb, b6]
      · rfl
    · repeat rw [hI_ne (by omega)]
      rw [hIr_at]
      unfold fillW
      have g := goesR_g (r := r) (b := b) (wy := y) hp (c := i / 12) (j := i % 12) (by omega) (by omega)
      have e1 : gAt (goesR r b y) (i / 12) (i % 12) = goesR r b y (29 + i) := congrArg (goesR r b y) (by omega)
      have e2 : gAt r (i / 12) (i % 12) = r (29 + i) := congrArg r (by omega)
      rw [e1, e2] at g
      rw [g, P.2.2.2.2.1 i hi]
      by_cases q : CU r b * 12 + CO r b ≤ i ∧ i < CU r b * 12 + CO r b + LN r b
      · rw [if_pos q, if_pos ⟨hs, by omega, by omega, by omega⟩]
      · rw [if_neg q, if_neg (fun z => q (by omega))]
    · repeat (first | rw [hI_ne (by omega)] | rw [hIr_ne (by omega)])
      rw [P.rk hq hpp, blkIn_goesW hp (by rw [hs]; decide), goesR_CN]
  · refine ⟨fun a ha => ⟨?_, rfl⟩, rfl⟩
    repeat (first | rw [hI_ne (by omega)] | rw [hIr_ne (by omega)])
end
