-- needs: 32
noncomputable section
theorem rack_ix {q q2 p p2 : Nat} (hp : p < 5) (hp2 : p2 < 5) : q2 * 5 + p2 = q * 5 + p ↔ q2 = q ∧ p2 = p := by omega
/-- what a block in a rack is -/
theorem in_rack {r : Nat → Int32} (hS : Str r) {b : Nat} (hb : b < CN r) (hs : ofB r b 2 = 0) : ∃ q p, q < 2 ∧ p < 5 ∧ ofB r b 0 = nI q ∧ ofB r b 6 = nI p ∧ ofB r b 3 = -1 ∧ ofB r b 4 = -1 ∧ ofB r b 5 = 0 ∧ ofB r b 7 = 0 := by
  obtain ⟨h0, h1⟩ := hS.b hb
  have hq : ∃ q, q < 2 ∧ ofB r b 0 = nI q := by
    rcases h0 with h | h
    · exact ⟨0, by decide, h⟩
    · exact ⟨1, by decide, h⟩
  obtain ⟨q, q1, q2⟩ := hq
  rcases h1 with z | z | z
  · obtain ⟨-, z3, z4, z5, ⟨p, p1, p2⟩, z7⟩ := z
    exact ⟨q, p, q1, p1, q2, p2, z3, z4, z5, z7⟩
  · exact absurd (z.1.symm.trans hs) (by decide)
  · exact absurd (z.1.symm.trans hs) (by decide)
theorem goes_setB {r : Nat → Int32} {b : Nat} {y : Int32} (hs : ¬ ofB r b 2 = 1) : goesR r b y = setB r b 2 (-1) (-1) 0 (-1) y := by unfold goesR; rw [if_neg hs]
theorem rk_leave {h : AH} {k b : Nat} {r r' : Nat → Int32} {w : Nat → UInt32} (P : Pal h k r w) (hS : Str r) (hb : b < CN r) (hs : ofB r b 2 = 0) {q p : Nat} (hq : q < 2) (hp : p < 5) (e0 : ofB r b 0 = nI q) (e6 : ofB r b 6 = nI p) (hc : CN r' = CN r) (hn : ¬ ofB r' b 2 = 0) (hB : ∀ j, j ≠ b → j < CN r → ofB r' j 2 = ofB r j 2 ∧ ofB r' j 0 = ofB r j 0 ∧ ofB r' j 6 = ofB r j 6) (q2 p2 : Nat) (hq2 : q2 < 2) (hp2 : p2 < 5) : upd (h.1 (k + 12)) (q * 5 + p) (-1) (q2 * 5 + p2) = orM (blkIn r' (nI q2) (nI p2)) (CN r') := by
  rw [orM_eq hS.2.2.2.2 hb hs hc hn hB, e0, e6]
  unfold upd
  by_cases e : q2 = q ∧ p2 = p
  · obtain ⟨rfl, rfl⟩ := e
    rw [if_pos rfl, if_pos ⟨rfl, rfl⟩]
  · rw [if_neg (fun z => e ((rack_ix hp hp2).mp z)), if_neg (fun z => e ⟨((nI_eq (by omega) (by omega)).mp z.1).symm, ((nI_eq (by omega) (by omega)).mp z.2).symm⟩)]
    exact P.rk hq2 hp2
theorem p_remR (d : Nat) {k : Nat} (hL : PalL k) {h : AH} {r : Nat → Int32} {w : Nat → UInt32} (P : Pal h k r w) (hS : Str r) {b : Nat} (hb : b < CN r) (hs : ofB r b 2 = 0) (y : Int32) : WM (d + 2) mX8_remove [.ref k, .int (nI b), .int y] h (fun v h' => v = none ∧ Pal h' k (goesR r b y) w ∧ FrP k h h') := by
  have h40 := hS.1.2.1
  obtain ⟨q, p, hq, hp, e0, e6, e3, e4, e5, e7⟩ := in_rack hS hb hs
  have M := p_leave (d + 1) hL (b := b) (q := q) (p := p) (by omega) h (by rw [P.kd hb]; exact e0) (by rw [P.pl hb]; exact e6) hq hp
  have hn1 : ¬ ofB r b 2 = 1 := by rw [hs]; decide
  have hg := goes_setB (y := y) hn1
  obtain ⟨L0, L1, L2, L3, L4, L5, L6, L7, L8, L9, L10, L11, L12⟩ := hL
  refine ex_of (v := none) (h' := hI (hI (hI (hI (hI (hI (hI h (k + 12) (q * 5 + p) (-1)) (k + 9) b (-1)) (k + 5) b 2) (k + 6) b (-1)) (k + 7) b (-1)) (k + 8) b 0) (k + 10) b y) ?_ ⟨rfl, ?_, ?_⟩
  · show EvR _ _ 0 [(0, _), (1, _), (2, _)] [] _ _ _
    refine er_s rfl ?_
    refine er_b rfl rfl (fun q => absurd q (nI_pos (by omega))) (fun _ => ?_)
    iterate 2 refine er_s rfl ?_
    refine er_b rfl rfl (fun _ => ?_) (fun q => absurd (nI_lt (b := 40) (by omega) (by decide)) q)
    refine er_s rfl ?_
    refine er_f rfl L0 rfl ?_
    refine er_s rfl ?_
    refine er_il rfl L5 (vi) ?_
    refine er_s rfl ?_
    refine er_b rfl rfl (fun _ => ?_) (fun q => absurd (by rw [cl b, P.st hb]; exact hn1) q)
    iterate 2 refine er_s rfl ?_
    refine er_v1 rfl L0 rfl ⟨Nat.le_of_ble_eq_true rfl, Nat.le_of_ble_eq_true rfl⟩ (M) ?_
    refine er_s rfl ?_
    refine er_f rfl L0 rfl ?_
    iterate 2 refine er_s rfl ?_
    refine er_is rfl L5 (vi) ?_
    refine er_s rfl ?_
    refine er_f rfl L0 rfl ?_
    iterate 2 refine er_s rfl ?_
    refine er_is rfl L6 (vi) ?_
    refine er_s rfl ?_
    refine er_f rfl L0 rfl ?_
    iterate 2 refine er_s rfl ?_
    refine er_is rfl L7 (vi) ?_
    refine er_s rfl ?_
    refine er_f rfl L0 rfl ?_
    iterate 2 refine er_s rfl ?_
    refine er_is rfl L8 (vi) ?_
    refine er_s rfl ?_
    refine er_f rfl L0 rfl ?_
    iterate 2 refine er_s rfl ?_
    refine er_is rfl L10 (vi) ?_
    refine er_q rfl ?_ ?_
    · rfl
    · rw [cl b]
  · refine Pal_set P hS.1 hb (s := 2) (co := -1) (cu := -1) (jt := 0) (pl := -1) (wy := y) (fun i hi => goesR_hd hi) (fun b2 x hx => by rw [hg]) ?_ ?_ ?_ ?_ rfl ?_ ?_ ?_ ?_ ?_ ?_ (fun i hi => ?_) (fun q2 p2 hq2 hp2 => ?_)
    all_goals first
      | (repeat (first | rw [hI_at] | rw [hI_ne (by omega)])
         done)
      | skip
    · repeat rw [hI_ne (by omega)]
      rw [P.2.2.2.2.1 i hi, hg, setB_hd (by omega)]
    · repeat rw [hI_ne (by omega)]
      rw [hI_at]
      refine rk_leave P hS hb hs hq hp e0 e6 goesR_CN ?_ (fun j hj hjc => ?_) q2 p2 hq2 hp2
      · rw [(goesR_eq (fun z => absurd z hn1)).2.2.1]; decide
      · exact ⟨goesR_ne (fun z => absurd z hn1) hj (by decide), goesR_ne (fun z => absurd z hn1) hj (by decide), goesR_ne (fun z => absurd z hn1) hj (by decide)⟩
  · refine ⟨fun a ha => ⟨?_, rfl⟩, rfl⟩
    repeat rw [hI_ne (by omega)]
/-- a block is laid -/
def layR (r : Nat → Int32) (b j c : Nat) : Nat → Int32 := fillR (setB r b 1 (nI j) (nI c) 0 (-1) (ofB r b 7)) c j (LN r b) (nI b)
theorem layR_hd {r : Nat → Int32} {b j c i : Nat} (hi : i < 29) : layR r b j c i = r i := by
  unfold layR
  rw [fillR_hd hi, setB_hd (by omega)]
theorem layR_b {r : Nat → Int32} {b j c b2 x : Nat} (hc : c < 8) (hj : j + LN r b ≤ 12) : ofB (layR r b j c) b2 x = ofB (setB r b 1 (nI j) (nI c) 0 (-1) (ofB r b 7)) b2 x := fillR_b hc hj
theorem layR_CN {r : Nat → Int32} {b j c : Nat} : CN (layR r b j c) = CN r := by
  show (layR r b j c 4).toNatClampNeg = _
  rw [layR_hd (by decide)]
theorem layR_g {r : Nat → Int32} {b j c c2 j2 : Nat} (hj : j + LN r b ≤ 12) (hc2 : c2 < 8) (hj2 : j2 < 12) : gAt (layR r b j c) c2 j2 = if c2 = c ∧ j ≤ j2 ∧ j2 < j + LN r b then nI b else gAt r c2 j2 := by
  unfold layR
  rw [fillR_g hj hj2]
  have : gAt (setB r b 1 (nI j) (nI c) 0 (-1) (ofB r b 7)) c2 j2 = gAt r c2 j2 := setB_hd (by omega)
  rw [this]
theorem p_put (d : Nat) {k : Nat} (hL : PalL k) {h : AH} {r : Nat → Int32} {w : Nat → UInt32} (P : Pal h k r w) (hS : Str r) {b j c : Nat} (hb : b < CN r) (hs : ofB r b 2 = 0) (hc : c < 8) (hj : j + LN r b ≤ 12) : WM (d + 2) mX8_putOnWall [.ref k, .int (nI b), .int (nI j), .int (nI c)] h (fun v h' => v = none ∧ Pal h' k (layR r b j c) w ∧ FrP k h h') := by
  have h40 := hS.1.2.1
  obtain ⟨⟨l1, l2, l3⟩, -⟩ := hS.1.2.2 b hb
  obtain ⟨q, p, hq, hp, e0, e6, e3, e4, e5, e7⟩ := in_rack hS hb hs
  have I := p_isInRack (d + 1) hL (b := b) (by omega) h
  have M := p_leave (d + 1) hL (b := b) (q := q) (p := p) (by omega) h (by rw [P.kd hb]; exact e0) (by rw [P.pl hb]; exact e6) hq hp
  have hH : ∃ h4, h4 = hI (hI (hI (hI (hI (hI h (k + 12) (q * 5 + p) (-1)) (k + 9) b (-1)) (k + 5) b 1) (k + 6) b (nI j)) (k + 7) b (nI c)) (k + 8) b 0 := ⟨_, rfl⟩
  obtain ⟨h4, hh4⟩ := hH
  have W := p_mark d hL (b := b) (c := c) (j := j) (L := LN r b) (by omega) h4 (by rw [hh4]; (repeat (rw [hI_ne (by omega)])); rw [P.ln hb]; exact l1) (by rw [hh4]; rw [hI_ne (by omega), hI_ne (by omega), hI_at, upd_eq]) (by rw [hh4]; rw [hI_ne (by omega), hI_at, upd_eq]) hc hj (nI b)
  rw [P.st hb] at I
  obtain ⟨L0, L1, L2, L3, L4, L5, L6, L7, L8, L9, L10, L11, L12⟩ := hL
  refine ex_of (v := none) (h' := hIr h4 (k + 11) (fillW (h4.1 (k + 11)) (c * 12 + j) (LN r b) (nI b))) ?_ ⟨rfl, ?_, ?_⟩
  · show EvR _ _ 0 [(0, _), (1, _), (2, _), (3, _)] [] _ _ _
    iterate 2 refine er_s rfl ?_
    refine er_v1 rfl L0 rfl ⟨Nat.le_of_ble_eq_true rfl, Nat.le_of_ble_eq_true rfl⟩ (I) ?_
    refine er_b rfl rfl (fun _ => ?_) (fun q => absurd (bI_ne.mpr hs) q)
    iterate 2 refine er_s rfl ?_
    refine er_v1 rfl L0 rfl ⟨Nat.le_of_ble_eq_true rfl, Nat.le_of_ble_eq_true rfl⟩ (M) ?_
    refine er_s rfl ?_
    refine er_f rfl L0 rfl ?_
    iterate 2 refine er_s rfl ?_
    refine er_is rfl L5 (vi) ?_
    refine er_s rfl ?_
    refine er_f rfl L0 rfl ?_
    iterate 2 refine er_s rfl ?_
    refine er_is rfl L6 (vi) ?_
    refine er_s rfl ?_
    refine er_f rfl L0 rfl ?_
    iterate 2 refine er_s rfl ?_
    refine er_is rfl L7 (vi) ?_
    refine er_s rfl ?_
    refine er_f rfl L0 rfl ?_
    iterate 2 refine er_s rfl ?_
    refine er_is rfl L8 (vi) ?_
    rw [cl b, ← hh4]
    iterate 3 refine er_s rfl ?_
    refine er_v2 rfl L0 rfl ⟨Nat.le_of_ble_eq_true rfl, Nat.le_of_ble_eq_true rfl⟩ (W) ?_
    refine er_q rfl ?_ ?_
    · rfl
    · rfl
  · have ew : h4.1 (k + 11) = h.1 (k + 11) := by rw [hh4]; repeat rw [hI_ne (by omega)]
    refine Pal_set P hS.1 hb (s := 1) (co := nI j) (cu := nI c) (jt := 0) (pl := -1) (wy := ofB r b 7) (fun i hi => layR_hd hi) (fun b2 x hx => layR_b hc hj) ?_ ?_ ?_ ?_ (by rw [hh4]; rfl) ?_ ?_ ?_ ?_ ?_ ?_ (fun i hi => ?_) (fun q2 p2 hq2 hp2 => ?_)
    all_goals first
      | (rw [hh4]
         repeat (first | rw [hI_at] | rw [hIr_ne (by omega)] | rw [hI_ne (by omega)])
         done)
      | skip
    · rw [hIr_ne (by omega), hh4]
      repeat rw [hI_ne (by omega)]
      funext i
      unfold upd
      split
      · next e => rw [e, P.wy hb]
      · rfl
    · rw [hIr_at, ew]
      unfold fillW
      have g := layR_g (r := r) (b := b) (c := c) (c2 := i / 12) (j2 := i % 12) hj (by omega) (by omega)
      have e1 : gAt (layR r b j c) (i / 12) (i % 12) = layR r b j c (29 + i) := congrArg (layR r b j c) (by omega)
      have e2 : gAt r (i / 12) (i % 12) = r (29 + i) := congrArg r (by omega)
      rw [e1, e2] at g
      rw [g, P.2.2.2.2.1 i hi]
      by_cases z : c * 12 + j ≤ i ∧ i < c * 12 + j + LN r b
      · rw [if_pos z, if_pos ⟨by omega, by omega, by omega⟩]
      · rw [if_neg z, if_neg (fun y => z (by omega))]
    · rw [hIr_ne (by omega), hh4]
      repeat rw [hI_ne (by omega)]
      rw [hI_at]
      obtain ⟨f0, f1, f2, f3, f4, f5, f6, f7⟩ := setB_eq (r := r) (b := b) (s := 1) (co := nI j) (cu := nI c) (jt := 0) (pl := -1) (wy := ofB r b 7)
      refine rk_leave P hS hb hs hq hp e0 e6 layR_CN ?_ (fun i hi hjc => ?_) q2 p2 hq2 hp2
      · rw [layR_b hc hj, f2]; decide
      · rw [layR_b hc hj, layR_b hc hj, layR_b hc hj]
        exact ⟨setB_ne hi (by decide), setB_ne hi (by decide), setB_ne hi (by decide)⟩
  · refine ⟨fun a ha => ⟨?_, by rw [hh4]; rfl⟩, by rw [hh4]; rfl⟩
    rw [hIr_ne (by omega), hh4]
    repeat rw [hI_ne (by omega)]
theorem lay_Str {r : Nat → Int32} (h : Str r) {b j c : Nat} (hb : b < CN r) (hs : ofB r b 2 = 0) (hc : c < 8) (hj : j + LN r b ≤ 12) (hf : ∀ i, i < LN r b → ¬ 0 ≤ gAt r c (j + i)) : Str (layR r b j c) := by
  obtain ⟨hw, hB, hA, hG, hR⟩ := id h
  have h40 := hw.2.1
  obtain ⟨q, p, hq, hp, e0, e6, e3, e4, e5, e7⟩ := in_rack h hb hs
  obtain ⟨f0, f1, f2, f3, f4, f5, f6, f7⟩ := setB_eq (r := r) (b := b) (s := 1) (co := nI j) (cu := nI c) (jt := 0) (pl := -1) (wy := ofB r b 7)
  have B := fun b2 x => layR_b (r := r) (b := b) (j := j) (c := c) (b2 := b2) (x := x) hc hj
  have eB : ∀ b2 x, b2 ≠ b → x < 8 → ofB (layR r b j c) b2 x = ofB r b2 x := fun b2 x e hx => by rw [B, setB_ne e hx]
  have eL : ∀ b2, ofB (layR r b j c) b2 1 = ofB r b2 1 := fun b2 => by
    by_cases e : b2 = b
    · subst e; rw [B, f1]
    · exact eB b2 1 e (by decide)
  have hl := (hw.2.2 b hb).1
  have eLN : LN (layR r b j c) b = LN r b := congrArg Int32.toNatClampNeg (eL b)
  have eCO : CO (layR r b j c) b = j := by show (ofB (layR r b j c) b 3).toNatClampNeg = j; rw [B, f3, nI_clamp (by omega)]
  have eCU : CU (layR r b j c) b = c := by show (ofB (layR r b j c) b 4).toNatClampNeg = c; rw [B, f4, nI_clamp (by omega)]
  have hcov : ∀ b2 c2 j2, cov (layR r b j c) b2 c2 j2 ↔ (b2 = b ∧ c2 = c ∧ j ≤ j2 ∧ j2 < j + LN r b) ∨ (b2 ≠ b ∧ cov r b2 c2 j2) := by
    intro b2 c2 j2
    by_cases e : b2 = b
    · subst e
      unfold cov
      rw [B, f2, eCO, eCU, eLN]
      exact ⟨fun z => Or.inl ⟨rfl, z.2.1.symm, z.2.2.1, z.2.2.2⟩, fun z => by
        rcases z with z | z
        · exact ⟨rfl, z.2.1.symm, z.2.2.1, z.2.2.2⟩
        · exact absurd rfl z.1⟩
    · unfold cov
      show ofB (layR r b j c) b2 2 = 1 ∧ (ofB (layR r b j c) b2 4).toNatClampNeg = c2 ∧ (ofB (layR r b j c) b2 3).toNatClampNeg ≤ j2 ∧ j2 < (ofB (layR r b j c) b2 3).toNatClampNeg + (ofB (layR r b j c) b2 1).toNatClampNeg ↔ _
      rw [eB b2 2 e (by decide), eB b2 3 e (by decide), eB b2 4 e (by decide), eB b2 1 e (by decide)]
      exact ⟨fun z => Or.inr ⟨e, z⟩, fun z => by
        rcases z with z | z
        · exact absurd z.1 e
        · exact z.2⟩
  have hW : Wel (layR r b j c) := by
    refine ⟨by rw [layR_CN, layR_hd (by decide)]; exact hw.1, by rw [layR_CN]; exact h40, fun b2 hb2 => ?_⟩
    rw [layR_CN] at hb2
    obtain ⟨q1, q2⟩ := hw.2.2 b2 hb2
    refine ⟨?_, fun hs2 => ?_⟩
    · show ofB (layR r b j c) b2 1 = nI (ofB (layR r b j c) b2 1).toNatClampNeg ∧ 1 ≤ (ofB (layR r b j c) b2 1).toNatClampNeg ∧ (ofB (layR r b j c) b2 1).toNatClampNeg ≤ 6
      rw [eL]
      exact q1
    · by_cases e : b2 = b
      · subst e
        unfold PlOk
        rw [eCO, eCU, eLN]
        refine ⟨by rw [B, f3], hj, by rw [B, f4], by omega, ?_, ?_⟩
        · show ofB (layR r b2 j c) b2 5 = nI (ofB (layR r b2 j c) b2 5).toNatClampNeg
          rw [B, f5]; rfl
        · show (ofB (layR r b2 j c) b2 5).toNatClampNeg ≤ 9
          rw [B, f5]; decide
      · rw [eB b2 2 e (by decide)] at hs2
        show ofB (layR r b j c) b2 3 = nI (ofB (layR r b j c) b2 3).toNatClampNeg ∧ (ofB (layR r b j c) b2 3).toNatClampNeg + (ofB (layR r b j c) b2 1).toNatClampNeg ≤ 12 ∧ ofB (layR r b j c) b2 4 = nI (ofB (layR r b j c) b2 4).toNatClampNeg ∧ (ofB (layR r b j c) b2 4).toNatClampNeg ≤ 7 ∧ ofB (layR r b j c) b2 5 = nI (ofB (layR r b j c) b2 5).toNatClampNeg ∧ (ofB (layR r b j c) b2 5).toNatClampNeg ≤ 9
        rw [eB b2 3 e (by decide), eB b2 4 e (by decide), eB b2 5 e (by decide), eB b2 1 e (by decide)]
        exact q2 hs2
  refine ⟨hW, fun b2 hb2 => ?_, fun c2 j2 b2 hc2 hj2 hb2 hq2 => ?_, fun c2 j2 hc2 hj2 => ?_, fun x z hx hz hne sx sz kk => ?_⟩
  · rw [layR_CN] at hb2
    by_cases e : b2 = b
    · subst e
      refine ⟨by rw [B, f0]; exact (hB b2 hb).1, Or.inr (Or.inl ⟨by rw [B, f2], by rw [B, f6], by rw [B, f7]; exact e7⟩)⟩
    · unfold BlkS
      rw [eB b2 0 e (by decide), eB b2 2 e (by decide), eB b2 3 e (by decide), eB b2 4 e (by decide), eB b2 5 e (by decide), eB b2 6 e (by decide), eB b2 7 e (by decide)]
      exact hB b2 hb2
  · rw [layR_CN] at hb2
    rw [layR_g hj hc2 hj2]
    rcases (hcov b2 c2 j2).mp hq2 with z | z
    · rw [if_pos z.2, z.1]
    · rw [if_neg]
      · exact hA c2 j2 b2 hc2 hj2 hb2 z.2
      · rintro ⟨z1, z2, z3⟩
        have g := hA c2 j2 b2 hc2 hj2 hb2 z.2
        have := hf (j2 - j) (by omega)
        rw [show j + (j2 - j) = j2 by omega, ← z1, g] at this
        exact this (nI_pos' (by omega))
  · rw [layR_g hj hc2 hj2]
    by_cases z : c2 = c ∧ j ≤ j2 ∧ j2 < j + LN r b
    · rw [if_pos z]
      exact Or.inr ⟨b, by rw [layR_CN]; exact hb, rfl, (hcov b c2 j2).mpr (Or.inl ⟨rfl, z⟩)⟩
    · rw [if_neg z]
      rcases hG c2 j2 hc2 hj2 with g | ⟨b2, g1, g2, g3⟩
      · exact Or.inl g
      · refine Or.inr ⟨b2, by rw [layR_CN]; exact g1, g2, (hcov b2 c2 j2).mpr (Or.inr ⟨fun e => ?_, g3⟩)⟩
        subst e
        exact absurd (hs.symm.trans g3.1) (by decide)
  · rw [layR_CN] at hx hz
    have ex : x ≠ b := fun e => by subst e; rw [B, f2] at sx; cases sx
    have ez : z ≠ b := fun e => by subst e; rw [B, f2] at sz; cases sz
    rw [eB x 2 ex (by decide)] at sx
    rw [eB z 2 ez (by decide)] at sz
    rw [eB x 0 ex (by decide), eB z 0 ez (by decide)] at kk
    rw [eB x 6 ex (by decide), eB z 6 ez (by decide)]
    exact hR x z hx hz hne sx sz kk
end
