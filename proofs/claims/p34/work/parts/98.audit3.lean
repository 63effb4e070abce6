-- needs: 97
noncomputable section
theorem cnt_wall {h : AH} {r : Nat → Int32} {w : Nat → UInt32} (P : Pal h 32 r w) (hS : Str r) {b : Nat} (hb : b < CN r) : cntP (fun i => decide (h.1 43 i = nI b)) 96 = if ofB r b 2 = 1 then LN r b else 0 := by
  have h40 := hS.1.2.1
  have e1 : ∀ i, i < 96 → decide (h.1 43 i = nI b) = cvB r b i := fun i hi => by
    rw [show h.1 43 i = r (29 + i) from P.2.2.2.2.1 i hi]
    have eg : gAt r (i / 12) (i % 12) = r (29 + i) := by
      show r (29 + 12 * (i / 12) + i % 12) = r (29 + i)
      exact congrArg r (by omega)
    cases c : cvB r b i with
    | true => exact decide_eq_true (cvB_g hS hb hi c)
    | false =>
      refine decide_eq_false (fun z => ?_)
      rcases hS.2.2.2.1 (i / 12) (i % 12) (by omega) (by omega) with y | ⟨b2, z1, z2, z3⟩
      · rw [eg, z] at y
        exact absurd (show (0 : Int32) ≤ -1 by rw [← y]; exact nI_pos' (by omega)) (by decide)
      · rw [eg, z] at z2
        have := (nI_eq (by omega) (by omega)).mp z2
        subst this
        have : cvB r b i = true := decide_eq_true ⟨z3.1, by have := z3.2.1; have := z3.2.2.1; omega, by have := z3.2.1; have := z3.2.2.2; omega⟩
        rw [c] at this
        cases this
  rw [cntP_congr e1]
  by_cases c : ofB r b 2 = 1
  · rw [if_pos c]
    have ok := (hS.1.2.2 b hb).2 c
    have o2 := ok.2.1
    have o4 := ok.2.2.2.1
    rw [cntP_congr (q := fun k => decide (12 * CU r b + CO r b ≤ k ∧ k < 12 * CU r b + CO r b + LN r b)) (fun k _ => by
      unfold cvB
      by_cases z : 12 * CU r b + CO r b ≤ k ∧ k < 12 * CU r b + CO r b + LN r b
      · rw [decide_eq_true z, decide_eq_true ⟨c, z⟩]
      · rw [decide_eq_false z, decide_eq_false (fun y => z y.2)]), cntP_iv]
    omega
  · rw [if_neg c]
    have z0 : ¬ 0 < cntP (cvB r b) 96 := fun z => by
      obtain ⟨k, -, k2⟩ := cntP_pos.mp z
      exact c (of_decide_eq_true k2).1
    exact Nat.eq_zero_of_not_pos z0
theorem cnt_rack {h : AH} {r : Nat → Int32} {w : Nat → UInt32} (P : Pal h 32 r w) (hS : Str r) {b : Nat} (hb : b < CN r) : cntP (fun i => decide (h.1 44 i = nI b)) 10 = if ofB r b 2 = 0 then 1 else 0 := by
  have h40 := hS.1.2.1
  have e1 : ∀ i, i < 10 → (h.1 44 i = nI b ↔ blkIn r (nI (i / 5)) (nI (i % 5)) = b) := fun i hi => by
    rw [show h.1 44 i = orM (blkIn r (nI (i / 5)) (nI (i % 5))) (CN r) by
      have := P.rk (q := i / 5) (p := i % 5) (by omega) (by omega)
      rw [← this]
      exact congrArg (h.1 44) (by omega)]
    unfold orM
    split
    · next c => exact nI_eq (by omega) (by omega)
    · next c => exact ⟨fun z => absurd (show (0 : Int32) ≤ -1 by rw [z]; exact nI_pos' (by omega)) (by decide), fun z => absurd hb (by omega)⟩
  by_cases c : ofB r b 2 = 0
  · rw [if_pos c]
    obtain ⟨q, p, hq, hp, g0, g6, -⟩ := in_rack hS hb c
    have e2 : ∀ i, i < 10 → decide (h.1 44 i = nI b) = decide (q * 5 + p ≤ i ∧ i < q * 5 + p + 1) := fun i hi => by
      by_cases z : q * 5 + p ≤ i ∧ i < q * 5 + p + 1
      · rw [decide_eq_true z]
        refine decide_eq_true ((e1 i hi).mpr ?_)
        have := blkIn_of hS.2.2.2.2 hb c
        rw [g0, g6] at this
        rw [show i / 5 = q by omega, show i % 5 = p by omega]
        exact this
      · rw [decide_eq_false z]
        refine decide_eq_false (fun y => z ?_)
        have e3 := (e1 i hi).mp y
        obtain ⟨-, s1, s2⟩ := blkIn_some (r := r) (x := nI (i / 5)) (y := nI (i % 5)) (by rw [e3]; exact hb)
        rw [e3, g0] at s1
        rw [e3, g6] at s2
        have := (nI_eq (by omega) (by omega)).mp s1
        have := (nI_eq (by omega) (by omega)).mp s2
        omega
    rw [cntP_congr e2, cntP_iv]
    omega
  · rw [if_neg c]
    have z0 : ¬ 0 < cntP (fun i => decide (h.1 44 i = nI b)) 10 := fun z => by
      obtain ⟨k, k1, k2⟩ := cntP_pos.mp z
      have e3 := (e1 k k1).mp (of_decide_eq_true k2)
      have := (blkIn_some (r := r) (x := nI (k / 5)) (y := nI (k % 5)) (by rw [e3]; exact hb)).1
      rw [e3] at this
      exact c this
    exact Nat.eq_zero_of_not_pos z0
theorem p_isSomewhere (d : Nat) {h : AH} {r : Nat → Int32} {w : Nat → UInt32} (P : Pal h 32 r w) (hS : Str r) {b : Nat} (hb : b < CN r) : EvM (d + 2) mX1_isSomewhere [.ref 32, .int (nI b)] h (some (.int 1)) h := by
  have h40 := hS.1.2.1
  have W := p_countIn43 (d + 1) (nI b) h
  rw [cnt_wall P hS hb] at W
  have R := p_countIn44 (d + 1) (nI b) h
  rw [cnt_rack P hS hb] at R
  have A1 := p_inR (d + 1) palL32 P h40 hb
  have A2 := p_isOnWall (d + 1) palL32 (b := b) (by omega) h
  rw [show h.1 (32 + 5) b = ofB r b 2 from P.st hb] at A2
  have A3 := p_gone (d + 1) palL32 P h40 hb
  have N := p_numberOf d P hS.1 hb (x := 1) (by decide)
  have ln := (hS.1.2.2 b hb).1.1
  rcases (hS.b hb).2 with q | q | q
  · have c := q.1
    rw [if_pos c] at R
    rw [if_neg (by rw [c]; decide)] at W
    show EvR _ _ 0 [(0, _), (1, _)] [] _ _ _
    iterate 3 refine er_s rfl ?_
    refine er_c rfl rfl ⟨Nat.le_of_ble_eq_true rfl, Nat.le_of_ble_eq_true rfl⟩ (R) ?_
    iterate 4 refine er_s rfl ?_
    refine er_c rfl rfl ⟨Nat.le_of_ble_eq_true rfl, Nat.le_of_ble_eq_true rfl⟩ (W) ?_
    iterate 3 refine er_s rfl ?_
    refine er_c rfl rfl ⟨Nat.le_of_ble_eq_true rfl, Nat.le_of_ble_eq_true rfl⟩ (A1) ?_
    refine er_b rfl rfl (fun q => absurd q (bI_ne.mpr c)) (fun _ => ?_)
    iterate 2 refine er_s rfl ?_
    refine er_b rfl rfl (fun q => absurd q (fun z => z rfl)) (fun _ => ?_)
    refine er_s rfl ?_
    refine er_b rfl rfl (fun q => absurd q (fun z => z rfl)) (fun _ => ?_)
    refine er_s rfl ?_
    refine er_g rfl rfl ?_
    refine er_q (ret_bK rfl rfl) ?_ ?_
    · rfl
    · rfl
  · have c := q.1
    have c0 : ¬ ofB r b 2 = 0 := by rw [c]; decide
    rw [if_neg c0] at R
    rw [if_pos c] at W
    show EvR _ _ 0 [(0, _), (1, _)] [] _ _ _
    iterate 3 refine er_s rfl ?_
    refine er_c rfl rfl ⟨Nat.le_of_ble_eq_true rfl, Nat.le_of_ble_eq_true rfl⟩ (R) ?_
    iterate 4 refine er_s rfl ?_
    refine er_c rfl rfl ⟨Nat.le_of_ble_eq_true rfl, Nat.le_of_ble_eq_true rfl⟩ (W) ?_
    iterate 3 refine er_s rfl ?_
    refine er_c rfl rfl ⟨Nat.le_of_ble_eq_true rfl, Nat.le_of_ble_eq_true rfl⟩ (A1) ?_
    refine er_b rfl rfl (fun _ => ?_) (fun q => absurd (bI_eq.mpr c0) q)
    iterate 2 refine er_s rfl ?_
    refine er_c rfl rfl ⟨Nat.le_of_ble_eq_true rfl, Nat.le_of_ble_eq_true rfl⟩ (A2) ?_
    refine er_b rfl rfl (fun q => absurd q (bI_ne.mpr c)) (fun _ => ?_)
    refine er_s rfl ?_
    refine er_b rfl rfl (fun q => absurd q (fun z => z rfl)) (fun _ => ?_)
    iterate 4 refine er_s rfl ?_
    refine er_c rfl rfl ⟨Nat.le_of_ble_eq_true rfl, Nat.le_of_ble_eq_true rfl⟩ (N) ?_
    refine er_b rfl rfl (fun q => absurd q (fun z => z ln.symm)) (fun _ => ?_)
    refine er_s rfl ?_
    refine er_g rfl rfl ?_
    refine er_q (ret_bK rfl rfl) ?_ ?_
    · rfl
    · rfl
  · have c := q.1
    have c0 : ¬ ofB r b 2 = 0 := by rw [c]; decide
    have c1 : ¬ ofB r b 2 = 1 := by rw [c]; decide
    rw [if_neg c0] at R
    rw [if_neg c1] at W
    show EvR _ _ 0 [(0, _), (1, _)] [] _ _ _
    iterate 3 refine er_s rfl ?_
    refine er_c rfl rfl ⟨Nat.le_of_ble_eq_true rfl, Nat.le_of_ble_eq_true rfl⟩ (R) ?_
    iterate 4 refine er_s rfl ?_
    refine er_c rfl rfl ⟨Nat.le_of_ble_eq_true rfl, Nat.le_of_ble_eq_true rfl⟩ (W) ?_
    iterate 3 refine er_s rfl ?_
    refine er_c rfl rfl ⟨Nat.le_of_ble_eq_true rfl, Nat.le_of_ble_eq_true rfl⟩ (A1) ?_
    refine er_b rfl rfl (fun _ => ?_) (fun q => absurd (bI_eq.mpr c0) q)
    iterate 2 refine er_s rfl ?_
    refine er_c rfl rfl ⟨Nat.le_of_ble_eq_true rfl, Nat.le_of_ble_eq_true rfl⟩ (A2) ?_
    refine er_b rfl rfl (fun _ => ?_) (fun q => absurd (bI_eq.mpr c1) q)
    iterate 2 refine er_s rfl ?_
    refine er_c rfl rfl ⟨Nat.le_of_ble_eq_true rfl, Nat.le_of_ble_eq_true rfl⟩ (A3) ?_
    refine er_b rfl rfl (fun q => absurd q (bI_ne.mpr c)) (fun _ => ?_)
    refine er_s rfl ?_
    refine er_b rfl rfl (fun q => absurd q (fun z => z rfl)) (fun _ => ?_)
    refine er_s rfl ?_
    refine er_b rfl rfl (fun q => absurd q (fun z => z rfl)) (fun _ => ?_)
    refine er_s rfl ?_
    refine er_g rfl rfl ?_
    refine er_q (ret_bK rfl rfl) ?_ ?_
    · rfl
    · rfl
theorem p_well_loop (d : Nat) {h : AH} {r : Nat → Int32} {w : Nat → UInt32} {B L : Nat} (P : Pal h 32 r w) (I : Inv B r w) (hL : L + lenN r true = 200) (hl : ∀ b, b < CN r → ofB r b 2 = 1 → h.2.1 97 b = LDw r w b) : ∀ (m i : Nat), i + m = CN r → EvR (d + 14) mX1_isAllWell 7 [(0, .ref 32), (1, .ref 96), (2, .int (nI (L + sumN (lenF r true) i))), (3, .int (nI i))] [] h (some (.int 1)) h
  | 0, i, hi => by
    have hw := I.1.1
    have h40 := hw.2.1
    have hi : i = CN r := by omega
    subst hi
    have hL : L + sumN (lenF r true) (CN r) = 200 := hL
    rw [hL]
    by_cases h4 : CN r < 40
    · iterate 2 refine er_s rfl ?_
      refine er_b rfl rfl (fun q => absurd q (nI_ge (b := 40) h4 (by decide))) (fun _ => ?_)
      iterate 3 refine er_s rfl ?_
      refine er_b rfl rfl (fun _ => ?_) (fun q => absurd (by rw [P.hd (by decide), hw.1]; exact Int32.le_refl _) q)
      iterate 2 refine er_s rfl ?_
      refine er_b rfl rfl (fun q => absurd q (fun z => z rfl)) (fun _ => ?_)
      refine er_s rfl ?_
      refine er_g rfl rfl ?_
      refine er_q (ret_bK rfl rfl) ?_ ?_
      · rfl
      · rfl
    · iterate 2 refine er_s rfl ?_
      refine er_b rfl rfl (fun _ => ?_) (fun q => absurd (nI_le (a := 40) (by omega) (by omega)) q)
      iterate 2 refine er_s rfl ?_
      refine er_b rfl rfl (fun q => absurd q (fun z => z rfl)) (fun _ => ?_)
      refine er_s rfl ?_
      refine er_g rfl rfl ?_
      refine er_q (ret_bK rfl rfl) ?_ ?_
      · rfl
      · rfl
  | m + 1, i, hi => by
    have hw := I.1.1
    have h40 := hw.2.1
    have IH := p_well_loop d P I hL hl m (i + 1) (by omega)
    have S := p_isSomewhere (d + 11) P I.1 (b := i) (by omega)
    have F := p_isFirm d P I.1 I.2.1.2.1 I.2.2.2.2.2.1 hl (b := i) (by omega)
    have ln : h.1 35 i = nI (LN r i) := (P.ln (b := i) (by omega)).trans (hw.2.2 i (by omega)).1.1
    have e : L + sumN (lenF r true) i + LN r i = L + sumN (lenF r true) (i + 1) := by
      show _ = L + (sumN (lenF r true) i + lenF r true i)
      rw [show lenF r true i = LN r i from if_pos (Or.inl rfl)]
      omega
    iterate 2 refine er_s rfl ?_
    refine er_b rfl rfl (fun q => absurd q (nI_ge (b := 40) (by omega) (by decide))) (fun _ => ?_)
    iterate 3 refine er_s rfl ?_
    refine er_b rfl rfl (fun q => absurd q (by rw [P.hd (by decide), hw.1]; exact nI_ge (by omega) (by omega))) (fun _ => ?_)
    iterate 4 refine er_s rfl ?_
    refine er_il rfl rfl (vi) ?_
    rw [cl i, ln]
    iterate 4 refine er_s rfl ?_
    refine er_c rfl rfl ⟨Nat.le_of_ble_eq_true rfl, Nat.le_of_ble_eq_true rfl⟩ (S) ?_
    refine er_b rfl rfl (fun q => absurd q (by decide)) (fun _ => ?_)
    iterate 3 refine er_s rfl ?_
    refine er_c rfl rfl ⟨Nat.le_of_ble_eq_true rfl, Nat.le_of_ble_eq_true rfl⟩ (F) ?_
    refine er_b rfl rfl (fun _ => ?_) (fun q => absurd (by decide) q)
    refine er_s rfl ?_
    refine er_g rfl rfl ?_
    rw [nI_add, e, nI_1]
    exact er_sub (sub4 rfl rfl rfl rfl) IH
theorem p_isAllWell (d : Nat) {h : AH} {r : Nat → Int32} {w : Nat → UInt32} {B : Nat} (P : Pal h 32 r w) (I : Inv B r w) (hl : ∀ b, b < CN r → ofB r b 2 = 1 → h.2.1 97 b = LDw r w b) : EvM (d + 14) mX1_isAllWell [.ref 32, .ref 96] h (some (.int 1)) h := by
  obtain ⟨L, l1, l2⟩ := I.2.2.2.2.2.2.1
  have Z := p_well_loop d P I l2 hl (CN r) 0 (by omega)
  have e : h.1 32 2 = nI (L + sumN (lenF r true) 0) := (P.hd (by decide)).trans l1
  show EvR _ _ 0 [(0, _), (1, _)] [] _ _ _
  iterate 5 refine er_s rfl ?_
  rw [e]
  exact er_sub (sub4 rfl rfl rfl rfl) Z
theorem p_bitsOfMass (d n : Nat) (hn : n ≤ 48) {h : AH} {r : Nat → Int32} {w : Nat → UInt32} {B b : Nat} (P : Pal h 32 r w) (I : Inv B r w) (hB : B + 48 < 2 ^ 30) (hb : b < CN r) : WM (d + 6) mX0_bitsOfMass [.ref 77, .ref 32, .int (nI b), .int (nI n)] h (fun v h' => v = some (.int (mbA r w b n)) ∧ FrA h h') := by
  have hs := I.2.1
  have hS := I.1
  have h40 := hS.1.2.1
  have A := p_copyFrom (d + 4) palL78 palL32 (by decide) hs.1.2.1 P
  have hh := hours_HS n hs (by omega)
  have hcn := hours_CN n B hs (by omega)
  have hb2 : b < CN (hoursR n r w) := by rw [hcn]; exact hb
  by_cases c : ofB (hoursR n r w) b 2 = 2
  · rw [show mbA r w b n = -1 from if_pos c]
    show WX _ _ 0 [(0, _), (1, _), (2, _), (3, _)] [] _ _
    iterate 3 refine ex_s rfl ?_
    refine ex_xc rfl rfl ⟨Nat.le_of_ble_eq_true rfl, Nat.le_of_ble_eq_true rfl⟩ (A) (fun rv9 h9 p9 => ?_)
    obtain ⟨rfl, P1, F1⟩ := p9
    iterate 5 refine ex_s rfl ?_
    refine ex_xc rfl rfl ⟨Nat.le_of_ble_eq_true rfl, Nat.le_of_ble_eq_true rfl⟩ (p_letGo (d + 0) n (by omega) palL78 houL91 (by decide) hS hs (by omega) P1) (fun rv9 h9 p9 => ?_)
    obtain ⟨rfl, P2, F2⟩ := p9
    have C := p_gone (d + 5) palL78 P2 hh.1.2.1 hb2
    iterate 4 refine ex_s rfl ?_
    refine ex_c rfl rfl ⟨Nat.le_of_ble_eq_true rfl, Nat.le_of_ble_eq_true rfl⟩ (C) ?_
    refine ex_b rfl rfl (fun q => absurd q (bI_ne.mpr c)) (fun _ => ?_)
    refine ex_s rfl ?_
    refine ex_g rfl rfl ?_
    refine ex_q rfl ?_
    exact ⟨rfl, F1.a.tr F2.a⟩
  · rw [show mbA r w b n = (hoursW n r w b).toInt32 from if_neg c]
    have mo : mOk (hoursW n r w b) := by
      rcases ((hours_Str n (w := w) hS).b hb2).2 with q | q | q
      · exact hours_MasK n B hs (by omega) I.2.2.1 b hb2 q.1
      · exact hh.2.1 b hb2 q.1
      · exact absurd q.1 c
    show WX _ _ 0 [(0, _), (1, _), (2, _), (3, _)] [] _ _
    iterate 3 refine ex_s rfl ?_
    refine ex_xc rfl rfl ⟨Nat.le_of_ble_eq_true rfl, Nat.le_of_ble_eq_true rfl⟩ (A) (fun rv9 h9 p9 => ?_)
    obtain ⟨rfl, P1, F1⟩ := p9
    iterate 5 refine ex_s rfl ?_
    refine ex_xc rfl rfl ⟨Nat.le_of_ble_eq_true rfl, Nat.le_of_ble_eq_true rfl⟩ (p_letGo (d + 0) n (by omega) palL78 houL91 (by decide) hS hs (by omega) P1) (fun rv9 h9 p9 => ?_)
    obtain ⟨rfl, P2, F2⟩ := p9
    have C := p_gone (d + 5) palL78 P2 hh.1.2.1 hb2
    have M := p_massOf (d + 5) palL78 (b := b) (by omega) h9
    rw [show h9.2.1 (78 + 4) b = hoursW n r w b from P2.ms hb2] at M
    have O := p_ofFloat (d + 5) h9 (x := hoursW n r w b) (Or.inr (Nat.le_trans (by decide) mo.1)) (Nat.lt_of_le_of_lt mo.2 (by decide))
    iterate 4 refine ex_s rfl ?_
    refine ex_c rfl rfl ⟨Nat.le_of_ble_eq_true rfl, Nat.le_of_ble_eq_true rfl⟩ (C) ?_
    refine ex_b rfl rfl (fun _ => ?_) (fun q => absurd (bI_eq.mpr c) q)
    iterate 3 refine ex_s rfl ?_
    refine ex_c rfl rfl ⟨Nat.le_of_ble_eq_true rfl, Nat.le_of_ble_eq_true rfl⟩ (M) ?_
    refine ex_c rfl rfl ⟨Nat.le_of_ble_eq_true rfl, Nat.le_of_ble_eq_true rfl⟩ (O) ?_
    refine ex_q rfl ?_
    exact ⟨rfl, F1.a.tr F2.a⟩
end
