-- needs: 76
noncomputable section
theorem sawn_iff {h : AH} {r : Nat → Int32} {w : Nat → UInt32} {k : Nat} (P : Pal h k r w) (hw : Wel r) (x : Int32) : (0 ≤ x ∧ x < 40 ∧ x < h.1 k 4) ↔ (0 ≤ x ∧ x ≤ r 4 - 1) := by
  have h40 := hw.2.1
  rw [P.hd (i := 4) (by decide)]
  rcases blk_or hw x with ⟨b, hb, rfl⟩ | q
  · refine ⟨fun _ => blk_in hw hb, fun _ => ⟨nI_pos' (by omega), Int32.not_le.mp (nI_ge (b := 40) (by omega) (by decide)), ?_⟩⟩
    rw [hw.1]
    exact Int32.not_le.mp (nI_ge hb (by omega))
  · refine ⟨fun z => ?_, fun z => absurd z q⟩
    exfalso
    obtain ⟨n, hn, rfl⟩ := nI_of2 (x := x) (M := 39) (n := 39) rfl (Int32.not_lt.mpr z.1) ((i_lt (a := 39) (b := 40) rfl).mp z.2.1)
    have z2 := z.2.2
    rw [hw.1] at z2
    have : n < CN r := by
      by_cases y : n < CN r
      · exact y
      · exact absurd z2 (Int32.not_lt.mpr (nI_le (by omega) (by omega)))
    exact q (blk_in hw this)
theorem p_sawn (d : Nat) {k : Nat} (hL : PalL k) {h : AH} {r : Nat → Int32} {w : Nat → UInt32} (P : Pal h k r w) (hw : Wel r) (x : Int32) : EvM d mX8_isSawn [.ref k, .int x] h (some (.int (bI (0 ≤ x ∧ x ≤ r 4 - 1)))) h := by
  have Z := p_isSawn d hL x h
  rw [show bI (0 ≤ x ∧ x < 40 ∧ x < h.1 k 4) = bI (0 ≤ x ∧ x ≤ r 4 - 1) by
    by_cases c : 0 ≤ x ∧ x ≤ r 4 - 1
    · rw [bI_t c, bI_t ((sawn_iff P hw x).mpr c)]
    · rw [bI_f c, bI_f (fun z => c ((sawn_iff P hw x).mp z))]] at Z
  exact Z
theorem p_inR (d : Nat) {k : Nat} (hL : PalL k) {h : AH} {r : Nat → Int32} {w : Nat → UInt32} (P : Pal h k r w) (h40 : CN r ≤ 40) {b : Nat} (hb : b < CN r) : EvM d mX8_isInRack [.ref k, .int (nI b)] h (some (.int (bI (ofB r b 2 = 0)))) h := by
  have Z := p_isInRack d hL (b := b) (by omega) h
  rw [P.st hb] at Z
  exact Z
def layK (c : Int32) : Int32 := if c = 2 then 3 else c
theorem p_fTake (d : Nat) {h : AH} {r : Nat → Int32} {w : Nat → UInt32} (P : Pal h 32 r w) (hw : Wel r) (x : Int32) : EvM (d + 1) mX9_faultOfTaking [.ref 71, .ref 32, .int x] h (some (.int (layK (takeC r x)))) (wkH h (layK (takeC r x)) 6 x) := by
  have h40 := hw.2.1
  have S := p_sawn d palL32 P hw x
  unfold takeC
  by_cases c1 : 0 ≤ x ∧ x ≤ r 4 - 1
  · rw [if_neg (fun q => q c1)]
    obtain ⟨b, hb, rfl⟩ := (blk_or hw x).resolve_right (fun q => q c1)
    have R := p_inR d palL32 P h40 hb
    rw [nI_clamp (by omega)]
    by_cases c2 : ofB r b 2 = 0
    · rw [if_pos c2, show layK 0 = 0 from rfl, show wkH h 0 6 (nI b) = h from if_neg (by decide)]
      show EvR _ _ 0 [(0, _), (1, _), (2, _)] [] _ _ _
      iterate 2 refine er_s rfl ?_
      refine er_c rfl rfl ⟨Nat.le_of_ble_eq_true rfl, Nat.le_of_ble_eq_true rfl⟩ (S) ?_
      refine er_b rfl rfl (fun _ => ?_) (fun q => absurd (bI_ne.mpr c1) q)
      iterate 2 refine er_s rfl ?_
      refine er_c rfl rfl ⟨Nat.le_of_ble_eq_true rfl, Nat.le_of_ble_eq_true rfl⟩ (R) ?_
      refine er_b rfl rfl (fun q => absurd q (fun q => absurd q (bI_ne.mpr c2))) (fun _ => ?_)
      refine er_s rfl ?_
      refine er_g rfl rfl ?_
      refine er_q rfl ?_ ?_
      · rfl
      · rfl
    · rw [if_neg c2, show layK 2 = 3 from rfl]
      show EvR _ _ 0 [(0, _), (1, _), (2, _)] [] _ _ _
      iterate 2 refine er_s rfl ?_
      refine er_c rfl rfl ⟨Nat.le_of_ble_eq_true rfl, Nat.le_of_ble_eq_true rfl⟩ (S) ?_
      refine er_b rfl rfl (fun _ => ?_) (fun q => absurd (bI_ne.mpr c1) q)
      iterate 2 refine er_s rfl ?_
      refine er_c rfl rfl ⟨Nat.le_of_ble_eq_true rfl, Nat.le_of_ble_eq_true rfl⟩ (R) ?_
      refine er_b rfl rfl (fun _ => ?_) (fun q => absurd (bI_eq.mpr c2) q)
      iterate 3 refine er_s rfl ?_
      refine er_c rfl rfl ⟨Nat.le_of_ble_eq_true rfl, Nat.le_of_ble_eq_true rfl⟩ (p_refuse _ _ _ _) ?_
      refine er_q rfl ?_ ?_
      · rfl
      · rfl
  · rw [if_pos c1, show layK 1 = 1 from rfl, show wkH h 1 6 x = h from if_neg (by decide)]
    show EvR _ _ 0 [(0, _), (1, _), (2, _)] [] _ _ _
    iterate 2 refine er_s rfl ?_
    refine er_c rfl rfl ⟨Nat.le_of_ble_eq_true rfl, Nat.le_of_ble_eq_true rfl⟩ (S) ?_
    refine er_b rfl rfl (fun q => absurd q (fun q => q (bI_eq.mpr c1))) (fun _ => ?_)
    refine er_s rfl ?_
    refine er_q rfl ?_ ?_
    · rfl
    · rfl
theorem p_fl_loop (d : Nat) {h : AH} {r : Nat → Int32} {w : Nat → UInt32} (P : Pal h 32 r w) {b j c L : Nat} (hc : c < 8) (hj : j + L ≤ 12) {v : Option Value} {h' : AH} (K : filN r c j L < L → v = some (.int 3) ∧ h' = hI (hI h 71 1 8) 71 2 (gAt r c (j + filN r c j L))) (K2 : ¬ filN r c j L < L → EvR (d + 2) mX9_faultOfLaying 114 [(0, .ref 71), (1, .ref 32), (2, .int (nI b)), (3, .int (nI j)), (4, .int (nI c)), (5, .int (nI L))] [] h v h') : ∀ (m i : Nat), i + m = L → filN r c j L = fstP (filP r c j) L m i → EvR (d + 2) mX9_faultOfLaying 75 [(0, .ref 71), (1, .ref 32), (2, .int (nI b)), (3, .int (nI j)), (4, .int (nI c)), (5, .int (nI L)), (6, .int (nI i))] [] h v h'
  | 0, i, hi, e => by
    have hi : i = L := by omega
    subst hi
    have Z := K2 (by rw [e]; exact Nat.lt_irrefl i)
    iterate 2 refine er_s rfl ?_
    refine er_b rfl rfl (fun _ => ?_) (fun q => absurd (Int32.le_refl _) q)
    exact er_sub (sub6 rfl rfl rfl rfl rfl rfl) Z
  | m + 1, i, hi, e => by
    have G := p_blockAt (d + 1) palL32 (c := c) (j := j + i) (by omega) (by omega) h
    rw [P.gr (by omega) (by omega)] at G
    by_cases g0 : 0 ≤ gAt r c (j + i)
    · have e2 : filN r c j L = i := by rw [e]; exact fstP_t (decide_eq_true g0)
      obtain ⟨rfl, rfl⟩ := K (by rw [e2]; omega)
      rw [e2]
      iterate 2 refine er_s rfl ?_
      refine er_b rfl rfl (fun q => absurd q (nI_ge (by omega) (by omega))) (fun _ => ?_)
      iterate 5 refine er_s rfl ?_
      rw [nI_add]
      refine er_c rfl rfl ⟨Nat.le_of_ble_eq_true rfl, Nat.le_of_ble_eq_true rfl⟩ (G) ?_
      iterate 2 refine er_s rfl ?_
      refine er_b rfl rfl (fun q => absurd q (Int32.not_lt.mpr g0)) (fun _ => ?_)
      iterate 3 refine er_s rfl ?_
      refine er_c rfl rfl ⟨Nat.le_of_ble_eq_true rfl, Nat.le_of_ble_eq_true rfl⟩ (p_refuse _ _ _ _) ?_
      refine er_q rfl ?_ ?_
      · rfl
      · rfl
    · have IH := p_fl_loop d P (b := b) (j := j) (c := c) hc hj K K2 m (i + 1) (by omega) (by rw [e]; exact fstP_f (fun z => g0 (of_decide_eq_true z)))
      iterate 2 refine er_s rfl ?_
      refine er_b rfl rfl (fun q => absurd q (nI_ge (by omega) (by omega))) (fun _ => ?_)
      iterate 5 refine er_s rfl ?_
      rw [nI_add]
      refine er_c rfl rfl ⟨Nat.le_of_ble_eq_true rfl, Nat.le_of_ble_eq_true rfl⟩ (G) ?_
      iterate 2 refine er_s rfl ?_
      refine er_b rfl rfl (fun _ => ?_) (fun q => absurd (Int32.not_le.mp g0) q)
      refine er_s rfl ?_
      refine er_g rfl rfl ?_
      rw [nI_1]
      exact er_sub (sub7 rfl rfl rfl rfl rfl rfl rfl) IH
theorem p_fLay (d : Nat) {h : AH} {r : Nat → Int32} {w : Nat → UInt32} (P : Pal h 32 r w) (hw : Wel r) (x y z : Int32) : EvM (d + 2) mX9_faultOfLaying [.ref 71, .ref 32, .int x, .int y, .int z] h (some (.int (layK (layC r x y z)))) (wkH h (layK (layC r x y z)) (layQ r x.toNatClampNeg y.toNatClampNeg z.toNatClampNeg).1 (layQ r x.toNatClampNeg y.toNatClampNeg z.toNatClampNeg).2) := by
  have h40 := hw.2.1
  have S := p_sawn (d + 1) palL32 P hw x
  have C1 := p_isColumn (d + 1) y h
  have C2 := p_isCourse (d + 1) z h
  unfold layC
  by_cases c1 : 0 ≤ x ∧ x ≤ r 4 - 1
  · by_cases c2 : 0 ≤ y ∧ y ≤ 11
    · have c2' : 0 ≤ y ∧ y < 12 := ⟨c2.1, lt12.mpr c2.2⟩
      by_cases c3 : 0 ≤ z ∧ z ≤ 7
      · have c3' : 0 ≤ z ∧ z < 8 := ⟨c3.1, lt8.mpr c3.2⟩
        rw [if_neg (fun q => q ⟨c1, c2, c3⟩)]
        obtain ⟨b, hb, rfl⟩ := (blk_or hw x).resolve_right (fun q => q c1)
        obtain ⟨j, hj, rfl⟩ := nI_of2 (M := 11) (n := 11) rfl (Int32.not_lt.mpr c2.1) c2.2
        obtain ⟨c, hc, rfl⟩ := nI_of2 (M := 7) (n := 7) rfl (Int32.not_lt.mpr c3.1) c3.2
        rw [nI_clamp (by omega), nI_clamp (by omega), nI_clamp (by omega)]
        obtain ⟨l1, l2, l3⟩ := (hw.2.2 b hb).1
        have R := p_inR (d + 1) palL32 P h40 hb
        have eL : h.1 35 b = nI (LN r b) := (P.ln hb).trans l1
        have W : ∀ (a : Int32) (g : Int32), layQ r b j c = (a, g) → a ≠ 0 → EvM (d + 2) mX9_faultOfLaying [.ref 71, .ref 32, .int (nI b), .int (nI j), .int (nI c)] h (some (.int 3)) (hI (hI h 71 1 a) 71 2 g) → EvM (d + 2) mX9_faultOfLaying [.ref 71, .ref 32, .int (nI b), .int (nI j), .int (nI c)] h (some (.int (layK (if (layQ r b j c).1 = 0 then 0 else 2)))) (wkH h (layK (if (layQ r b j c).1 = 0 then 0 else 2)) (layQ r b j c).1 (layQ r b j c).2) := by
          intro a g e ha Z
          rw [e, if_neg ha, show layK 2 = 3 from rfl, show wkH h 3 (a, g).1 (a, g).2 = hI (hI h 71 1 a) 71 2 g from if_pos rfl]
          exact Z
        by_cases d1 : ofB r b 2 = 0
        · by_cases d2 : 12 < j + LN r b
          · refine W 7 (nI (j + LN r b - 12)) (by unfold layQ; rw [if_neg (fun q => q d1), if_pos d2]) (by decide) ?_
            show EvR _ _ 0 [(0, _), (1, _), (2, _), (3, _), (4, _)] [] _ _ _
            iterate 2 refine er_s rfl ?_
            refine er_c rfl rfl ⟨Nat.le_of_ble_eq_true rfl, Nat.le_of_ble_eq_true rfl⟩ (S) ?_
            refine er_b rfl rfl (fun q => absurd q (fun q => absurd q (bI_ne.mpr c1))) (fun _ => ?_)
            refine er_s rfl ?_
            refine er_c rfl rfl ⟨Nat.le_of_ble_eq_true rfl, Nat.le_of_ble_eq_true rfl⟩ (C1) ?_
            refine er_b rfl rfl (fun q => absurd q (fun q => absurd q (bI_ne.mpr c2'))) (fun _ => ?_)
            refine er_s rfl ?_
            refine er_c rfl rfl ⟨Nat.le_of_ble_eq_true rfl, Nat.le_of_ble_eq_true rfl⟩ (C2) ?_
            refine er_b rfl rfl (fun _ => ?_) (fun q => absurd (bI_ne.mpr c3') q)
            iterate 2 refine er_s rfl ?_
            refine er_c rfl rfl ⟨Nat.le_of_ble_eq_true rfl, Nat.le_of_ble_eq_true rfl⟩ (R) ?_
            refine er_b rfl rfl (fun _ => ?_) (fun q => absurd (bI_ne.mpr d1) q)
            iterate 3 refine er_s rfl ?_
            refine er_il rfl rfl (vi) ?_
            rw [cl b, eL]
            iterate 4 refine er_s rfl ?_
            rw [nI_add]
            refine er_s rfl ?_
            refine er_b rfl rfl (fun q => absurd q (nI_ge (a := 12) (by omega) (by omega))) (fun _ => ?_)
            iterate 5 refine er_s rfl ?_
            rw [nI_add]
            iterate 2 refine er_s rfl ?_
            rw [show (12 : Int32) = nI 12 from rfl, nI_sub (by omega)]
            refine er_c rfl rfl ⟨Nat.le_of_ble_eq_true rfl, Nat.le_of_ble_eq_true rfl⟩ (p_refuse _ _ _ _) ?_
            refine er_q rfl ?_ ?_
            · rfl
            · rfl
          · have S9 := p_supCols (d + 0) palL32 P (c := c) (j := j) (L := LN r b) (by omega) (by omega)
            have cl9 := cntP_le (supP r c j) (LN r b)
            have W2 : ∀ v h', EvR (d + 2) mX9_faultOfLaying 75 [(0, .ref 71), (1, .ref 32), (2, .int (nI b)), (3, .int (nI j)), (4, .int (nI c)), (5, .int (nI (LN r b))), (6, .int (nI 0))] [] h v h' → EvM (d + 2) mX9_faultOfLaying [.ref 71, .ref 32, .int (nI b), .int (nI j), .int (nI c)] h v h' := by
              intro v h' Z
              show EvR _ _ 0 [(0, _), (1, _), (2, _), (3, _), (4, _)] [] _ _ _
              iterate 2 refine er_s rfl ?_
              refine er_c rfl rfl ⟨Nat.le_of_ble_eq_true rfl, Nat.le_of_ble_eq_true rfl⟩ (S) ?_
              refine er_b rfl rfl (fun q => absurd q (fun q => absurd q (bI_ne.mpr c1))) (fun _ => ?_)
              refine er_s rfl ?_
              refine er_c rfl rfl ⟨Nat.le_of_ble_eq_true rfl, Nat.le_of_ble_eq_true rfl⟩ (C1) ?_
              refine er_b rfl rfl (fun q => absurd q (fun q => absurd q (bI_ne.mpr c2'))) (fun _ => ?_)
              refine er_s rfl ?_
              refine er_c rfl rfl ⟨Nat.le_of_ble_eq_true rfl, Nat.le_of_ble_eq_true rfl⟩ (C2) ?_
              refine er_b rfl rfl (fun _ => ?_) (fun q => absurd (bI_ne.mpr c3') q)
              iterate 2 refine er_s rfl ?_
              refine er_c rfl rfl ⟨Nat.le_of_ble_eq_true rfl, Nat.le_of_ble_eq_true rfl⟩ (R) ?_
              refine er_b rfl rfl (fun _ => ?_) (fun q => absurd (bI_ne.mpr d1) q)
              iterate 3 refine er_s rfl ?_
              refine er_il rfl rfl (vi) ?_
              rw [cl b, eL]
              iterate 4 refine er_s rfl ?_
              rw [nI_add]
              refine er_s rfl ?_
              refine er_b rfl rfl (fun _ => ?_) (fun q => absurd (nI_le (b := 12) (by omega) (by omega)) q)
              iterate 2 refine er_s rfl ?_
              exact er_sub (sub7 rfl rfl rfl rfl rfl rfl rfl) Z
            have K0 := fun v h' K K2 => p_fl_loop d P (b := b) (j := j) (c := c) (L := LN r b) (by omega) (by omega) (v := v) (h' := h') K K2 (LN r b) 0 (by omega) rfl
            by_cases d3 : filN r c j (LN r b) < LN r b
            · exact W 8 (gAt r c (j + filN r c j (LN r b))) (by unfold layQ; rw [if_neg (fun q => q d1), if_neg d2, if_pos d3]) (by decide) (W2 _ _ (K0 _ _ (fun _ => ⟨rfl, rfl⟩) (fun q => absurd d3 q)))
            · by_cases d4 : 2 * cntP (supP r c j) (LN r b) < LN r b
              · refine W 9 (nI (cntP (supP r c j) (LN r b))) (by unfold layQ; rw [if_neg (fun q => q d1), if_neg d2, if_neg d3, if_pos d4]) (by decide) (W2 _ _ (K0 _ _ (fun q => absurd q d3) (fun _ => ?_)))
                iterate 4 refine er_s rfl ?_
                refine er_c rfl rfl ⟨Nat.le_of_ble_eq_true rfl, Nat.le_of_ble_eq_true rfl⟩ (S9) ?_
                iterate 5 refine er_s rfl ?_
                refine er_b rfl rfl (fun q => absurd q (by rw [show (2 : Int32) = nI 2 from rfl, pk_mul]; exact nI_ge (by omega) (by omega))) (fun _ => ?_)
                iterate 3 refine er_s rfl ?_
                refine er_c rfl rfl ⟨Nat.le_of_ble_eq_true rfl, Nat.le_of_ble_eq_true rfl⟩ (p_refuse _ _ _ _) ?_
                refine er_g rfl rfl ?_
                refine er_q rfl ?_ ?_
                · rfl
                · rfl
              · rw [show layQ r b j c = (0, 0) by unfold layQ; rw [if_neg (fun q => q d1), if_neg d2, if_neg d3, if_neg d4], if_pos rfl, show layK 0 = 0 from rfl, show wkH h 0 ((0 : Int32), (0 : Int32)).1 ((0 : Int32), (0 : Int32)).2 = h from if_neg (by decide)]
                refine W2 _ _ (K0 _ _ (fun q => absurd q d3) (fun _ => ?_))
                iterate 4 refine er_s rfl ?_
                refine er_c rfl rfl ⟨Nat.le_of_ble_eq_true rfl, Nat.le_of_ble_eq_true rfl⟩ (S9) ?_
                iterate 5 refine er_s rfl ?_
                refine er_b rfl rfl (fun _ => ?_) (fun q => absurd (by rw [show (2 : Int32) = nI 2 from rfl, pk_mul]; exact nI_le (by omega) (by omega)) q)
                refine er_s rfl ?_
                refine er_q rfl ?_ ?_
                · rfl
                · rfl
        · refine W 6 (nI b) (by unfold layQ; rw [if_pos d1]) (by decide) ?_
          show EvR _ _ 0 [(0, _), (1, _), (2, _), (3, _), (4, _)] [] _ _ _
          iterate 2 refine er_s rfl ?_
          refine er_c rfl rfl ⟨Nat.le_of_ble_eq_true rfl, Nat.le_of_ble_eq_true rfl⟩ (S) ?_
          refine er_b rfl rfl (fun q => absurd q (fun q => absurd q (bI_ne.mpr c1))) (fun _ => ?_)
          refine er_s rfl ?_
          refine er_c rfl rfl ⟨Nat.le_of_ble_eq_true rfl, Nat.le_of_ble_eq_true rfl⟩ (C1) ?_
          refine er_b rfl rfl (fun q => absurd q (fun q => absurd q (bI_ne.mpr c2'))) (fun _ => ?_)
          refine er_s rfl ?_
          refine er_c rfl rfl ⟨Nat.le_of_ble_eq_true rfl, Nat.le_of_ble_eq_true rfl⟩ (C2) ?_
          refine er_b rfl rfl (fun _ => ?_) (fun q => absurd (bI_ne.mpr c3') q)
          iterate 2 refine er_s rfl ?_
          refine er_c rfl rfl ⟨Nat.le_of_ble_eq_true rfl, Nat.le_of_ble_eq_true rfl⟩ (R) ?_
          refine er_b rfl rfl (fun q => absurd q (fun q => q (bI_eq.mpr d1))) (fun _ => ?_)
          iterate 3 refine er_s rfl ?_
          refine er_c rfl rfl ⟨Nat.le_of_ble_eq_true rfl, Nat.le_of_ble_eq_true rfl⟩ (p_refuse _ _ _ _) ?_
          refine er_q rfl ?_ ?_
          · rfl
          · rfl
      · have c3' : ¬ (0 ≤ z ∧ z < 8) := fun q => c3 ⟨q.1, lt8.mp q.2⟩
        rw [if_pos (fun q => c3 q.2.2), show layK 1 = 1 from rfl, show ∀ a g, wkH h 1 a g = h from fun _ _ => if_neg (by decide)]
        show EvR _ _ 0 [(0, _), (1, _), (2, _), (3, _), (4, _)] [] _ _ _
        iterate 2 refine er_s rfl ?_
        refine er_c rfl rfl ⟨Nat.le_of_ble_eq_true rfl, Nat.le_of_ble_eq_true rfl⟩ (S) ?_
        refine er_b rfl rfl (fun q => absurd q (fun q => absurd q (bI_ne.mpr c1))) (fun _ => ?_)
        refine er_s rfl ?_
        refine er_c rfl rfl ⟨Nat.le_of_ble_eq_true rfl, Nat.le_of_ble_eq_true rfl⟩ (C1) ?_
        refine er_b rfl rfl (fun q => absurd q (fun q => absurd q (bI_ne.mpr c2'))) (fun _ => ?_)
        refine er_s rfl ?_
        refine er_c rfl rfl ⟨Nat.le_of_ble_eq_true rfl, Nat.le_of_ble_eq_true rfl⟩ (C2) ?_
        refine er_b rfl rfl (fun q => absurd q (fun q => q (bI_eq.mpr c3'))) (fun _ => ?_)
        refine er_s rfl ?_
        refine er_q rfl ?_ ?_
        · rfl
        · rfl
    · have c2' : ¬ (0 ≤ y ∧ y < 12) := fun q => c2 ⟨q.1, lt12.mp q.2⟩
      rw [if_pos (fun q => c2 q.2.1), show layK 1 = 1 from rfl, show ∀ a g, wkH h 1 a g = h from fun _ _ => if_neg (by decide)]
      show EvR _ _ 0 [(0, _), (1, _), (2, _), (3, _), (4, _)] [] _ _ _
      iterate 2 refine er_s rfl ?_
      refine er_c rfl rfl ⟨Nat.le_of_ble_eq_true rfl, Nat.le_of_ble_eq_true rfl⟩ (S) ?_
      refine er_b rfl rfl (fun q => absurd q (fun q => absurd q (bI_ne.mpr c1))) (fun _ => ?_)
      refine er_s rfl ?_
      refine er_c rfl rfl ⟨Nat.le_of_ble_eq_true rfl, Nat.le_of_ble_eq_true rfl⟩ (C1) ?_
      refine er_b rfl rfl (fun _ => ?_) (fun q => absurd (bI_eq.mpr c2') q)
      refine er_s rfl ?_
      refine er_q rfl ?_ ?_
      · rfl
      · rfl
  · rw [if_pos (fun q => c1 q.1), show layK 1 = 1 from rfl, show ∀ a g, wkH h 1 a g = h from fun _ _ => if_neg (by decide)]
    show EvR _ _ 0 [(0, _), (1, _), (2, _), (3, _), (4, _)] [] _ _ _
    iterate 2 refine er_s rfl ?_
    refine er_c rfl rfl ⟨Nat.le_of_ble_eq_true rfl, Nat.le_of_ble_eq_true rfl⟩ (S) ?_
    refine er_b rfl rfl (fun _ => ?_) (fun q => absurd (bI_eq.mpr c1) q)
    refine er_s rfl ?_
    refine er_q rfl ?_ ?_
    · rfl
    · rfl
end
