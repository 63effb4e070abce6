-- needs: 43
noncomputable section
/-- why a laying is refused -/
def filP (r : Nat → Int32) (c j : Nat) : Nat → Bool := fun i => decide (0 ≤ gAt r c (j + i))
abbrev filN (r : Nat → Int32) (c j L : Nat) : Nat := fstP (filP r c j) L L 0
def layQ (r : Nat → Int32) (b j c : Nat) : Int32 × Int32 := if ¬ ofB r b 2 = 0 then (6, nI b) else if 12 < j + LN r b then (7, nI (j + LN r b - 12)) else if filN r c j (LN r b) < LN r b then (8, gAt r c (j + filN r c j (LN r b))) else if 2 * cntP (supP r c j) (LN r b) < LN r b then (9, nI (cntP (supP r c j) (LN r b))) else (0, 0)
theorem f_lay_loop (d : Nat) (h : AH) {b j c L : Nat} (hc : c < 8) (hj : j + L ≤ 12) {v : Option Value} {h' : AH} (K : filN (h.1 1) c j L < L → v = some (.int 1) ∧ h' = hI (hI h 0 12 8) 0 13 (gAt (h.1 1) c (j + filN (h.1 1) c j L))) (K2 : ¬ filN (h.1 1) c j L < L → EvR (d + 3) mX11_isLayRefused 109 [(0, .ref 0), (1, .int (nI b)), (2, .int (nI j)), (3, .int (nI c)), (4, .int (nI L))] [] h v h') : ∀ (m i : Nat), i + m = L → filN (h.1 1) c j L = fstP (filP (h.1 1) c j) L m i → EvR (d + 3) mX11_isLayRefused 67 [(0, .ref 0), (1, .int (nI b)), (2, .int (nI j)), (3, .int (nI c)), (4, .int (nI L)), (6, .int (nI i))] [] h v h'
  | 0, i, hi, e => by
    have hi : i = L := by omega
    subst hi
    have Z := K2 (by rw [e]; exact Nat.lt_irrefl i)
    iterate 2 refine er_s rfl ?_
    refine er_b rfl rfl (fun _ => ?_) (fun q => absurd (Int32.le_refl _) q)
    exact er_sub (sub5 rfl rfl rfl rfl rfl) Z
  | m + 1, i, hi, e => by
    have F := f_isFilled (d + 1) (c := c) (j := j + i) (by omega) (by omega) h
    have G := f_gridAt (d + 2) (c := c) (j := j + i) (by omega) (by omega) h
    by_cases q : 0 ≤ gAt (h.1 1) c (j + i)
    · have e2 : filN (h.1 1) c j L = i := by rw [e]; exact fstP_t (decide_eq_true q)
      obtain ⟨rfl, rfl⟩ := K (by rw [e2]; omega)
      rw [e2]
      rw [bI_t ⟨by omega, q⟩] at F
      iterate 2 refine er_s rfl ?_
      refine er_b rfl rfl (fun q => absurd q (nI_ge (by omega) (by omega))) (fun _ => ?_)
      iterate 6 refine er_s rfl ?_
      rw [nI_add]
      refine er_c rfl rfl ⟨Nat.le_of_ble_eq_true rfl, Nat.le_of_ble_eq_true rfl⟩ (F) ?_
      iterate 6 refine er_s rfl ?_
      rw [nI_add]
      refine er_c rfl rfl ⟨Nat.le_of_ble_eq_true rfl, Nat.le_of_ble_eq_true rfl⟩ (G) ?_
      refine er_c rfl rfl ⟨Nat.le_of_ble_eq_true rfl, Nat.le_of_ble_eq_true rfl⟩ (f_refuseT _ _ _ _) ?_
      refine er_b rfl rfl (fun q => absurd q (by decide)) (fun _ => ?_)
      refine er_s rfl ?_
      refine er_q (ret_bK rfl rfl) ?_ ?_
      · rfl
      · rfl
    · have IH := f_lay_loop d h (b := b) hc hj K K2 m (i + 1) (by omega) (by rw [e]; exact fstP_f (fun z => q (of_decide_eq_true z)))
      rw [bI_f (fun z => q z.2)] at F
      iterate 2 refine er_s rfl ?_
      refine er_b rfl rfl (fun q => absurd q (nI_ge (by omega) (by omega))) (fun _ => ?_)
      iterate 6 refine er_s rfl ?_
      rw [nI_add]
      refine er_c rfl rfl ⟨Nat.le_of_ble_eq_true rfl, Nat.le_of_ble_eq_true rfl⟩ (F) ?_
      iterate 6 refine er_s rfl ?_
      rw [nI_add]
      refine er_c rfl rfl ⟨Nat.le_of_ble_eq_true rfl, Nat.le_of_ble_eq_true rfl⟩ (G) ?_
      refine er_c rfl rfl ⟨Nat.le_of_ble_eq_true rfl, Nat.le_of_ble_eq_true rfl⟩ (f_refuseF _ _ _ _) ?_
      refine er_b rfl rfl (fun _ => ?_) (fun q => absurd rfl q)
      refine er_s rfl ?_
      refine er_g rfl rfl ?_
      rw [nI_1]
      exact er_sub (sub6 rfl rfl rfl rfl rfl rfl) IH
theorem f_isLayRefused (d : Nat) {b j c : Nat} (h : AH) (hw : Wel (h.1 1)) (hb : b < CN (h.1 1)) (hj : j < 12) (hc : c < 8) : EvM (d + 3) mX11_isLayRefused [.ref 0, .int (nI b), .int (nI j), .int (nI c)] h (some (.int (if (layQ (h.1 1) b j c).1 = 0 then 0 else 1))) (if (layQ (h.1 1) b j c).1 = 0 then h else hI (hI h 0 12 (layQ (h.1 1) b j c).1) 0 13 (layQ (h.1 1) b j c).2) := by
  have h40 := hw.2.1
  obtain ⟨l1, l2, l3⟩ := (hw.2.2 b hb).1
  by_cases c1 : ofB (h.1 1) b 2 = 0
  · by_cases c2 : 12 < j + LN (h.1 1) b
    · have e : layQ (h.1 1) b j c = (7, nI (j + LN (h.1 1) b - 12)) := by unfold layQ; rw [if_neg (fun q => q c1), if_pos c2]
      rw [e, if_neg (show ¬ (7 : Int32) = 0 by decide), if_neg (show ¬ (7 : Int32) = 0 by decide)]
      show EvR _ _ 0 [(0, _), (1, _), (2, _), (3, _)] [] _ _ _
      iterate 3 refine er_s rfl ?_
      refine er_c rfl rfl ⟨Nat.le_of_ble_eq_true rfl, Nat.le_of_ble_eq_true rfl⟩ (f_of _ (b := b) (by omega) (x := 1) (by omega) _) ?_
      rw [l1]
      iterate 4 refine er_s rfl ?_
      rw [nI_add]
      iterate 2 refine er_s rfl ?_
      rw [show (12 : Int32) = nI 12 from rfl, nI_sub (by omega)]
      iterate 5 refine er_s rfl ?_
      refine er_c rfl rfl ⟨Nat.le_of_ble_eq_true rfl, Nat.le_of_ble_eq_true rfl⟩ (f_of _ (b := b) (by omega) (x := 2) (by omega) _) ?_
      refine er_b rfl rfl (fun _ => ?_) (fun q => absurd c1 q)
      iterate 3 refine er_s rfl ?_
      refine er_c rfl rfl ⟨Nat.le_of_ble_eq_true rfl, Nat.le_of_ble_eq_true rfl⟩ (f_refuseF _ _ _ _) ?_
      refine er_b rfl rfl (fun q => absurd q (fun q => q rfl)) (fun _ => ?_)
      iterate 2 refine er_s rfl ?_
      refine er_b rfl rfl (fun q => absurd q (nI_nle (by omega) (by omega))) (fun _ => ?_)
      refine er_s rfl ?_
      refine er_g rfl rfl ?_
      iterate 2 refine er_s rfl ?_
      refine er_c rfl rfl ⟨Nat.le_of_ble_eq_true rfl, Nat.le_of_ble_eq_true rfl⟩ (f_refuseT _ _ _ _) ?_
      refine er_b rfl rfl (fun q => absurd q (by decide)) (fun _ => ?_)
      refine er_s rfl ?_
      refine er_q (ret_bK rfl rfl) ?_ ?_
      · rfl
      · rfl
    · have K0 := fun v h' K K2 => f_lay_loop d h (b := b) (j := j) (c := c) (L := LN (h.1 1) b) hc (by omega) (v := v) (h' := h') K K2 (LN (h.1 1) b) 0 (by omega) rfl
      have hle : nI j + nI (LN (h.1 1) b) - 12 ≤ 0 := by
        rw [nI_add, show (12 : Int32) = nI 12 from rfl]
        by_cases q : j + LN (h.1 1) b = 12
        · rw [q]; decide
        · exact Int32.le_of_lt (nI_sub_neg (by omega) (by decide))
      have W : ∀ v h', EvR (d + 3) mX11_isLayRefused 67 [(0, .ref 0), (1, .int (nI b)), (2, .int (nI j)), (3, .int (nI c)), (4, .int (nI (LN (h.1 1) b))), (6, .int (nI 0))] [] h v h' → EvM (d + 3) mX11_isLayRefused [.ref 0, .int (nI b), .int (nI j), .int (nI c)] h v h' := by
        intro v h' Z
        show EvR _ _ 0 [(0, _), (1, _), (2, _), (3, _)] [] _ _ _
        iterate 3 refine er_s rfl ?_
        refine er_c rfl rfl ⟨Nat.le_of_ble_eq_true rfl, Nat.le_of_ble_eq_true rfl⟩ (f_of _ (b := b) (by omega) (x := 1) (by omega) _) ?_
        rw [l1]
        iterate 11 refine er_s rfl ?_
        refine er_c rfl rfl ⟨Nat.le_of_ble_eq_true rfl, Nat.le_of_ble_eq_true rfl⟩ (f_of _ (b := b) (by omega) (x := 2) (by omega) _) ?_
        refine er_b rfl rfl (fun _ => ?_) (fun q => absurd c1 q)
        iterate 3 refine er_s rfl ?_
        refine er_c rfl rfl ⟨Nat.le_of_ble_eq_true rfl, Nat.le_of_ble_eq_true rfl⟩ (f_refuseF _ _ _ _) ?_
        refine er_b rfl rfl (fun q => absurd q (fun q => q rfl)) (fun _ => ?_)
        iterate 2 refine er_s rfl ?_
        refine er_b rfl rfl (fun _ => ?_) (fun q => absurd hle q)
        iterate 3 refine er_s rfl ?_
        refine er_c rfl rfl ⟨Nat.le_of_ble_eq_true rfl, Nat.le_of_ble_eq_true rfl⟩ (f_refuseF _ _ _ _) ?_
        refine er_b rfl rfl (fun _ => ?_) (fun q => absurd rfl q)
        iterate 2 refine er_s rfl ?_
        exact er_sub (sub6 rfl rfl rfl rfl rfl rfl) Z
      have S := f_supAt (d + 0) (c := c) (j := j) (L := LN (h.1 1) b) hc (by omega) h
      have cl9 := cntP_le (supP (h.1 1) c j) (LN (h.1 1) b)
      by_cases c3 : filN (h.1 1) c j (LN (h.1 1) b) < LN (h.1 1) b
      · have e : layQ (h.1 1) b j c = (8, gAt (h.1 1) c (j + filN (h.1 1) c j (LN (h.1 1) b))) := by unfold layQ; rw [if_neg (fun q => q c1), if_neg c2, if_pos c3]
        rw [e, if_neg (show ¬ (8 : Int32) = 0 by decide), if_neg (show ¬ (8 : Int32) = 0 by decide)]
        exact W _ _ (K0 _ _ (fun _ => ⟨rfl, rfl⟩) (fun q => absurd c3 q))
      · by_cases c4 : 2 * cntP (supP (h.1 1) c j) (LN (h.1 1) b) < LN (h.1 1) b
        · have e : layQ (h.1 1) b j c = (9, nI (cntP (supP (h.1 1) c j) (LN (h.1 1) b))) := by unfold layQ; rw [if_neg (fun q => q c1), if_neg c2, if_neg c3, if_pos c4]
          rw [e, if_neg (show ¬ (9 : Int32) = 0 by decide), if_neg (show ¬ (9 : Int32) = 0 by decide)]
          refine W _ _ (K0 _ _ (fun q => absurd q c3) (fun _ => ?_))
          iterate 4 refine er_s rfl ?_
          refine er_c rfl rfl ⟨Nat.le_of_ble_eq_true rfl, Nat.le_of_ble_eq_true rfl⟩ (S) ?_
          iterate 5 refine er_s rfl ?_
          rw [show (2 : Int32) = nI 2 from rfl, pk_mul]
          refine er_s rfl ?_
          refine er_b rfl rfl (fun q => absurd q (nI_ge (by omega) (by omega))) (fun _ => ?_)
          refine er_s rfl ?_
          refine er_g rfl rfl ?_
          iterate 2 refine er_s rfl ?_
          refine er_c rfl rfl ⟨Nat.le_of_ble_eq_true rfl, Nat.le_of_ble_eq_true rfl⟩ (f_refuseT _ _ _ _) ?_
          refine er_q (ret_bK rfl rfl) ?_ ?_
          · rfl
          · rfl
        · have e : layQ (h.1 1) b j c = (0, 0) := by unfold layQ; rw [if_neg (fun q => q c1), if_neg c2, if_neg c3, if_neg c4]
          rw [e, if_pos rfl, if_pos rfl]
          refine W _ _ (K0 _ _ (fun q => absurd q c3) (fun _ => ?_))
          iterate 4 refine er_s rfl ?_
          refine er_c rfl rfl ⟨Nat.le_of_ble_eq_true rfl, Nat.le_of_ble_eq_true rfl⟩ (S) ?_
          iterate 5 refine er_s rfl ?_
          rw [show (2 : Int32) = nI 2 from rfl, pk_mul]
          refine er_s rfl ?_
          refine er_b rfl rfl (fun _ => ?_) (fun q => absurd (nI_le (by omega) (by omega)) q)
          iterate 3 refine er_s rfl ?_
          refine er_c rfl rfl ⟨Nat.le_of_ble_eq_true rfl, Nat.le_of_ble_eq_true rfl⟩ (f_refuseF _ _ _ _) ?_
          refine er_q (ret_bK rfl rfl) ?_ ?_
          · rfl
          · rfl
  · have e : layQ (h.1 1) b j c = (6, nI b) := by unfold layQ; rw [if_pos c1]
    rw [e, if_neg (show ¬ (6 : Int32) = 0 by decide), if_neg (show ¬ (6 : Int32) = 0 by decide)]
    show EvR _ _ 0 [(0, _), (1, _), (2, _), (3, _)] [] _ _ _
    iterate 3 refine er_s rfl ?_
    refine er_c rfl rfl ⟨Nat.le_of_ble_eq_true rfl, Nat.le_of_ble_eq_true rfl⟩ (f_of _ (b := b) (by omega) (x := 1) (by omega) _) ?_
    iterate 11 refine er_s rfl ?_
    refine er_c rfl rfl ⟨Nat.le_of_ble_eq_true rfl, Nat.le_of_ble_eq_true rfl⟩ (f_of _ (b := b) (by omega) (x := 2) (by omega) _) ?_
    refine er_b rfl rfl (fun q => absurd q c1) (fun _ => ?_)
    refine er_s rfl ?_
    refine er_g rfl rfl ?_
    iterate 2 refine er_s rfl ?_
    refine er_c rfl rfl ⟨Nat.le_of_ble_eq_true rfl, Nat.le_of_ble_eq_true rfl⟩ (f_refuseT _ _ _ _) ?_
    refine er_b rfl rfl (fun _ => ?_) (fun q => absurd (by decide) q)
    refine er_s rfl ?_
    refine er_q (ret_bK rfl rfl) ?_ ?_
    · rfl
    · rfl
/-- a block's number, or none -/
theorem blk_or {r : Nat → Int32} (hw : Wel r) (x : Int32) : (∃ b, b < CN r ∧ x = nI b) ∨ ¬ (0 ≤ x ∧ x ≤ r 4 - 1) := by
  have h40 := hw.2.1
  by_cases q : 0 ≤ x ∧ x ≤ r 4 - 1
  · refine Or.inl ?_
    have e : r 4 - 1 = nI (CN r) - 1 := by rw [← hw.1]
    by_cases h0 : CN r = 0
    · exfalso
      rw [e, h0] at q
      exact absurd (Int32.le_trans q.1 q.2) (by decide)
    · obtain ⟨b, h1, h2⟩ := nI_of2 (x := x) (M := r 4 - 1) (n := CN r - 1) (by rw [e, nI_mod (by omega), nI_toInt (by omega)]) (Int32.not_lt.mpr q.1) q.2
      exact ⟨b, by omega, h2⟩
  · exact Or.inr q
theorem blk_in {r : Nat → Int32} (hw : Wel r) {b : Nat} (hb : b < CN r) : 0 ≤ nI b ∧ nI b ≤ r 4 - 1 := by
  have h40 := hw.2.1
  refine ⟨nI_pos' (by omega), ?_⟩
  have e : r 4 - 1 = nI (CN r) - 1 := by rw [← hw.1]
  rw [e, nI_mod (by omega)]
  exact nI_le (by omega) (by omega)
def layC (r : Nat → Int32) (x y z : Int32) : Int32 := if ¬ ((0 ≤ x ∧ x ≤ r 4 - 1) ∧ (0 ≤ y ∧ y ≤ 11) ∧ (0 ≤ z ∧ z ≤ 7)) then 1 else if (layQ r x.toNatClampNeg y.toNatClampNeg z.toNatClampNeg).1 = 0 then 0 else 2
def layR9 (r : Nat → Int32) (x y z : Int32) : Nat → Int32 := if layC r x y z = 0 then layR r x.toNatClampNeg y.toNatClampNeg z.toNatClampNeg else r
theorem upd_self {r : Nat → Int32} {i : Nat} {x : Int32} (h : x = r i) : upd r i x = r := by
  funext j
  unfold upd
  split
  · next e => rw [e, h]
  · rfl
theorem setB_5 {r : Nat → Int32} {b : Nat} {s co cu jt pl : Int32} : upd (upd (upd (upd (upd r (125 + 8 * b + 2) s) (125 + 8 * b + 3) co) (125 + 8 * b + 4) cu) (125 + 8 * b + 5) jt) (125 + 8 * b + 6) pl = setB r b s co cu jt pl (ofB r b 7) := by
  unfold setB
  refine (upd_self ?_).symm
  rw [upd_ne (by omega), upd_ne (by omega), upd_ne (by omega), upd_ne (by omega), upd_ne (by omega)]
theorem f_layT (d : Nat) {b j c : Nat} (g : AH) (hS : Str (g.1 1)) (hb : b < CN (g.1 1)) (hj : j < 12) (hc : c < 8) (hq : (layQ (g.1 1) b j c).1 = 0) : EvR (d + 4) mX11_lay 74 [(0, .ref 0), (1, .int (nI b)), (2, .int (nI j)), (3, .int (nI c))] [] g (some (.int (nI (supN (layR (g.1 1) b j c) b)))) (setR g (layR (g.1 1) b j c) (g.2.1 5)) := by
  have hw := hS.1
  have h40 := hw.2.1
  obtain ⟨l1, l2, l3⟩ := (hw.2.2 b hb).1
  have c1 : ofB (g.1 1) b 2 = 0 := Decidable.not_not.mp (fun q => by unfold layQ at hq; rw [if_pos q] at hq; exact absurd hq (show ¬ (6 : Int32) = 0 by decide))
  have c2 : ¬ 12 < j + LN (g.1 1) b := fun q => by unfold layQ at hq; rw [if_neg (fun z => z c1), if_pos q] at hq; exact absurd hq (show ¬ (7 : Int32) = 0 by decide)
  have c3 : ¬ filN (g.1 1) c j (LN (g.1 1) b) < LN (g.1 1) b := fun q => by unfold layQ at hq; rw [if_neg (fun z => z c1), if_neg c2, if_pos q] at hq; exact absurd hq (show ¬ (8 : Int32) = 0 by decide)
  have hf : ∀ i, i < LN (g.1 1) b → ¬ 0 ≤ gAt (g.1 1) c (j + i) := fun i hi q => fstP_no _ 0 (by omega) c3 i (Nat.zero_le i) hi (decide_eq_true q)
  have hS2 := lay_Str hS hb c1 hc (by omega) hf
  have hb2 : b < CN (layR (g.1 1) b j c) := by rw [layR_CN]; exact hb
  have st2 : ofB (layR (g.1 1) b j c) b 2 = 1 := by rw [layR_b hc (by omega)]; exact setB_eq.2.2.1
  have eH : hI (hI (hI (hI (hI g 1 (125 + 8 * b + 2) 1) 1 (125 + 8 * b + 3) (nI j)) 1 (125 + 8 * b + 4) (nI c)) 1 (125 + 8 * b + 5) 0) 1 (125 + 8 * b + 6) (-1) = setR g (setB (g.1 1) b 1 (nI j) (nI c) 0 (-1) (ofB (g.1 1) b 7)) (g.2.1 5) := by
    simp only [hI_R, setR_1, setR_5, setR_R]
    rw [setB_5]
  have e1 : ofB (setB (g.1 1) b 1 (nI j) (nI c) 0 (-1) (ofB (g.1 1) b 7)) b 1 = nI (LN (g.1 1) b) := by rw [setB_eq.2.1]; exact l1
  have F := f_fill (d + 3) (c := c) (j := j) (L := LN (g.1 1) b) hc (by omega) (nI b) (setR g (setB (g.1 1) b 1 (nI j) (nI c) 0 (-1) (ofB (g.1 1) b 7)) (g.2.1 5))
  rw [setR_1, setR_5, setR_R] at F
  have S := f_supported (d + 0) (b := b) (by omega) (setR g (layR (g.1 1) b j c) (g.2.1 5)) (by rw [setR_1]; exact (hS2.1.2.2 b hb2).1) (by rw [setR_1]; exact (hS2.1.2.2 b hb2).2 st2)
  rw [setR_1] at S
  iterate 4 refine er_s rfl ?_
  refine er_c rfl rfl ⟨Nat.le_of_ble_eq_true rfl, Nat.le_of_ble_eq_true rfl⟩ (f_put _ (b := b) (by omega) (x := 2) (by omega) _ _) ?_
  iterate 4 refine er_s rfl ?_
  refine er_c rfl rfl ⟨Nat.le_of_ble_eq_true rfl, Nat.le_of_ble_eq_true rfl⟩ (f_put _ (b := b) (by omega) (x := 3) (by omega) _ _) ?_
  iterate 4 refine er_s rfl ?_
  refine er_c rfl rfl ⟨Nat.le_of_ble_eq_true rfl, Nat.le_of_ble_eq_true rfl⟩ (f_put _ (b := b) (by omega) (x := 4) (by omega) _ _) ?_
  iterate 4 refine er_s rfl ?_
  refine er_c rfl rfl ⟨Nat.le_of_ble_eq_true rfl, Nat.le_of_ble_eq_true rfl⟩ (f_put _ (b := b) (by omega) (x := 5) (by omega) _ _) ?_
  iterate 4 refine er_s rfl ?_
  refine er_c rfl rfl ⟨Nat.le_of_ble_eq_true rfl, Nat.le_of_ble_eq_true rfl⟩ (f_put _ (b := b) (by omega) (x := 6) (by omega) _ _) ?_
  rw [eH]
  iterate 6 refine er_s rfl ?_
  refine er_c rfl rfl ⟨Nat.le_of_ble_eq_true rfl, Nat.le_of_ble_eq_true rfl⟩ (f_of _ (b := b) (by omega) (x := 1) (by omega) _) ?_
  rw [setR_1, e1]
  refine er_s rfl ?_
  refine er_c rfl rfl ⟨Nat.le_of_ble_eq_true rfl, Nat.le_of_ble_eq_true rfl⟩ (F) ?_
  iterate 2 refine er_s rfl ?_
  refine er_c rfl rfl ⟨Nat.le_of_ble_eq_true rfl, Nat.le_of_ble_eq_true rfl⟩ (S) ?_
  refine er_q rfl ?_ ?_
  · rfl
  · rfl
theorem f_lay (d : Nat) (x y z : Int32) (h : AH) (hS : Str (h.1 1)) {K : Nat} (hK : K ≤ 8) (h11 : h.1 0 11 = nI K) : WM (d + 4) mX11_lay [.ref 0, .int x, .int y, .int z] h (fun v h' => (∃ a, v = some (.int a) ∧ (layC (h.1 1) x y z = 0 → a = nI (supN (layR9 (h.1 1) x y z) x.toNatClampNeg))) ∧ OpP h h' (layC (h.1 1) x y z) (if layC (h.1 1) x y z = 2 then (layQ (h.1 1) x.toNatClampNeg y.toNatClampNeg z.toNatClampNeg).1 else h.1 0 12) (if layC (h.1 1) x y z = 2 then (layQ (h.1 1) x.toNatClampNeg y.toNatClampNeg z.toNatClampNeg).2 else h.1 0 13) (layR9 (h.1 1) x y z) (h.2.1 5) (decide (layC (h.1 1) x y z = 0) && !inT h) K) := by
  have hw := hS.1
  have h40 := hw.2.1
  have B1 := f_isBlock (d + 2) x h
  have B2 := f_isBetween (d + 3) y 0 11 h
  have B3 := f_isBetween (d + 3) z 0 7 h
  by_cases c1 : (0 ≤ x ∧ x ≤ h.1 1 4 - 1) ∧ (0 ≤ y ∧ y ≤ 11) ∧ (0 ≤ z ∧ z ≤ 7)
  · obtain ⟨b, hb, rfl⟩ := (blk_or hw x).resolve_right (fun q => q c1.1)
    obtain ⟨j, hj, rfl⟩ := nI_of2 (M := 11) (n := 11) rfl (Int32.not_lt.mpr c1.2.1.1) c1.2.1.2
    obtain ⟨c, hc, rfl⟩ := nI_of2 (M := 7) (n := 7) rfl (Int32.not_lt.mpr c1.2.2.1) c1.2.2.2
    have IL := f_isLayRefused (d + 0) (b := b) (j := j) (c := c) (hI h 0 0 0) (by rw [hI_ne (by decide)]; exact hw) (by rw [show CN ((hI h 0 0 0).1 1) = CN (h.1 1) from congrArg CN (hI_ne (by decide))]; exact hb) (by omega) (by omega)
    rw [show (hI h 0 0 0).1 1 = h.1 1 from hI_ne (by decide)] at IL
    have eb : (nI b).toNatClampNeg = b := nI_clamp (by omega)
    have ej : (nI j).toNatClampNeg = j := nI_clamp (by omega)
    have ec : (nI c).toNatClampNeg = c := nI_clamp (by omega)
    by_cases c2 : (layQ (h.1 1) b j c).1 = 0
    · have e : layC (h.1 1) (nI b) (nI j) (nI c) = 0 := by unfold layC; rw [if_neg (fun q => q c1), eb, ej, ec, if_pos c2]
      rw [if_pos c2, if_pos c2] at IL
      have C := f_changeZ (d + 1) h hK h11
      unfold layR9
      rw [e, if_pos rfl, if_neg (by decide), if_neg (by decide), decide_eq_true rfl, Bool.true_and, eb, ej, ec]
      show WX _ _ 0 [(0, _), (1, _), (2, _), (3, _)] [] _ _
      iterate 2 refine ex_s rfl ?_
      refine ex_c rfl rfl ⟨Nat.le_of_ble_eq_true rfl, Nat.le_of_ble_eq_true rfl⟩ (B1) ?_
      refine ex_b rfl rfl (fun q => absurd q (fun q => bI_eq.mp q c1.1)) (fun _ => ?_)
      iterate 3 refine ex_s rfl ?_
      refine ex_c rfl rfl ⟨Nat.le_of_ble_eq_true rfl, Nat.le_of_ble_eq_true rfl⟩ (B2) ?_
      refine ex_b rfl rfl (fun q => absurd q (fun q => bI_eq.mp q c1.2.1)) (fun _ => ?_)
      iterate 3 refine ex_s rfl ?_
      refine ex_c rfl rfl ⟨Nat.le_of_ble_eq_true rfl, Nat.le_of_ble_eq_true rfl⟩ (B3) ?_
      refine ex_b rfl rfl (fun q => absurd q (fun q => bI_eq.mp q c1.2.2)) (fun _ => ?_)
      refine ex_s rfl ?_
      refine ex_g rfl rfl ?_
      iterate 4 refine ex_s rfl ?_
      refine ex_b rfl rfl (fun _ => ?_) (fun q => absurd (by decide) q)
      refine ex_s rfl ?_
      refine ex_c rfl rfl ⟨Nat.le_of_ble_eq_true rfl, Nat.le_of_ble_eq_true rfl⟩ (f_failsF _ _ _) ?_
      refine ex_b rfl rfl (fun q => absurd q (fun q => q rfl)) (fun _ => ?_)
      iterate 6 refine ex_s rfl ?_
      refine ex_c rfl rfl ⟨Nat.le_of_ble_eq_true rfl, Nat.le_of_ble_eq_true rfl⟩ (IL) ?_
      refine ex_c rfl rfl ⟨Nat.le_of_ble_eq_true rfl, Nat.le_of_ble_eq_true rfl⟩ (f_failsF _ _ _) ?_
      rw [hI_2]
      refine ex_b rfl rfl (fun _ => ?_) (fun q => absurd rfl q)
      refine ex_s rfl ?_
      refine ex_xc rfl rfl ⟨Nat.le_of_ble_eq_true rfl, Nat.le_of_ble_eq_true rfl⟩ (C) (fun rv9 h9 p9 => ?_)
      obtain ⟨rfl, p9⟩ := p9
      have T9 := f_layT (d + 0) (b := b) (j := j) (c := c) h9 (by rw [p9.2.2.2.1]; exact hS) (by rw [p9.2.2.2.1]; exact hb) (by omega) (by omega) (by rw [p9.2.2.2.1]; exact c2)
      rw [p9.2.2.2.1, p9.2.2.2.2.1] at T9
      exact ex_sub (sub4 rfl rfl rfl rfl) (ex_of T9 ⟨⟨_, rfl, fun _ => rfl⟩, OpP_set p9⟩)
    · have e : layC (h.1 1) (nI b) (nI j) (nI c) = 2 := by unfold layC; rw [if_neg (fun q => q c1), eb, ej, ec, if_neg c2]
      rw [if_neg c2, if_neg c2] at IL
      unfold layR9
      rw [e, if_pos rfl, if_pos rfl, if_neg (by decide), decide_eq_false (by decide), Bool.false_and, eb, ej, ec]
      show WX _ _ 0 [(0, _), (1, _), (2, _), (3, _)] [] _ _
      iterate 2 refine ex_s rfl ?_
      refine ex_c rfl rfl ⟨Nat.le_of_ble_eq_true rfl, Nat.le_of_ble_eq_true rfl⟩ (B1) ?_
      refine ex_b rfl rfl (fun q => absurd q (fun q => bI_eq.mp q c1.1)) (fun _ => ?_)
      iterate 3 refine ex_s rfl ?_
      refine ex_c rfl rfl ⟨Nat.le_of_ble_eq_true rfl, Nat.le_of_ble_eq_true rfl⟩ (B2) ?_
      refine ex_b rfl rfl (fun q => absurd q (fun q => bI_eq.mp q c1.2.1)) (fun _ => ?_)
      iterate 3 refine ex_s rfl ?_
      refine ex_c rfl rfl ⟨Nat.le_of_ble_eq_true rfl, Nat.le_of_ble_eq_true rfl⟩ (B3) ?_
      refine ex_b rfl rfl (fun q => absurd q (fun q => bI_eq.mp q c1.2.2)) (fun _ => ?_)
      refine ex_s rfl ?_
      refine ex_g rfl rfl ?_
      iterate 4 refine ex_s rfl ?_
      refine ex_b rfl rfl (fun _ => ?_) (fun q => absurd (by decide) q)
      refine ex_s rfl ?_
      refine ex_c rfl rfl ⟨Nat.le_of_ble_eq_true rfl, Nat.le_of_ble_eq_true rfl⟩ (f_failsF _ _ _) ?_
      refine ex_b rfl rfl (fun q => absurd q (fun q => q rfl)) (fun _ => ?_)
      iterate 6 refine ex_s rfl ?_
      refine ex_c rfl rfl ⟨Nat.le_of_ble_eq_true rfl, Nat.le_of_ble_eq_true rfl⟩ (IL) ?_
      refine ex_c rfl rfl ⟨Nat.le_of_ble_eq_true rfl, Nat.le_of_ble_eq_true rfl⟩ (f_failsT _ _ _) ?_
      refine ex_b rfl rfl (fun q => absurd q (by decide)) (fun _ => ?_)
      refine ex_s rfl ?_
      refine ex_q rfl ?_
      refine ⟨⟨_, rfl, fun q => absurd q (by decide)⟩, by rw [hI_at, upd_eq], by rw [hI_at, upd_ne (by decide), hI_at, upd_ne (by decide), hI_at, upd_eq], by rw [hI_at, upd_ne (by decide), hI_at, upd_eq], by rw [hI_ne (by decide), hI_ne (by decide), hI_ne (by decide), hI_ne (by decide)], rfl, ((HSame.hI0 (by decide)).tr (HSame.hI0 (by decide))).tr ((HSame.hI0 (by decide)).tr (HSame.hI0 (by decide))), ((FrO.hI0 (by decide)).tr (FrO.hI0 (by decide))).tr ((FrO.hI0 (by decide)).tr (FrO.hI0 (by decide)))⟩
  · have e : layC (h.1 1) x y z = 1 := by unfold layC; rw [if_pos c1]
    unfold layR9
    rw [e, if_neg (by decide), if_neg (by decide), if_neg (by decide), decide_eq_false (by decide), Bool.false_and]
    have R : WX (d + 4) mX11_lay 33 [(0, .ref 0)] [.int 0] h (fun v h' => (∃ a, v = some (.int a) ∧ ((1 : Int32) = 0 → a = nI (supN (h.1 1) x.toNatClampNeg))) ∧ OpP h h' 1 (h.1 0 12) (h.1 0 13) (h.1 1) (h.2.1 5) false K) := by
      iterate 4 refine ex_s rfl ?_
      refine ex_b rfl rfl (fun q => absurd q (fun q => q rfl)) (fun _ => ?_)
      refine ex_s rfl ?_
      refine ex_g rfl rfl ?_
      refine ex_c rfl rfl ⟨Nat.le_of_ble_eq_true rfl, Nat.le_of_ble_eq_true rfl⟩ (f_failsT _ _ _) ?_
      refine ex_b rfl rfl (fun _ => ?_) (fun q => absurd (by decide) q)
      refine ex_s rfl ?_
      refine ex_q rfl ?_
      exact ⟨⟨_, rfl, fun q => absurd q (by decide)⟩, OpP_x⟩
    by_cases c2 : 0 ≤ x ∧ x ≤ h.1 1 4 - 1
    · by_cases c3 : 0 ≤ y ∧ y ≤ 11
      · show WX _ _ 0 [(0, _), (1, _), (2, _), (3, _)] [] _ _
        iterate 2 refine ex_s rfl ?_
        refine ex_c rfl rfl ⟨Nat.le_of_ble_eq_true rfl, Nat.le_of_ble_eq_true rfl⟩ (B1) ?_
        refine ex_b rfl rfl (fun q => absurd q (fun q => bI_eq.mp q c2)) (fun _ => ?_)
        iterate 3 refine ex_s rfl ?_
        refine ex_c rfl rfl ⟨Nat.le_of_ble_eq_true rfl, Nat.le_of_ble_eq_true rfl⟩ (B2) ?_
        refine ex_b rfl rfl (fun q => absurd q (fun q => bI_eq.mp q c3)) (fun _ => ?_)
        iterate 3 refine ex_s rfl ?_
        refine ex_c rfl rfl ⟨Nat.le_of_ble_eq_true rfl, Nat.le_of_ble_eq_true rfl⟩ (B3) ?_
        refine ex_b rfl rfl (fun _ => ?_) (fun q => absurd (bI_eq.mpr (fun q => c1 ⟨c2, c3, q⟩)) q)
        refine ex_s rfl ?_
        exact ex_sub (sub1 rfl) R
      · show WX _ _ 0 [(0, _), (1, _), (2, _), (3, _)] [] _ _
        iterate 2 refine ex_s rfl ?_
        refine ex_c rfl rfl ⟨Nat.le_of_ble_eq_true rfl, Nat.le_of_ble_eq_true rfl⟩ (B1) ?_
        refine ex_b rfl rfl (fun q => absurd q (fun q => bI_eq.mp q c2)) (fun _ => ?_)
        iterate 3 refine ex_s rfl ?_
        refine ex_c rfl rfl ⟨Nat.le_of_ble_eq_true rfl, Nat.le_of_ble_eq_true rfl⟩ (B2) ?_
        refine ex_b rfl rfl (fun _ => ?_) (fun q => absurd (bI_eq.mpr c3) q)
        refine ex_s rfl ?_
        exact ex_sub (sub1 rfl) R
    · show WX _ _ 0 [(0, _), (1, _), (2, _), (3, _)] [] _ _
      iterate 2 refine ex_s rfl ?_
      refine ex_c rfl rfl ⟨Nat.le_of_ble_eq_true rfl, Nat.le_of_ble_eq_true rfl⟩ (B1) ?_
      refine ex_b rfl rfl (fun _ => ?_) (fun q => absurd (bI_eq.mpr c2) q)
      refine ex_s rfl ?_
      exact ex_sub (sub1 rfl) R
def takeC (r : Nat → Int32) (x : Int32) : Int32 := if ¬ (0 ≤ x ∧ x ≤ r 4 - 1) then 1 else if ofB r x.toNatClampNeg 2 = 0 then 0 else 2
def takeR (r : Nat → Int32) (x : Int32) : Nat → Int32 := if takeC r x = 0 then goesR r x.toNatClampNeg 1 else r
theorem f_take (d : Nat) (x : Int32) (h : AH) (hS : Str (h.1 1)) {K : Nat} (hK : K ≤ 8) (h11 : h.1 0 11 = nI K) : WM (d + 3) mX11_take [.ref 0, .int x] h (fun v h' => (∃ a, v = some (.int a) ∧ (takeC (h.1 1) x = 0 → a = ofB (h.1 1) x.toNatClampNeg 1)) ∧ OpP h h' (takeC (h.1 1) x) (if takeC (h.1 1) x = 2 then 6 else h.1 0 12) (if takeC (h.1 1) x = 2 then x else h.1 0 13) (takeR (h.1 1) x) (h.2.1 5) (decide (takeC (h.1 1) x = 0) && !inT h) K) := by
  have hw := hS.1
  have h40 := hw.2.1
  have B1 := f_isBlock (d + 1) x h
  by_cases c1 : 0 ≤ x ∧ x ≤ h.1 1 4 - 1
  · obtain ⟨b, hb, rfl⟩ := (blk_or hw x).resolve_right (fun q => q c1)
    have eb : (nI b).toNatClampNeg = b := nI_clamp (by omega)
    have O := f_of (d + 2) (b := b) (by omega) (x := 2) (by omega) (hI h 0 0 0)
    rw [show (hI h 0 0 0).1 1 = h.1 1 from hI_ne (by decide)] at O
    by_cases c2 : ofB (h.1 1) b 2 = 0
    · have e : takeC (h.1 1) (nI b) = 0 := by unfold takeC; rw [if_neg (fun q => q c1), eb, if_pos c2]
      have C := f_changeZ (d + 0) h hK h11
      unfold takeR
      rw [e, if_pos rfl, if_neg (by decide), if_neg (by decide), decide_eq_true rfl, Bool.true_and, eb]
      have hn1 : ¬ ofB (h.1 1) b 2 = 1 := fun q => by rw [c2] at q; cases q
      show WX _ _ 0 [(0, _), (1, _)] [] _ _
      iterate 4 refine ex_s rfl ?_
      refine ex_c rfl rfl ⟨Nat.le_of_ble_eq_true rfl, Nat.le_of_ble_eq_true rfl⟩ (B1) ?_
      refine ex_b rfl rfl (fun _ => ?_) (fun q => absurd (bI_ne.mpr c1) q)
      refine ex_s rfl ?_
      refine ex_c rfl rfl ⟨Nat.le_of_ble_eq_true rfl, Nat.le_of_ble_eq_true rfl⟩ (f_failsF _ _ _) ?_
      refine ex_b rfl rfl (fun q => absurd q (fun q => q rfl)) (fun _ => ?_)
      iterate 6 refine ex_s rfl ?_
      refine ex_c rfl rfl ⟨Nat.le_of_ble_eq_true rfl, Nat.le_of_ble_eq_true rfl⟩ (O) ?_
      refine ex_b rfl rfl (fun _ => ?_) (fun q => absurd c2 q)
      iterate 3 refine ex_s rfl ?_
      refine ex_c rfl rfl ⟨Nat.le_of_ble_eq_true rfl, Nat.le_of_ble_eq_true rfl⟩ (f_refuseF _ _ _ _) ?_
      refine ex_c rfl rfl ⟨Nat.le_of_ble_eq_true rfl, Nat.le_of_ble_eq_true rfl⟩ (f_failsF _ _ _) ?_
      rw [hI_2]
      refine ex_b rfl rfl (fun _ => ?_) (fun q => absurd rfl q)
      refine ex_s rfl ?_
      refine ex_xc rfl rfl ⟨Nat.le_of_ble_eq_true rfl, Nat.le_of_ble_eq_true rfl⟩ (C) (fun rv9 h9 p9 => ?_)
      obtain ⟨rfl, p9⟩ := p9
      have G := f_goes (d + 0) (b := b) (by omega) 1 h9 (by rw [p9.2.2.2.1]; exact (hw.2.2 b hb).1) (by rw [p9.2.2.2.1]; exact (hw.2.2 b hb).2)
      rw [p9.2.2.2.1, p9.2.2.2.2.1] at G
      iterate 3 refine ex_s rfl ?_
      refine ex_c rfl rfl ⟨Nat.le_of_ble_eq_true rfl, Nat.le_of_ble_eq_true rfl⟩ (G) ?_
      iterate 3 refine ex_s rfl ?_
      refine ex_c rfl rfl ⟨Nat.le_of_ble_eq_true rfl, Nat.le_of_ble_eq_true rfl⟩ (f_of _ (b := b) (by omega) (x := 1) (by omega) _) ?_
      refine ex_q rfl ?_
      rw [setR_1, goesR_LN (hw.2.2 b hb).2]
      exact ⟨⟨_, rfl, fun _ => rfl⟩, OpP_set p9⟩
    · have e : takeC (h.1 1) (nI b) = 2 := by unfold takeC; rw [if_neg (fun q => q c1), eb, if_neg c2]
      unfold takeR
      rw [e, if_pos rfl, if_pos rfl, if_neg (by decide), decide_eq_false (by decide), Bool.false_and]
      show WX _ _ 0 [(0, _), (1, _)] [] _ _
      iterate 4 refine ex_s rfl ?_
      refine ex_c rfl rfl ⟨Nat.le_of_ble_eq_true rfl, Nat.le_of_ble_eq_true rfl⟩ (B1) ?_
      refine ex_b rfl rfl (fun _ => ?_) (fun q => absurd (bI_ne.mpr c1) q)
      refine ex_s rfl ?_
      refine ex_c rfl rfl ⟨Nat.le_of_ble_eq_true rfl, Nat.le_of_ble_eq_true rfl⟩ (f_failsF _ _ _) ?_
      refine ex_b rfl rfl (fun q => absurd q (fun q => q rfl)) (fun _ => ?_)
      iterate 6 refine ex_s rfl ?_
      refine ex_c rfl rfl ⟨Nat.le_of_ble_eq_true rfl, Nat.le_of_ble_eq_true rfl⟩ (O) ?_
      refine ex_b rfl rfl (fun q => absurd q c2) (fun _ => ?_)
      refine ex_s rfl ?_
      refine ex_g rfl rfl ?_
      iterate 2 refine ex_s rfl ?_
      refine ex_c rfl rfl ⟨Nat.le_of_ble_eq_true rfl, Nat.le_of_ble_eq_true rfl⟩ (f_refuseT _ _ _ _) ?_
      refine ex_c rfl rfl ⟨Nat.le_of_ble_eq_true rfl, Nat.le_of_ble_eq_true rfl⟩ (f_failsT _ _ _) ?_
      refine ex_b rfl rfl (fun q => absurd q (by decide)) (fun _ => ?_)
      refine ex_s rfl ?_
      refine ex_q rfl ?_
      refine ⟨⟨_, rfl, fun q => absurd q (by decide)⟩, by rw [hI_at, upd_eq], by rw [hI_at, upd_ne (by decide), hI_at, upd_ne (by decide), hI_at, upd_eq], by rw [hI_at, upd_ne (by decide), hI_at, upd_eq], by rw [hI_ne (by decide), hI_ne (by decide), hI_ne (by decide), hI_ne (by decide)], rfl, ((HSame.hI0 (by decide)).tr (HSame.hI0 (by decide))).tr ((HSame.hI0 (by decide)).tr (HSame.hI0 (by decide))), ((FrO.hI0 (by decide)).tr (FrO.hI0 (by decide))).tr ((FrO.hI0 (by decide)).tr (FrO.hI0 (by decide)))⟩
  · have e : takeC (h.1 1) x = 1 := by unfold takeC; rw [if_pos c1]
    unfold takeR
    rw [e, if_neg (by decide), if_neg (by decide), if_neg (by decide), decide_eq_false (by decide), Bool.false_and]
    show WX _ _ 0 [(0, _), (1, _)] [] _ _
    iterate 4 refine ex_s rfl ?_
    refine ex_c rfl rfl ⟨Nat.le_of_ble_eq_true rfl, Nat.le_of_ble_eq_true rfl⟩ (B1) ?_
    refine ex_b rfl rfl (fun q => absurd q (fun q => q (bI_eq.mpr c1))) (fun _ => ?_)
    refine ex_s rfl ?_
    refine ex_g rfl rfl ?_
    refine ex_c rfl rfl ⟨Nat.le_of_ble_eq_true rfl, Nat.le_of_ble_eq_true rfl⟩ (f_failsT _ _ _) ?_
    refine ex_b rfl rfl (fun _ => ?_) (fun q => absurd (by decide) q)
    refine ex_s rfl ?_
    refine ex_q rfl ?_
    exact ⟨⟨_, rfl, fun q => absurd q (by decide)⟩, OpP_x⟩
end
