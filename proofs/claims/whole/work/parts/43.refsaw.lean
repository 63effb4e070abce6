-- needs: 42
noncomputable section
/-- why a sawing is refused, and the detail; 0: it isn't -/
def sawQ (r : Nat → Int32) (kind len rack : Int32) : Int32 × Int32 := if r 4 = 40 then (1, 40) else if r 1 < 10 then (2, r 1) else if r 2 < len then (3, r 2) else if freeP r rack = 5 then (4, rack) else if kind ≠ rack then (5, rack) else (0, 0)
theorem f_isSawRefused (d : Nat) (kind len rack : Int32) (h : AH) (hw : Wel (h.1 1)) : EvM (d + 3) mX11_isSawRefused [.ref 0, .int kind, .int len, .int rack] h (some (.int (if (sawQ (h.1 1) kind len rack).1 = 0 then 0 else 1))) (if (sawQ (h.1 1) kind len rack).1 = 0 then h else hI (hI h 0 12 (sawQ (h.1 1) kind len rack).1) 0 13 (sawQ (h.1 1) kind len rack).2) := by
  have FP := f_freePlace d rack h hw
  have f5 : freeP (h.1 1) rack ≤ 5 := (fstP_le (p := frP (h.1 1) rack) (n := 5) 5 0 rfl).1
  have e5 : nI (freeP (h.1 1) rack) = 5 ↔ freeP (h.1 1) rack = 5 := nI_eq (b := 5) (by omega) (by decide)

  by_cases c1 : h.1 1 4 = 40
  · have e : sawQ (h.1 1) kind len rack = (1, 40) := by unfold sawQ; rw [if_pos c1]
    rw [e, if_neg (show ¬ (1 : Int32) = 0 by decide), if_neg (show ¬ (1 : Int32) = 0 by decide)]
    show EvR _ _ 0 [(0, _), (1, _), (2, _), (3, _)] [] _ _ _
    iterate 4 refine er_s rfl ?_
    refine er_il rfl rfl (vi (k := 4)) ?_
    refine er_s rfl ?_
    refine er_b rfl rfl (fun q => absurd q (fun q => q c1)) (fun _ => ?_)
    refine er_s rfl ?_
    refine er_g rfl rfl ?_
    iterate 2 refine er_s rfl ?_
    refine er_c rfl rfl ⟨Nat.le_of_ble_eq_true rfl, Nat.le_of_ble_eq_true rfl⟩ (f_refuseT _ _ _ _) ?_
    refine er_b rfl rfl (fun _ => ?_) (fun q => absurd (by decide) q)
    refine er_s rfl ?_
    refine er_q (ret_bK rfl rfl) ?_ ?_
    · rfl
    · rfl
  · have hd0 : True := trivial
    by_cases c2 : h.1 1 1 < 10
    · have e : sawQ (h.1 1) kind len rack = (2, h.1 1 1) := by unfold sawQ; rw [if_neg c1, if_pos c2]
      rw [e, if_neg (show ¬ (2 : Int32) = 0 by decide), if_neg (show ¬ (2 : Int32) = 0 by decide)]
      show EvR _ _ 0 [(0, _), (1, _), (2, _), (3, _)] [] _ _ _
      iterate 4 refine er_s rfl ?_
      refine er_il rfl rfl (vi (k := 4)) ?_
      refine er_s rfl ?_
      refine er_b rfl rfl (fun _ => ?_) (fun q => absurd c1 q)
      iterate 3 refine er_s rfl ?_
      refine er_c rfl rfl ⟨Nat.le_of_ble_eq_true rfl, Nat.le_of_ble_eq_true rfl⟩ (f_refuseF _ _ _ _) ?_
      refine er_b rfl rfl (fun q => absurd q (fun q => q rfl)) (fun _ => ?_)
      iterate 4 refine er_s rfl ?_
      refine er_il rfl rfl (vi (k := 1)) ?_
      refine er_s rfl ?_
      refine er_b rfl rfl (fun q => absurd q (Int32.not_le.mpr c2)) (fun _ => ?_)
      refine er_s rfl ?_
      refine er_g rfl rfl ?_
      iterate 4 refine er_s rfl ?_
      refine er_il rfl rfl (vi (k := 1)) ?_
      refine er_c rfl rfl ⟨Nat.le_of_ble_eq_true rfl, Nat.le_of_ble_eq_true rfl⟩ (f_refuseT _ _ _ _) ?_
      refine er_b rfl rfl (fun _ => ?_) (fun q => absurd (by decide) q)
      refine er_s rfl ?_
      refine er_q (ret_bK rfl rfl) ?_ ?_
      · rfl
      · rfl
    · have hd1 : True := trivial
      by_cases c3 : h.1 1 2 < len
      · have e : sawQ (h.1 1) kind len rack = (3, h.1 1 2) := by unfold sawQ; rw [if_neg c1, if_neg c2, if_pos c3]
        rw [e, if_neg (show ¬ (3 : Int32) = 0 by decide), if_neg (show ¬ (3 : Int32) = 0 by decide)]
        show EvR _ _ 0 [(0, _), (1, _), (2, _), (3, _)] [] _ _ _
        iterate 4 refine er_s rfl ?_
        refine er_il rfl rfl (vi (k := 4)) ?_
        refine er_s rfl ?_
        refine er_b rfl rfl (fun _ => ?_) (fun q => absurd c1 q)
        iterate 3 refine er_s rfl ?_
        refine er_c rfl rfl ⟨Nat.le_of_ble_eq_true rfl, Nat.le_of_ble_eq_true rfl⟩ (f_refuseF _ _ _ _) ?_
        refine er_b rfl rfl (fun q => absurd q (fun q => q rfl)) (fun _ => ?_)
        iterate 4 refine er_s rfl ?_
        refine er_il rfl rfl (vi (k := 1)) ?_
        refine er_s rfl ?_
        refine er_b rfl rfl (fun _ => ?_) (fun q => absurd (Int32.not_lt.mp c2) q)
        iterate 5 refine er_s rfl ?_
        refine er_il rfl rfl (vi (k := 1)) ?_
        refine er_c rfl rfl ⟨Nat.le_of_ble_eq_true rfl, Nat.le_of_ble_eq_true rfl⟩ (f_refuseF _ _ _ _) ?_
        refine er_b rfl rfl (fun q => absurd q (fun q => q rfl)) (fun _ => ?_)
        iterate 4 refine er_s rfl ?_
        refine er_il rfl rfl (vi (k := 2)) ?_
        refine er_s rfl ?_
        refine er_b rfl rfl (fun q => absurd q (Int32.not_le.mpr c3)) (fun _ => ?_)
        refine er_s rfl ?_
        refine er_g rfl rfl ?_
        iterate 4 refine er_s rfl ?_
        refine er_il rfl rfl (vi (k := 2)) ?_
        refine er_c rfl rfl ⟨Nat.le_of_ble_eq_true rfl, Nat.le_of_ble_eq_true rfl⟩ (f_refuseT _ _ _ _) ?_
        refine er_b rfl rfl (fun q => absurd q (by decide)) (fun _ => ?_)
        refine er_s rfl ?_
        refine er_q (ret_bK rfl rfl) ?_ ?_
        · rfl
        · rfl
      · have hd2 : True := trivial
        by_cases c4 : freeP (h.1 1) rack = 5
        · have e : sawQ (h.1 1) kind len rack = (4, rack) := by unfold sawQ; rw [if_neg c1, if_neg c2, if_neg c3, if_pos c4]
          rw [e, if_neg (show ¬ (4 : Int32) = 0 by decide), if_neg (show ¬ (4 : Int32) = 0 by decide)]
          show EvR _ _ 0 [(0, _), (1, _), (2, _), (3, _)] [] _ _ _
          iterate 4 refine er_s rfl ?_
          refine er_il rfl rfl (vi (k := 4)) ?_
          refine er_s rfl ?_
          refine er_b rfl rfl (fun _ => ?_) (fun q => absurd c1 q)
          iterate 3 refine er_s rfl ?_
          refine er_c rfl rfl ⟨Nat.le_of_ble_eq_true rfl, Nat.le_of_ble_eq_true rfl⟩ (f_refuseF _ _ _ _) ?_
          refine er_b rfl rfl (fun q => absurd q (fun q => q rfl)) (fun _ => ?_)
          iterate 4 refine er_s rfl ?_
          refine er_il rfl rfl (vi (k := 1)) ?_
          refine er_s rfl ?_
          refine er_b rfl rfl (fun _ => ?_) (fun q => absurd (Int32.not_lt.mp c2) q)
          iterate 5 refine er_s rfl ?_
          refine er_il rfl rfl (vi (k := 1)) ?_
          refine er_c rfl rfl ⟨Nat.le_of_ble_eq_true rfl, Nat.le_of_ble_eq_true rfl⟩ (f_refuseF _ _ _ _) ?_
          refine er_b rfl rfl (fun q => absurd q (fun q => q rfl)) (fun _ => ?_)
          iterate 4 refine er_s rfl ?_
          refine er_il rfl rfl (vi (k := 2)) ?_
          refine er_s rfl ?_
          refine er_b rfl rfl (fun _ => ?_) (fun q => absurd (Int32.not_lt.mp c3) q)
          iterate 5 refine er_s rfl ?_
          refine er_il rfl rfl (vi (k := 2)) ?_
          refine er_c rfl rfl ⟨Nat.le_of_ble_eq_true rfl, Nat.le_of_ble_eq_true rfl⟩ (f_refuseF _ _ _ _) ?_
          refine er_b rfl rfl (fun _ => ?_) (fun q => absurd rfl q)
          iterate 3 refine er_s rfl ?_
          refine er_c rfl rfl ⟨Nat.le_of_ble_eq_true rfl, Nat.le_of_ble_eq_true rfl⟩ (FP) ?_
          refine er_s rfl ?_
          refine er_b rfl rfl (fun q => absurd q (fun q => q (e5.mpr c4))) (fun _ => ?_)
          refine er_s rfl ?_
          refine er_g rfl rfl ?_
          iterate 2 refine er_s rfl ?_
          refine er_c rfl rfl ⟨Nat.le_of_ble_eq_true rfl, Nat.le_of_ble_eq_true rfl⟩ (f_refuseT _ _ _ _) ?_
          refine er_b rfl rfl (fun _ => ?_) (fun q => absurd (by decide) q)
          refine er_s rfl ?_
          refine er_g rfl rfl ?_
          refine er_q (ret_bK rfl rfl) ?_ ?_
          · rfl
          · rfl
        · have hd3 : True := trivial
          by_cases c5 : kind ≠ rack
          · have e : sawQ (h.1 1) kind len rack = (5, rack) := by unfold sawQ; rw [if_neg c1, if_neg c2, if_neg c3, if_neg c4, if_pos c5]
            rw [e, if_neg (show ¬ (5 : Int32) = 0 by decide), if_neg (show ¬ (5 : Int32) = 0 by decide)]
            show EvR _ _ 0 [(0, _), (1, _), (2, _), (3, _)] [] _ _ _
            iterate 4 refine er_s rfl ?_
            refine er_il rfl rfl (vi (k := 4)) ?_
            refine er_s rfl ?_
            refine er_b rfl rfl (fun _ => ?_) (fun q => absurd c1 q)
            iterate 3 refine er_s rfl ?_
            refine er_c rfl rfl ⟨Nat.le_of_ble_eq_true rfl, Nat.le_of_ble_eq_true rfl⟩ (f_refuseF _ _ _ _) ?_
            refine er_b rfl rfl (fun q => absurd q (fun q => q rfl)) (fun _ => ?_)
            iterate 4 refine er_s rfl ?_
            refine er_il rfl rfl (vi (k := 1)) ?_
            refine er_s rfl ?_
            refine er_b rfl rfl (fun _ => ?_) (fun q => absurd (Int32.not_lt.mp c2) q)
            iterate 5 refine er_s rfl ?_
            refine er_il rfl rfl (vi (k := 1)) ?_
            refine er_c rfl rfl ⟨Nat.le_of_ble_eq_true rfl, Nat.le_of_ble_eq_true rfl⟩ (f_refuseF _ _ _ _) ?_
            refine er_b rfl rfl (fun q => absurd q (fun q => q rfl)) (fun _ => ?_)
            iterate 4 refine er_s rfl ?_
            refine er_il rfl rfl (vi (k := 2)) ?_
            refine er_s rfl ?_
            refine er_b rfl rfl (fun _ => ?_) (fun q => absurd (Int32.not_lt.mp c3) q)
            iterate 5 refine er_s rfl ?_
            refine er_il rfl rfl (vi (k := 2)) ?_
            refine er_c rfl rfl ⟨Nat.le_of_ble_eq_true rfl, Nat.le_of_ble_eq_true rfl⟩ (f_refuseF _ _ _ _) ?_
            refine er_b rfl rfl (fun _ => ?_) (fun q => absurd rfl q)
            iterate 3 refine er_s rfl ?_
            refine er_c rfl rfl ⟨Nat.le_of_ble_eq_true rfl, Nat.le_of_ble_eq_true rfl⟩ (FP) ?_
            refine er_s rfl ?_
            refine er_b rfl rfl (fun _ => ?_) (fun q => absurd (fun q => c4 (e5.mp q)) q)
            iterate 3 refine er_s rfl ?_
            refine er_c rfl rfl ⟨Nat.le_of_ble_eq_true rfl, Nat.le_of_ble_eq_true rfl⟩ (f_refuseF _ _ _ _) ?_
            refine er_b rfl rfl (fun q => absurd q (fun q => q rfl)) (fun _ => ?_)
            iterate 3 refine er_s rfl ?_
            refine er_b rfl rfl (fun q => absurd q c5) (fun _ => ?_)
            refine er_s rfl ?_
            refine er_g rfl rfl ?_
            iterate 2 refine er_s rfl ?_
            refine er_c rfl rfl ⟨Nat.le_of_ble_eq_true rfl, Nat.le_of_ble_eq_true rfl⟩ (f_refuseT _ _ _ _) ?_
            refine er_b rfl rfl (fun q => absurd q (by decide)) (fun _ => ?_)
            refine er_s rfl ?_
            refine er_g rfl rfl ?_
            refine er_q (ret_bK rfl rfl) ?_ ?_
            · rfl
            · rfl
          · have hd4 : True := trivial
            have e : sawQ (h.1 1) kind len rack = (0, 0) := by unfold sawQ; rw [if_neg c1, if_neg c2, if_neg c3, if_neg c4, if_neg c5]
            rw [e, if_pos rfl, if_pos rfl]
            show EvR _ _ 0 [(0, _), (1, _), (2, _), (3, _)] [] _ _ _
            iterate 4 refine er_s rfl ?_
            refine er_il rfl rfl (vi (k := 4)) ?_
            refine er_s rfl ?_
            refine er_b rfl rfl (fun _ => ?_) (fun q => absurd c1 q)
            iterate 3 refine er_s rfl ?_
            refine er_c rfl rfl ⟨Nat.le_of_ble_eq_true rfl, Nat.le_of_ble_eq_true rfl⟩ (f_refuseF _ _ _ _) ?_
            refine er_b rfl rfl (fun q => absurd q (fun q => q rfl)) (fun _ => ?_)
            iterate 4 refine er_s rfl ?_
            refine er_il rfl rfl (vi (k := 1)) ?_
            refine er_s rfl ?_
            refine er_b rfl rfl (fun _ => ?_) (fun q => absurd (Int32.not_lt.mp c2) q)
            iterate 5 refine er_s rfl ?_
            refine er_il rfl rfl (vi (k := 1)) ?_
            refine er_c rfl rfl ⟨Nat.le_of_ble_eq_true rfl, Nat.le_of_ble_eq_true rfl⟩ (f_refuseF _ _ _ _) ?_
            refine er_b rfl rfl (fun q => absurd q (fun q => q rfl)) (fun _ => ?_)
            iterate 4 refine er_s rfl ?_
            refine er_il rfl rfl (vi (k := 2)) ?_
            refine er_s rfl ?_
            refine er_b rfl rfl (fun _ => ?_) (fun q => absurd (Int32.not_lt.mp c3) q)
            iterate 5 refine er_s rfl ?_
            refine er_il rfl rfl (vi (k := 2)) ?_
            refine er_c rfl rfl ⟨Nat.le_of_ble_eq_true rfl, Nat.le_of_ble_eq_true rfl⟩ (f_refuseF _ _ _ _) ?_
            refine er_b rfl rfl (fun _ => ?_) (fun q => absurd rfl q)
            iterate 3 refine er_s rfl ?_
            refine er_c rfl rfl ⟨Nat.le_of_ble_eq_true rfl, Nat.le_of_ble_eq_true rfl⟩ (FP) ?_
            refine er_s rfl ?_
            refine er_b rfl rfl (fun _ => ?_) (fun q => absurd (fun q => c4 (e5.mp q)) q)
            iterate 3 refine er_s rfl ?_
            refine er_c rfl rfl ⟨Nat.le_of_ble_eq_true rfl, Nat.le_of_ble_eq_true rfl⟩ (f_refuseF _ _ _ _) ?_
            refine er_b rfl rfl (fun q => absurd q (fun q => q rfl)) (fun _ => ?_)
            iterate 3 refine er_s rfl ?_
            refine er_b rfl rfl (fun _ => ?_) (fun q => absurd (Decidable.not_not.mp c5) q)
            iterate 3 refine er_s rfl ?_
            refine er_c rfl rfl ⟨Nat.le_of_ble_eq_true rfl, Nat.le_of_ble_eq_true rfl⟩ (f_refuseF _ _ _ _) ?_
            refine er_b rfl rfl (fun _ => ?_) (fun q => absurd rfl q)
            refine er_s rfl ?_
            refine er_q (ret_bK rfl rfl) ?_ ?_
            · rfl
            · rfl
/-- a block is sawn -/
def sawR (r : Nat → Int32) (kind len place : Int32) : Nat → Int32 := upd (upd (setB (upd (upd r (125 + 8 * CN r + 0) kind) (125 + 8 * CN r + 1) len) (CN r) 0 (-1) (-1) 0 place 0) 2 (r 2 - len)) 4 (r 4 + 1)
def sawM (r : Nat → Int32) (kind len : Int32) : UInt32 := FP.fmul (FP.fmul (FP.i2f len) (FP.i2f (r 1))) (if kind = 0 then 0x3f800000 else 0x3f000000)
def sawC (r : Nat → Int32) (kind len rack : Int32) : Int32 := if ¬ (0 ≤ rack ∧ rack ≤ 1) then 1 else if ¬ ((0 ≤ kind ∧ kind ≤ 1) ∧ (1 ≤ len ∧ len ≤ 6)) then 2 else if (sawQ r kind len rack).1 ≠ 0 then 3 else 0
def sawR9 (r : Nat → Int32) (kind len rack : Int32) : Nat → Int32 := if sawC r kind len rack = 0 then sawR r kind len (nI (freeP r rack)) else r
def sawW9 (r : Nat → Int32) (w : Nat → UInt32) (kind len rack : Int32) : Nat → UInt32 := if sawC r kind len rack = 0 then vf_upd w (CN r) (sawM r kind len) else w
theorem hF_5' {h : AH} {r : Nat → Int32} {w : Nat → UInt32} {k : Nat} {x : UInt32} : hF (setR h r w) 5 k x = setR h r (vf_upd w k x) := hF_5 h r w k x
theorem f_sawT (d : Nat) {kind len rack : Int32} (g : AH) (hw : Wel (g.1 1)) (hc : CN (g.1 1) < 40) {L T : Nat} (hl : len = nI L) (hl1 : L ≠ 0) (hl2 : L < 7) (ht : g.1 1 1 = nI T) (ht1 : 10 ≤ T) (ht2 : T < 61) : EvR (d + 3) mX11_saw 75 [(0, .ref 0), (1, .int kind), (2, .int len), (3, .int rack)] [] g (some (.int (nI (CN (g.1 1))))) (setR g (sawR (g.1 1) kind len (nI (freeP (g.1 1) rack))) (vf_upd (g.2.1 5) (CN (g.1 1)) (sawM (g.1 1) kind len))) := by
  have Fp := f_freePlace (d + 0) rack g hw
  obtain ⟨n1, n2, n3, n4, n5⟩ := new_ok L (List.mem_range.mpr hl2) hl1 T (List.mem_range.mpr ht2) ht1
  have n1 : (FP.fmul (FP.i2f len) (FP.i2f (g.1 1 1))).toNat < 2139095040 := by rw [hl, ht]; exact n1
  have e4 : g.1 1 4 = nI (CN (g.1 1)) := hw.1
  have h1 : ∀ x y : Int32, setB (upd (upd (g.1 1) (125 + 8 * CN (g.1 1) + 0) x) (125 + 8 * CN (g.1 1) + 1) y) (CN (g.1 1)) 0 (-1) (-1) 0 (nI (freeP (g.1 1) rack)) 0 1 = g.1 1 1 := fun x y => by rw [setB_hd (by decide), upd_ne (by omega), upd_ne (by omega)]
  have h2 : ∀ x y : Int32, setB (upd (upd (g.1 1) (125 + 8 * CN (g.1 1) + 0) x) (125 + 8 * CN (g.1 1) + 1) y) (CN (g.1 1)) 0 (-1) (-1) 0 (nI (freeP (g.1 1) rack)) 0 2 = g.1 1 2 := fun x y => by rw [setB_hd (by decide), upd_ne (by omega), upd_ne (by omega)]
  have h4 : ∀ x y : Int32, setB (upd (upd (g.1 1) (125 + 8 * CN (g.1 1) + 0) x) (125 + 8 * CN (g.1 1) + 1) y) (CN (g.1 1)) 0 (-1) (-1) 0 (nI (freeP (g.1 1) rack)) 0 4 = g.1 1 4 := fun x y => by rw [setB_hd (by decide), upd_ne (by omega), upd_ne (by omega)]
  have eH : hI (hI (hI (hI (hI (hI (hI (hI g 1 (125 + 8 * CN (g.1 1) + 0) kind) 1 (125 + 8 * CN (g.1 1) + 1) len) 1 (125 + 8 * CN (g.1 1) + 2) 0) 1 (125 + 8 * CN (g.1 1) + 3) (-1)) 1 (125 + 8 * CN (g.1 1) + 4) (-1)) 1 (125 + 8 * CN (g.1 1) + 5) 0) 1 (125 + 8 * CN (g.1 1) + 6) (nI (freeP (g.1 1) rack))) 1 (125 + 8 * CN (g.1 1) + 7) 0 = setR g (setB (upd (upd (g.1 1) (125 + 8 * CN (g.1 1) + 0) kind) (125 + 8 * CN (g.1 1) + 1) len) (CN (g.1 1)) 0 (-1) (-1) 0 (nI (freeP (g.1 1) rack)) 0) (g.2.1 5) := by
    simp only [hI_R, setR_1, setR_5, setR_R]
    rfl
  unfold sawM
  by_cases hk : kind = 0
  · have n2 : (FP.fmul (FP.fmul (FP.i2f len) (FP.i2f (g.1 1 1))) 0x3f800000).toNat < 2139095040 := by rw [hl, ht]; exact Nat.lt_of_le_of_lt n3 (by decide)
    rw [if_pos hk]
    iterate 3 refine er_s rfl ?_
    refine er_il rfl rfl (vi (k := 4)) ?_
    rw [show g.1 1 (Int32.toNatClampNeg 4) = nI (CN (g.1 1)) from e4]
    iterate 3 refine er_s rfl ?_
    refine er_c rfl rfl ⟨Nat.le_of_ble_eq_true rfl, Nat.le_of_ble_eq_true rfl⟩ (Fp) ?_
    iterate 5 refine er_s rfl ?_
    refine er_c rfl rfl ⟨Nat.le_of_ble_eq_true rfl, Nat.le_of_ble_eq_true rfl⟩ (f_put _ (b := CN (g.1 1)) (by omega) (x := 0) (by omega) _ _) ?_
    iterate 4 refine er_s rfl ?_
    refine er_c rfl rfl ⟨Nat.le_of_ble_eq_true rfl, Nat.le_of_ble_eq_true rfl⟩ (f_put _ (b := CN (g.1 1)) (by omega) (x := 1) (by omega) _ _) ?_
    iterate 4 refine er_s rfl ?_
    refine er_c rfl rfl ⟨Nat.le_of_ble_eq_true rfl, Nat.le_of_ble_eq_true rfl⟩ (f_put _ (b := CN (g.1 1)) (by omega) (x := 2) (by omega) _ _) ?_
    iterate 4 refine er_s rfl ?_
    refine er_c rfl rfl ⟨Nat.le_of_ble_eq_true rfl, Nat.le_of_ble_eq_true rfl⟩ (f_put _ (b := CN (g.1 1)) (by omega) (x := 3) (by omega) _ _) ?_
    iterate 4 refine er_s rfl ?_
    refine er_c rfl rfl ⟨Nat.le_of_ble_eq_true rfl, Nat.le_of_ble_eq_true rfl⟩ (f_put _ (b := CN (g.1 1)) (by omega) (x := 4) (by omega) _ _) ?_
    iterate 4 refine er_s rfl ?_
    refine er_c rfl rfl ⟨Nat.le_of_ble_eq_true rfl, Nat.le_of_ble_eq_true rfl⟩ (f_put _ (b := CN (g.1 1)) (by omega) (x := 5) (by omega) _ _) ?_
    iterate 4 refine er_s rfl ?_
    refine er_c rfl rfl ⟨Nat.le_of_ble_eq_true rfl, Nat.le_of_ble_eq_true rfl⟩ (f_put _ (b := CN (g.1 1)) (by omega) (x := 6) (by omega) _ _) ?_
    iterate 4 refine er_s rfl ?_
    refine er_c rfl rfl ⟨Nat.le_of_ble_eq_true rfl, Nat.le_of_ble_eq_true rfl⟩ (f_put _ (b := CN (g.1 1)) (by omega) (x := 7) (by omega) _ _) ?_
    rw [eH]
    iterate 8 refine er_s rfl ?_
    refine er_il rfl rfl (vi (k := 1)) ?_
    rw [k1, setR_1, h1]
    refine er_s rfl ?_
    refine er_fmul rfl (nn_of n1) ?_
    refine er_s rfl ?_
    refine er_b rfl rfl (fun q => absurd q (fun q => q hk)) (fun _ => ?_)
    refine er_s rfl ?_
    refine er_g rfl rfl ?_
    refine er_fmul rfl (nn_of n2) ?_
    refine er_fs rfl rfl (vi) ?_
    rw [cl _, hF_5']
    iterate 4 refine er_s rfl ?_
    refine er_il rfl rfl (vi (k := 2)) ?_
    rw [k2, setR_1, h2]
    iterate 2 refine er_s rfl ?_
    refine er_is rfl rfl (vi (k := 2)) ?_
    rw [k2, hI_R, setR_1, setR_5, setR_R]
    iterate 4 refine er_s rfl ?_
    refine er_il rfl rfl (vi (k := 4)) ?_
    rw [k4, setR_1, upd_ne (show (4 : Nat) ≠ 2 by decide), h4]
    iterate 2 refine er_s rfl ?_
    refine er_is rfl rfl (vi (k := 4)) ?_
    refine er_s rfl ?_
    refine er_q rfl ?_ ?_
    · rfl
    · rw [k4, hI_R, setR_1, setR_5, setR_R]
      rfl
  · have n2 : (FP.fmul (FP.fmul (FP.i2f len) (FP.i2f (g.1 1 1))) 0x3f000000).toNat < 2139095040 := by rw [hl, ht]; exact Nat.lt_of_le_of_lt n5 (by decide)
    rw [if_neg hk]
    iterate 3 refine er_s rfl ?_
    refine er_il rfl rfl (vi (k := 4)) ?_
    rw [show g.1 1 (Int32.toNatClampNeg 4) = nI (CN (g.1 1)) from e4]
    iterate 3 refine er_s rfl ?_
    refine er_c rfl rfl ⟨Nat.le_of_ble_eq_true rfl, Nat.le_of_ble_eq_true rfl⟩ (Fp) ?_
    iterate 5 refine er_s rfl ?_
    refine er_c rfl rfl ⟨Nat.le_of_ble_eq_true rfl, Nat.le_of_ble_eq_true rfl⟩ (f_put _ (b := CN (g.1 1)) (by omega) (x := 0) (by omega) _ _) ?_
    iterate 4 refine er_s rfl ?_
    refine er_c rfl rfl ⟨Nat.le_of_ble_eq_true rfl, Nat.le_of_ble_eq_true rfl⟩ (f_put _ (b := CN (g.1 1)) (by omega) (x := 1) (by omega) _ _) ?_
    iterate 4 refine er_s rfl ?_
    refine er_c rfl rfl ⟨Nat.le_of_ble_eq_true rfl, Nat.le_of_ble_eq_true rfl⟩ (f_put _ (b := CN (g.1 1)) (by omega) (x := 2) (by omega) _ _) ?_
    iterate 4 refine er_s rfl ?_
    refine er_c rfl rfl ⟨Nat.le_of_ble_eq_true rfl, Nat.le_of_ble_eq_true rfl⟩ (f_put _ (b := CN (g.1 1)) (by omega) (x := 3) (by omega) _ _) ?_
    iterate 4 refine er_s rfl ?_
    refine er_c rfl rfl ⟨Nat.le_of_ble_eq_true rfl, Nat.le_of_ble_eq_true rfl⟩ (f_put _ (b := CN (g.1 1)) (by omega) (x := 4) (by omega) _ _) ?_
    iterate 4 refine er_s rfl ?_
    refine er_c rfl rfl ⟨Nat.le_of_ble_eq_true rfl, Nat.le_of_ble_eq_true rfl⟩ (f_put _ (b := CN (g.1 1)) (by omega) (x := 5) (by omega) _ _) ?_
    iterate 4 refine er_s rfl ?_
    refine er_c rfl rfl ⟨Nat.le_of_ble_eq_true rfl, Nat.le_of_ble_eq_true rfl⟩ (f_put _ (b := CN (g.1 1)) (by omega) (x := 6) (by omega) _ _) ?_
    iterate 4 refine er_s rfl ?_
    refine er_c rfl rfl ⟨Nat.le_of_ble_eq_true rfl, Nat.le_of_ble_eq_true rfl⟩ (f_put _ (b := CN (g.1 1)) (by omega) (x := 7) (by omega) _ _) ?_
    rw [eH]
    iterate 8 refine er_s rfl ?_
    refine er_il rfl rfl (vi (k := 1)) ?_
    rw [k1, setR_1, h1]
    refine er_s rfl ?_
    refine er_fmul rfl (nn_of n1) ?_
    refine er_s rfl ?_
    refine er_b rfl rfl (fun _ => ?_) (fun q => absurd hk q)
    refine er_s rfl ?_
    refine er_fmul rfl (nn_of n2) ?_
    refine er_fs rfl rfl (vi) ?_
    rw [cl _, hF_5']
    iterate 4 refine er_s rfl ?_
    refine er_il rfl rfl (vi (k := 2)) ?_
    rw [k2, setR_1, h2]
    iterate 2 refine er_s rfl ?_
    refine er_is rfl rfl (vi (k := 2)) ?_
    rw [k2, hI_R, setR_1, setR_5, setR_R]
    iterate 4 refine er_s rfl ?_
    refine er_il rfl rfl (vi (k := 4)) ?_
    rw [k4, setR_1, upd_ne (show (4 : Nat) ≠ 2 by decide), h4]
    iterate 2 refine er_s rfl ?_
    refine er_is rfl rfl (vi (k := 4)) ?_
    refine er_s rfl ?_
    refine er_q rfl ?_ ?_
    · rfl
    · rw [k4, hI_R, setR_1, setR_5, setR_R]
      rfl
/-- the thickness, the length that is left -/
def HdX (r : Nat → Int32) : Prop := (∃ T, T ≤ 60 ∧ r 1 = nI T)
theorem f_saw (d : Nat) (kind len rack : Int32) (h : AH) (hw : Wel (h.1 1)) (hx : HdX (h.1 1)) {K : Nat} (hK : K ≤ 8) (h11 : h.1 0 11 = nI K) : WM (d + 4) mX11_saw [.ref 0, .int kind, .int len, .int rack] h (fun v h' => (∃ x, v = some (.int x) ∧ (sawC (h.1 1) kind len rack = 0 → x = nI (CN (h.1 1)))) ∧ OpP h h' (sawC (h.1 1) kind len rack) (if sawC (h.1 1) kind len rack = 3 then (sawQ (h.1 1) kind len rack).1 else h.1 0 12) (if sawC (h.1 1) kind len rack = 3 then (sawQ (h.1 1) kind len rack).2 else h.1 0 13) (sawR9 (h.1 1) kind len rack) (sawW9 (h.1 1) (h.2.1 5) kind len rack) (decide (sawC (h.1 1) kind len rack = 0) && !inT h) K) := by
  have B1 := f_isBetween (d + 3) rack 0 1 h
  have B2 := f_isBetween (d + 3) kind 0 1 (hI h 0 0 0)
  have B3 := f_isBetween (d + 3) len 1 6 (hI h 0 0 0)
  by_cases c1 : 0 ≤ rack ∧ rack ≤ 1
  · by_cases c2 : (0 ≤ kind ∧ kind ≤ 1) ∧ (1 ≤ len ∧ len ≤ 6)
    · have IR := f_isSawRefused (d + 0) kind len rack (hI h 0 0 0) (by rw [hI_ne (by decide)]; exact hw)
      rw [show (hI h 0 0 0).1 1 = h.1 1 from hI_ne (by decide)] at IR
      by_cases c3 : (sawQ (h.1 1) kind len rack).1 = 0
      · have e : sawC (h.1 1) kind len rack = 0 := by unfold sawC; rw [if_neg (fun q => q c1), if_neg (fun q => q c2), if_neg (fun q => q c3)]
        rw [if_pos c3, if_pos c3] at IR
        have C := f_changeZ (d + 1) h hK h11
        obtain ⟨L, hL, rfl⟩ := nI_of2 (M := 6) (n := 6) rfl (fun q => absurd (Int32.lt_of_lt_of_le q (Int32.le_trans (by decide : (0 : Int32) ≤ 1) c2.2.1)) Int32.lt_irrefl) c2.2.2
        have hL1 : L ≠ 0 := fun q => by subst q; exact absurd c2.2.1 (by decide)
        have q1 : ¬ h.1 1 4 = 40 := fun q => by unfold sawQ at c3; rw [if_pos q] at c3; exact absurd c3 (by decide)
        have q2 : ¬ h.1 1 1 < 10 := fun q => by unfold sawQ at c3; rw [if_neg q1, if_pos q] at c3; exact absurd c3 (show ¬ (2 : Int32) = 0 by decide)
        obtain ⟨T, hT, eT⟩ := hx
        have hT1 : 10 ≤ T := Nat.not_lt.mp (fun q => q2 (by rw [eT]; exact nI_lt (b := 10) q (by decide)))
        have h40 := hw.2.1
        have hC : CN (h.1 1) < 40 := Nat.lt_of_le_of_ne h40 (fun q => q1 (by rw [hw.1, q]; rfl))
        unfold sawR9 sawW9
        rw [e, if_pos rfl, if_pos rfl, if_neg (by decide), if_neg (by decide), decide_eq_true rfl, Bool.true_and]
        show WX _ _ 0 [(0, _), (1, _), (2, _), (3, _)] [] _ _
        iterate 5 refine ex_s rfl ?_
        refine ex_c rfl rfl ⟨Nat.le_of_ble_eq_true rfl, Nat.le_of_ble_eq_true rfl⟩ (B1) ?_
        refine ex_b rfl rfl (fun _ => ?_) (fun q => absurd (bI_ne.mpr c1) q)
        refine ex_s rfl ?_
        refine ex_c rfl rfl ⟨Nat.le_of_ble_eq_true rfl, Nat.le_of_ble_eq_true rfl⟩ (f_failsF _ _ _) ?_
        refine ex_b rfl rfl (fun q => absurd q (fun q => q rfl)) (fun _ => ?_)
        iterate 5 refine ex_s rfl ?_
        refine ex_c rfl rfl ⟨Nat.le_of_ble_eq_true rfl, Nat.le_of_ble_eq_true rfl⟩ (B2) ?_
        refine ex_b rfl rfl (fun q => absurd q (fun q => bI_eq.mp q c2.1)) (fun _ => ?_)
        iterate 3 refine ex_s rfl ?_
        refine ex_c rfl rfl ⟨Nat.le_of_ble_eq_true rfl, Nat.le_of_ble_eq_true rfl⟩ (B3) ?_
        refine ex_b rfl rfl (fun _ => ?_) (fun q => absurd (bI_ne.mpr c2.2) q)
        refine ex_s rfl ?_
        refine ex_c rfl rfl ⟨Nat.le_of_ble_eq_true rfl, Nat.le_of_ble_eq_true rfl⟩ (f_failsF _ _ _) ?_
        rw [hI_2]
        refine ex_b rfl rfl (fun q => absurd q (fun q => q rfl)) (fun _ => ?_)
        iterate 6 refine ex_s rfl ?_
        refine ex_c rfl rfl ⟨Nat.le_of_ble_eq_true rfl, Nat.le_of_ble_eq_true rfl⟩ (IR) ?_
        refine ex_c rfl rfl ⟨Nat.le_of_ble_eq_true rfl, Nat.le_of_ble_eq_true rfl⟩ (f_failsF _ _ _) ?_
        rw [hI_2]
        refine ex_b rfl rfl (fun _ => ?_) (fun q => absurd rfl q)
        refine ex_s rfl ?_
        refine ex_xc rfl rfl ⟨Nat.le_of_ble_eq_true rfl, Nat.le_of_ble_eq_true rfl⟩ (C) (fun rv9 h9 p9 => ?_)
        obtain ⟨rfl, p9⟩ := p9
        have T9 := f_sawT (d + 1) (kind := kind) (len := nI L) (rack := rack) h9 (by rw [p9.2.2.2.1]; exact hw) (by rw [p9.2.2.2.1]; exact hC) rfl hL1 (by omega) (by rw [p9.2.2.2.1]; exact eT) hT1 (by omega)
        rw [p9.2.2.2.1, p9.2.2.2.2.1] at T9
        exact ex_sub (sub4 rfl rfl rfl rfl) (ex_of T9 ⟨⟨_, rfl, fun _ => rfl⟩, OpP_set p9⟩)
      · have e : sawC (h.1 1) kind len rack = 3 := by unfold sawC; rw [if_neg (fun q => q c1), if_neg (fun q => q c2), if_pos c3]
        rw [if_neg c3, if_neg c3] at IR
        unfold sawR9 sawW9
        rw [e, if_pos rfl, if_pos rfl, if_neg (by decide), if_neg (by decide), decide_eq_false (by decide), Bool.false_and]
        show WX _ _ 0 [(0, _), (1, _), (2, _), (3, _)] [] _ _
        iterate 5 refine ex_s rfl ?_
        refine ex_c rfl rfl ⟨Nat.le_of_ble_eq_true rfl, Nat.le_of_ble_eq_true rfl⟩ (B1) ?_
        refine ex_b rfl rfl (fun _ => ?_) (fun q => absurd (bI_ne.mpr c1) q)
        refine ex_s rfl ?_
        refine ex_c rfl rfl ⟨Nat.le_of_ble_eq_true rfl, Nat.le_of_ble_eq_true rfl⟩ (f_failsF _ _ _) ?_
        refine ex_b rfl rfl (fun q => absurd q (fun q => q rfl)) (fun _ => ?_)
        iterate 5 refine ex_s rfl ?_
        refine ex_c rfl rfl ⟨Nat.le_of_ble_eq_true rfl, Nat.le_of_ble_eq_true rfl⟩ (B2) ?_
        refine ex_b rfl rfl (fun q => absurd q (fun q => bI_eq.mp q c2.1)) (fun _ => ?_)
        iterate 3 refine ex_s rfl ?_
        refine ex_c rfl rfl ⟨Nat.le_of_ble_eq_true rfl, Nat.le_of_ble_eq_true rfl⟩ (B3) ?_
        refine ex_b rfl rfl (fun _ => ?_) (fun q => absurd (bI_ne.mpr c2.2) q)
        refine ex_s rfl ?_
        refine ex_c rfl rfl ⟨Nat.le_of_ble_eq_true rfl, Nat.le_of_ble_eq_true rfl⟩ (f_failsF _ _ _) ?_
        rw [hI_2]
        refine ex_b rfl rfl (fun q => absurd q (fun q => q rfl)) (fun _ => ?_)
        iterate 6 refine ex_s rfl ?_
        refine ex_c rfl rfl ⟨Nat.le_of_ble_eq_true rfl, Nat.le_of_ble_eq_true rfl⟩ (IR) ?_
        refine ex_c rfl rfl ⟨Nat.le_of_ble_eq_true rfl, Nat.le_of_ble_eq_true rfl⟩ (f_failsT _ _ _) ?_
        refine ex_b rfl rfl (fun q => absurd q (by decide)) (fun _ => ?_)
        refine ex_s rfl ?_
        refine ex_q rfl ?_
        refine ⟨⟨_, rfl, fun q => absurd q (by decide)⟩, by rw [hI_at, upd_eq], by rw [hI_at, upd_ne (by decide), hI_at, upd_ne (by decide), hI_at, upd_eq], by rw [hI_at, upd_ne (by decide), hI_at, upd_eq], by rw [hI_ne (by decide), hI_ne (by decide), hI_ne (by decide), hI_ne (by decide)], rfl, ((HSame.hI0 (by decide)).tr (HSame.hI0 (by decide))).tr ((HSame.hI0 (by decide)).tr (HSame.hI0 (by decide))), ((FrO.hI0 (by decide)).tr (FrO.hI0 (by decide))).tr ((FrO.hI0 (by decide)).tr (FrO.hI0 (by decide)))⟩
    · have e : sawC (h.1 1) kind len rack = 2 := by unfold sawC; rw [if_neg (fun q => q c1), if_pos c2]
      unfold sawR9 sawW9
      rw [e, if_neg (by decide), if_neg (by decide), if_neg (by decide), if_neg (by decide), decide_eq_false (by decide), Bool.false_and]
      by_cases c3 : 0 ≤ kind ∧ kind ≤ 1
      · show WX _ _ 0 [(0, _), (1, _), (2, _), (3, _)] [] _ _
        iterate 5 refine ex_s rfl ?_
        refine ex_c rfl rfl ⟨Nat.le_of_ble_eq_true rfl, Nat.le_of_ble_eq_true rfl⟩ (B1) ?_
        refine ex_b rfl rfl (fun _ => ?_) (fun q => absurd (bI_ne.mpr c1) q)
        refine ex_s rfl ?_
        refine ex_c rfl rfl ⟨Nat.le_of_ble_eq_true rfl, Nat.le_of_ble_eq_true rfl⟩ (f_failsF _ _ _) ?_
        refine ex_b rfl rfl (fun q => absurd q (fun q => q rfl)) (fun _ => ?_)
        iterate 5 refine ex_s rfl ?_
        refine ex_c rfl rfl ⟨Nat.le_of_ble_eq_true rfl, Nat.le_of_ble_eq_true rfl⟩ (B2) ?_
        refine ex_b rfl rfl (fun q => absurd q (fun q => bI_eq.mp q c3)) (fun _ => ?_)
        iterate 3 refine ex_s rfl ?_
        refine ex_c rfl rfl ⟨Nat.le_of_ble_eq_true rfl, Nat.le_of_ble_eq_true rfl⟩ (B3) ?_
        refine ex_b rfl rfl (fun q => absurd q (fun q => q (bI_eq.mpr (fun z => c2 ⟨c3, z⟩)))) (fun _ => ?_)
        refine ex_s rfl ?_
        refine ex_g rfl rfl ?_
        refine ex_c rfl rfl ⟨Nat.le_of_ble_eq_true rfl, Nat.le_of_ble_eq_true rfl⟩ (f_failsT _ _ _) ?_
        rw [hI_2]
        refine ex_b rfl rfl (fun _ => ?_) (fun q => absurd (by decide) q)
        refine ex_s rfl ?_
        refine ex_q rfl ?_
        exact ⟨⟨_, rfl, fun q => absurd q (by decide)⟩, OpP_x⟩
      · show WX _ _ 0 [(0, _), (1, _), (2, _), (3, _)] [] _ _
        iterate 5 refine ex_s rfl ?_
        refine ex_c rfl rfl ⟨Nat.le_of_ble_eq_true rfl, Nat.le_of_ble_eq_true rfl⟩ (B1) ?_
        refine ex_b rfl rfl (fun _ => ?_) (fun q => absurd (bI_ne.mpr c1) q)
        refine ex_s rfl ?_
        refine ex_c rfl rfl ⟨Nat.le_of_ble_eq_true rfl, Nat.le_of_ble_eq_true rfl⟩ (f_failsF _ _ _) ?_
        refine ex_b rfl rfl (fun q => absurd q (fun q => q rfl)) (fun _ => ?_)
        iterate 5 refine ex_s rfl ?_
        refine ex_c rfl rfl ⟨Nat.le_of_ble_eq_true rfl, Nat.le_of_ble_eq_true rfl⟩ (B2) ?_
        refine ex_b rfl rfl (fun _ => ?_) (fun q => absurd (bI_eq.mpr c3) q)
        refine ex_s rfl ?_
        refine ex_g rfl rfl ?_
        refine ex_c rfl rfl ⟨Nat.le_of_ble_eq_true rfl, Nat.le_of_ble_eq_true rfl⟩ (f_failsT _ _ _) ?_
        rw [hI_2]
        refine ex_b rfl rfl (fun _ => ?_) (fun q => absurd (by decide) q)
        refine ex_s rfl ?_
        refine ex_q rfl ?_
        exact ⟨⟨_, rfl, fun q => absurd q (by decide)⟩, OpP_x⟩
  · have e : sawC (h.1 1) kind len rack = 1 := by unfold sawC; rw [if_pos c1]
    unfold sawR9 sawW9
    rw [e, if_neg (by decide), if_neg (by decide), if_neg (by decide), if_neg (by decide), decide_eq_false (by decide), Bool.false_and]
    show WX _ _ 0 [(0, _), (1, _), (2, _), (3, _)] [] _ _
    iterate 5 refine ex_s rfl ?_
    refine ex_c rfl rfl ⟨Nat.le_of_ble_eq_true rfl, Nat.le_of_ble_eq_true rfl⟩ (B1) ?_
    refine ex_b rfl rfl (fun q => absurd q (fun q => q (bI_eq.mpr c1))) (fun _ => ?_)
    refine ex_s rfl ?_
    refine ex_g rfl rfl ?_
    refine ex_c rfl rfl ⟨Nat.le_of_ble_eq_true rfl, Nat.le_of_ble_eq_true rfl⟩ (f_failsT _ _ _) ?_
    refine ex_b rfl rfl (fun _ => ?_) (fun q => absurd (by decide) q)
    refine ex_s rfl ?_
    refine ex_q rfl ?_
    exact ⟨⟨_, rfl, fun q => absurd q (by decide)⟩, OpP_x⟩
end
