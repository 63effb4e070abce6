-- needs: 83
noncomputable section
theorem p_borne0 (d : Nat) {h : AH} {r : Nat → Int32} {w : Nat → UInt32} (P : Pal h 32 r w) {b : Nat} (h40 : CN r ≤ 40) (hb : b < CN r) (hs : ¬ ofB r b 2 = 1) : EvM (d + 1) mX5_borneBy [.ref 32, .int (nI b)] h (some (.float 0)) h := by
  have W := p_isOnWall d palL32 (b := b) (by omega) h
  rw [P.st hb] at W
  show EvR _ _ 0 [(0, _), (1, _)] [] _ _ _
  iterate 2 refine er_s rfl ?_
  refine er_c rfl rfl ⟨Nat.le_of_ble_eq_true rfl, Nat.le_of_ble_eq_true rfl⟩ (W) ?_
  refine er_b rfl rfl (fun q => absurd q (fun z => z (bI_eq.mpr hs))) (fun _ => ?_)
  refine er_s rfl ?_
  refine er_q rfl ?_ ?_
  · rfl
  · rfl
def qvF (r : Nat → Int32) (w : Nat → UInt32) : Option Nat → UInt32
  | none => 0
  | some b => qtF r w b
theorem p_worst_loop (d : Nat) {h : AH} {r : Nat → Int32} {w : Nat → UInt32} (P : Pal h 32 r w) (hw : Wel r) (hm : MasW r w) (hl : ∀ b, b < CN r → ofB r b 2 = 1 → h.2.1 97 b = LDw r w b) : ∀ (m i : Nat), i + m = CN r → EvR (d + 2) mX5_mostBurdened 7 [(0, .ref 96), (1, .ref 32), (2, .int (oI (wstN r w i))), (3, .float (qvF r w (wstN r w i))), (4, .int (nI i))] [] h (some (.int (oI (wstN r w (CN r))))) h
  | 0, i, hi => by
    have h40 := hw.2.1
    have hi : i = CN r := by omega
    subst hi
    by_cases h4 : CN r < 40
    · iterate 2 refine er_s rfl ?_
      refine er_b rfl rfl (fun q => absurd q (nI_ge (b := 40) h4 (by decide))) (fun _ => ?_)
      iterate 3 refine er_s rfl ?_
      refine er_b rfl rfl (fun _ => ?_) (fun q => absurd (by rw [P.hd (by decide), hw.1]; exact Int32.le_refl _) q)
      refine er_s rfl ?_
      refine er_q rfl ?_ ?_
      · rfl
      · rfl
    · iterate 2 refine er_s rfl ?_
      refine er_b rfl rfl (fun _ => ?_) (fun q => absurd (nI_le (a := 40) (by omega) (by omega)) q)
      refine er_s rfl ?_
      refine er_q rfl ?_ ?_
      · rfl
      · rfl
  | m + 1, i, hi => by
    have h40 := hw.2.1
    have IH := p_worst_loop d P hw hm hl m (i + 1) (by omega)
    have e : wstN r w (i + 1) = wstS r w i (wstN r w i) := rfl
    unfold wstS at e
    have W := p_isOnWall (d + 1) palL32 (b := i) (by omega) h
    rw [P.st (by omega)] at W
    by_cases c1 : ofB r i 2 = 1
    · rw [if_pos c1] at e
      have B1 := p_borneBy (d + 0) palL32 P hw hm (b := i) (by omega) c1
      have ok := (hw.2.2 i (by omega)).2 c1
      have bo := born_ok (kd := KD r i) (j := JT r i) (hm i (by omega) c1) (by have := ok.2.2.2.2.2; omega)
      have el : h.2.1 97 i = LDw r w i := hl i (by omega) c1
      have n1 := qt_nn hw hm (b := i) (by omega) c1
      have cb : ¬ Op.cmpValue (FP.fcmp (bornR r w i) 0) .l ≤ 0 := by
        have z : FP.fcmp (bornR r w i) 0 = some (compare (bornR r w i).toNat (0 : UInt32).toNat) := fcmp_b (Nat.le_of_lt bo.2.1) (by decide)
        have g : compare (bornR r w i).toNat (0 : UInt32).toNat = .gt := Nat.compare_eq_gt.mpr (Nat.lt_of_lt_of_le (by decide) bo.2.2.1)
        rw [z, g]
        decide
      cases hs : wstN r w i with
      | none =>
        rw [hs] at e
        rw [e] at IH
        iterate 2 refine er_s rfl ?_
        refine er_b rfl rfl (fun q => absurd q (nI_ge (b := 40) (by omega) (by decide))) (fun _ => ?_)
        iterate 3 refine er_s rfl ?_
        refine er_b rfl rfl (fun q => absurd q (by rw [P.hd (by decide), hw.1]; exact nI_ge (by omega) (by omega))) (fun _ => ?_)
        iterate 2 refine er_s rfl ?_
        refine er_c rfl rfl ⟨Nat.le_of_ble_eq_true rfl, Nat.le_of_ble_eq_true rfl⟩ (B1) ?_
        iterate 3 refine er_s rfl ?_
        refine er_c rfl rfl ⟨Nat.le_of_ble_eq_true rfl, Nat.le_of_ble_eq_true rfl⟩ (W) ?_
        refine er_b rfl rfl (fun q => absurd q (fun z => absurd z (bI_ne.mpr c1))) (fun _ => ?_)
        iterate 3 refine er_s rfl ?_
        refine er_b rfl rfl (fun q => absurd q cb) (fun _ => ?_)
        iterate 3 refine er_s rfl ?_
        refine er_fl rfl rfl (vi) ?_
        rw [cl i, el]
        refine er_s rfl ?_
        refine er_fdiv rfl n1 ?_
        iterate 2 refine er_s rfl ?_
        refine er_b rfl rfl (fun _ => ?_) (fun q => absurd (by decide) q)
        iterate 5 refine er_s rfl ?_
        refine er_g rfl rfl ?_
        rw [nI_1]
        exact er_sub (sub5 rfl rfl rfl rfl rfl) IH
      | some b =>
        rw [hs] at e
        dsimp at e
        obtain ⟨hb, hbs⟩ := wstN_ok i b hs
        by_cases c2 : 0 < Op.cmpValue (FP.fcmp (qtF r w i) (qtF r w b)) .l
        · rw [if_pos c2] at e
          rw [e] at IH
          iterate 2 refine er_s rfl ?_
          refine er_b rfl rfl (fun q => absurd q (nI_ge (b := 40) (by omega) (by decide))) (fun _ => ?_)
          iterate 3 refine er_s rfl ?_
          refine er_b rfl rfl (fun q => absurd q (by rw [P.hd (by decide), hw.1]; exact nI_ge (by omega) (by omega))) (fun _ => ?_)
          iterate 2 refine er_s rfl ?_
          refine er_c rfl rfl ⟨Nat.le_of_ble_eq_true rfl, Nat.le_of_ble_eq_true rfl⟩ (B1) ?_
          iterate 3 refine er_s rfl ?_
          refine er_c rfl rfl ⟨Nat.le_of_ble_eq_true rfl, Nat.le_of_ble_eq_true rfl⟩ (W) ?_
          refine er_b rfl rfl (fun q => absurd q (fun z => absurd z (bI_ne.mpr c1))) (fun _ => ?_)
          iterate 3 refine er_s rfl ?_
          refine er_b rfl rfl (fun q => absurd q cb) (fun _ => ?_)
          iterate 3 refine er_s rfl ?_
          refine er_fl rfl rfl (vi) ?_
          rw [cl i, el]
          refine er_s rfl ?_
          refine er_fdiv rfl n1 ?_
          iterate 2 refine er_s rfl ?_
          refine er_b rfl rfl (fun q => absurd q (lt0 (by omega))) (fun _ => ?_)
          iterate 3 refine er_s rfl ?_
          refine er_b rfl rfl (fun q => absurd q (Int32.not_le.mpr c2)) (fun _ => ?_)
          iterate 5 refine er_s rfl ?_
          refine er_g rfl rfl ?_
          rw [nI_1]
          exact er_sub (sub5 rfl rfl rfl rfl rfl) IH
        · rw [if_neg c2] at e
          rw [e] at IH
          iterate 2 refine er_s rfl ?_
          refine er_b rfl rfl (fun q => absurd q (nI_ge (b := 40) (by omega) (by decide))) (fun _ => ?_)
          iterate 3 refine er_s rfl ?_
          refine er_b rfl rfl (fun q => absurd q (by rw [P.hd (by decide), hw.1]; exact nI_ge (by omega) (by omega))) (fun _ => ?_)
          iterate 2 refine er_s rfl ?_
          refine er_c rfl rfl ⟨Nat.le_of_ble_eq_true rfl, Nat.le_of_ble_eq_true rfl⟩ (B1) ?_
          iterate 3 refine er_s rfl ?_
          refine er_c rfl rfl ⟨Nat.le_of_ble_eq_true rfl, Nat.le_of_ble_eq_true rfl⟩ (W) ?_
          refine er_b rfl rfl (fun q => absurd q (fun z => absurd z (bI_ne.mpr c1))) (fun _ => ?_)
          iterate 3 refine er_s rfl ?_
          refine er_b rfl rfl (fun q => absurd q cb) (fun _ => ?_)
          iterate 3 refine er_s rfl ?_
          refine er_fl rfl rfl (vi) ?_
          rw [cl i, el]
          refine er_s rfl ?_
          refine er_fdiv rfl n1 ?_
          iterate 2 refine er_s rfl ?_
          refine er_b rfl rfl (fun q => absurd q (lt0 (by omega))) (fun _ => ?_)
          iterate 3 refine er_s rfl ?_
          refine er_b rfl rfl (fun _ => ?_) (fun q => absurd (Int32.not_lt.mp c2) q)
          refine er_s rfl ?_
          refine er_g rfl rfl ?_
          rw [nI_1]
          exact er_sub (sub5 rfl rfl rfl rfl rfl) IH
    · rw [if_neg c1] at e
      rw [e] at IH
      have B0 := p_borne0 (d + 0) P h40 (b := i) (by omega) c1
      iterate 2 refine er_s rfl ?_
      refine er_b rfl rfl (fun q => absurd q (nI_ge (b := 40) (by omega) (by decide))) (fun _ => ?_)
      iterate 3 refine er_s rfl ?_
      refine er_b rfl rfl (fun q => absurd q (by rw [P.hd (by decide), hw.1]; exact nI_ge (by omega) (by omega))) (fun _ => ?_)
      iterate 2 refine er_s rfl ?_
      refine er_c rfl rfl ⟨Nat.le_of_ble_eq_true rfl, Nat.le_of_ble_eq_true rfl⟩ (B0) ?_
      iterate 3 refine er_s rfl ?_
      refine er_c rfl rfl ⟨Nat.le_of_ble_eq_true rfl, Nat.le_of_ble_eq_true rfl⟩ (W) ?_
      refine er_b rfl rfl (fun _ => ?_) (fun q => absurd (bI_eq.mpr c1) q)
      refine er_s rfl ?_
      refine er_g rfl rfl ?_
      rw [nI_1]
      exact er_sub (sub5 rfl rfl rfl rfl rfl) IH
theorem p_mostBurdened (d : Nat) {h : AH} {r : Nat → Int32} {w : Nat → UInt32} (P : Pal h 32 r w) (hw : Wel r) (hm : MasW r w) (hl : ∀ b, b < CN r → ofB r b 2 = 1 → h.2.1 97 b = LDw r w b) : EvM (d + 2) mX5_mostBurdened [.ref 96, .ref 32] h (some (.int (oI (wstN r w (CN r))))) h := by
  have Z := p_worst_loop d P hw hm hl (CN r) 0 (by omega)
  show EvR _ _ 0 [(0, _), (1, _)] [] _ _ _
  iterate 6 refine er_s rfl ?_
  exact er_sub (sub5 rfl rfl rfl rfl rfl) Z
end
