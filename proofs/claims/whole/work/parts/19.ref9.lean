-- needs: 18
noncomputable section
def fallS (c k : Nat) (r : Nat → Int32) : Nat → Int32 := if (decide (ofB r k 2 = 1) && decide (ofB r k 4 = nI c) && decide (¬ LN r k ≤ 2 * supN r k)) = true then goesR r k 4 else r
def fallC (c n : Nat) (r : Nat → Int32) : Nat → Int32 := iterN (fallS c) n r
def fallI (i : Nat) (r : Nat → Int32) : Nat → Int32 := iterN (fun i r => fallC (i + 1) (CN r) r) i r
abbrev fallR (r : Nat → Int32) : Nat → Int32 := fallI 7 r
theorem fallC_WC {r0 r : Nat → Int32} {c : Nat} (h : WC r0 r) : ∀ n, n ≤ CN r0 → WC r0 (fallC c n r) :=
  iterN_inv (I := fun _ t => WC r0 t) h (fun k t hk ht => by
    unfold fallS
    split
    · exact ht.goes hk
    · exact ht)
theorem fallI_WC {r0 r : Nat → Int32} (h : WC r0 r) : ∀ i, i ≤ 7 → WC r0 (fallI i r) :=
  iterN_inv (I := fun _ t => WC r0 t) h (fun k t hk ht => fallC_WC ht _ (by rw [ht.2.1]; exact Nat.le_refl _))
theorem f_fall_in (d : Nat) (h : AH) (c : Nat) (hc8 : c < 8) (w : Nat → UInt32) (r : Nat → Int32) (hw : Wel r) {h' : AH} (K : EvR (d + 5) mX11_fall 58 [(0, .ref 0), (1, .int (nI c))] [] (setR h (fallC c (CN r) r) w) none h') : ∀ (m k : Nat), k + m = CN r → EvR (d + 5) mX11_fall 10 [(0, .ref 0), (1, .int (nI c)), (2, .int (nI k))] [] (setR h (fallC c k r) w) none h'
  | 0, k, hk => by
    have hk : k = CN r := by omega
    have h40 := hw.2.1
    have hc := fallC_WC (c := c) (WC.rf hw) (CN r) (Nat.le_refl _)
    subst hk
    iterate 4 refine er_s rfl ?_
    refine er_il rfl rfl (vi (k := 4)) ?_
    rw [k4, setR_1, hc.1.1, hc.2.1]
    refine er_b rfl rfl (fun _ => ?_) (fun q => absurd (Int32.le_refl _) q)
    exact er_sub (sub2 rfl rfl) K
  | m + 1, k, hk => by
    have h40 := hw.2.1
    have IH := f_fall_in d h c hc8 w r hw K m (k + 1) (by omega)
    have es : fallC c (k + 1) r = if (decide (ofB (fallC c k r) k 2 = 1) && decide (ofB (fallC c k r) k 4 = nI c) && decide (¬ LN (fallC c k r) k ≤ 2 * supN (fallC c k r) k)) = true then goesR (fallC c k r) k 4 else fallC c k r := rfl
    rw [es] at IH
    have hc := fallC_WC (c := c) (WC.rf hw) k (by omega)
    obtain ⟨lk, pk⟩ := hc.1.2.2 k (by rw [hc.2.1]; omega)
    generalize fallC c k r = R at IH hc lk pk ⊢
    have G := f_goes (d + 2) (b := k) (by omega) 4 (setR h R w) (by rw [setR_1]; exact lk) (by rw [setR_1]; exact pk)
    have S := fun q : PlOk R k => f_isSupported (d + 0) (b := k) (by omega) (setR h R w) (by rw [setR_1]; exact lk) (by rw [setR_1]; exact q)
    rw [setR_1, setR_5, setR_R] at G
    rw [setR_1] at S
    by_cases hs : ofB R k 2 = 1
    · by_cases hq : ofB R k 4 = nI c
      · by_cases hl : LN R k ≤ 2 * supN R k
        · rw [if_neg (by rw [decide_eq_false (p := ¬ LN R k ≤ 2 * supN R k) (fun q => q hl), Bool.and_false]; decide)] at IH
          iterate 4 refine er_s rfl ?_
          refine er_il rfl rfl (vi (k := 4)) ?_
          rw [k4, setR_1, hc.1.1, hc.2.1]
          refine er_b rfl rfl (fun q => absurd q (nI_ge (by omega) (by omega))) (fun _ => ?_)
          iterate 2 refine er_s rfl ?_
          refine er_c rfl rfl ⟨Nat.le_of_ble_eq_true rfl, Nat.le_of_ble_eq_true rfl⟩ (f_isOnWall _ (b := k) (by omega) _) ?_
          refine er_b rfl rfl (fun q => absurd q (fun q => absurd (bI_eq.mp q) (fun z => z (by rw [setR_1]; exact hs)))) (fun _ => ?_)
          iterate 3 refine er_s rfl ?_
          refine er_c rfl rfl ⟨Nat.le_of_ble_eq_true rfl, Nat.le_of_ble_eq_true rfl⟩ (f_of _ (b := k) (by omega) (x := 4) (by omega) _) ?_
          refine er_s rfl ?_
          refine er_b rfl rfl (fun q => absurd q (fun q => q (by rw [setR_1]; exact hq))) (fun _ => ?_)
          iterate 2 refine er_s rfl ?_
          refine er_c rfl rfl ⟨Nat.le_of_ble_eq_true rfl, Nat.le_of_ble_eq_true rfl⟩ (S (pk hs)) ?_
          refine er_b rfl rfl (fun _ => ?_) (fun q => absurd (bI_ne.mpr hl) q)
          refine er_s rfl ?_
          refine er_g rfl rfl ?_
          rw [nI_1]
          exact er_sub (sub3 rfl rfl rfl) IH
        · rw [if_pos (by rw [decide_eq_true hs, decide_eq_true hq, decide_eq_true hl]; rfl)] at IH
          iterate 4 refine er_s rfl ?_
          refine er_il rfl rfl (vi (k := 4)) ?_
          rw [k4, setR_1, hc.1.1, hc.2.1]
          refine er_b rfl rfl (fun q => absurd q (nI_ge (by omega) (by omega))) (fun _ => ?_)
          iterate 2 refine er_s rfl ?_
          refine er_c rfl rfl ⟨Nat.le_of_ble_eq_true rfl, Nat.le_of_ble_eq_true rfl⟩ (f_isOnWall _ (b := k) (by omega) _) ?_
          refine er_b rfl rfl (fun q => absurd q (fun q => absurd (bI_eq.mp q) (fun z => z (by rw [setR_1]; exact hs)))) (fun _ => ?_)
          iterate 3 refine er_s rfl ?_
          refine er_c rfl rfl ⟨Nat.le_of_ble_eq_true rfl, Nat.le_of_ble_eq_true rfl⟩ (f_of _ (b := k) (by omega) (x := 4) (by omega) _) ?_
          refine er_s rfl ?_
          refine er_b rfl rfl (fun q => absurd q (fun q => q (by rw [setR_1]; exact hq))) (fun _ => ?_)
          iterate 2 refine er_s rfl ?_
          refine er_c rfl rfl ⟨Nat.le_of_ble_eq_true rfl, Nat.le_of_ble_eq_true rfl⟩ (S (pk hs)) ?_
          refine er_b rfl rfl (fun q => absurd q (fun q => q (bI_eq.mpr hl))) (fun _ => ?_)
          iterate 3 refine er_s rfl ?_
          refine er_c rfl rfl ⟨Nat.le_of_ble_eq_true rfl, Nat.le_of_ble_eq_true rfl⟩ (G) ?_
          refine er_s rfl ?_
          refine er_g rfl rfl ?_
          rw [nI_1]
          exact er_sub (sub3 rfl rfl rfl) IH
      · rw [if_neg (by rw [decide_eq_false hq, Bool.and_false, Bool.false_and]; decide)] at IH
        iterate 4 refine er_s rfl ?_
        refine er_il rfl rfl (vi (k := 4)) ?_
        rw [k4, setR_1, hc.1.1, hc.2.1]
        refine er_b rfl rfl (fun q => absurd q (nI_ge (by omega) (by omega))) (fun _ => ?_)
        iterate 2 refine er_s rfl ?_
        refine er_c rfl rfl ⟨Nat.le_of_ble_eq_true rfl, Nat.le_of_ble_eq_true rfl⟩ (f_isOnWall _ (b := k) (by omega) _) ?_
        refine er_b rfl rfl (fun q => absurd q (fun q => absurd (bI_eq.mp q) (fun z => z (by rw [setR_1]; exact hs)))) (fun _ => ?_)
        iterate 3 refine er_s rfl ?_
        refine er_c rfl rfl ⟨Nat.le_of_ble_eq_true rfl, Nat.le_of_ble_eq_true rfl⟩ (f_of _ (b := k) (by omega) (x := 4) (by omega) _) ?_
        refine er_s rfl ?_
        refine er_b rfl rfl (fun _ => ?_) (fun q => absurd (by rw [setR_1]; exact hq) q)
        refine er_s rfl ?_
        refine er_g rfl rfl ?_
        rw [nI_1]
        exact er_sub (sub3 rfl rfl rfl) IH
    · rw [if_neg (by rw [decide_eq_false hs, Bool.false_and, Bool.false_and]; decide)] at IH
      iterate 4 refine er_s rfl ?_
      refine er_il rfl rfl (vi (k := 4)) ?_
      rw [k4, setR_1, hc.1.1, hc.2.1]
      refine er_b rfl rfl (fun q => absurd q (nI_ge (by omega) (by omega))) (fun _ => ?_)
      iterate 2 refine er_s rfl ?_
      refine er_c rfl rfl ⟨Nat.le_of_ble_eq_true rfl, Nat.le_of_ble_eq_true rfl⟩ (f_isOnWall _ (b := k) (by omega) _) ?_
      refine er_b rfl rfl (fun _ => ?_) (fun q => absurd (bI_eq.mpr (by rw [setR_1]; exact hs)) q)
      refine er_s rfl ?_
      refine er_g rfl rfl ?_
      rw [nI_1]
      exact er_sub (sub3 rfl rfl rfl) IH
theorem f_fall_out (d : Nat) (h : AH) (w : Nat → UInt32) (r : Nat → Int32) (hw : Wel r) : ∀ (m i : Nat), i + m = 7 → EvR (d + 5) mX11_fall 2 [(0, .ref 0), (1, .int (nI (i + 1)))] [] (setR h (fallI i r) w) none (setR h (fallR r) w)
  | 0, i, hi => by
    have hi : i = 7 := by omega
    subst hi
    iterate 2 refine er_s rfl ?_
    refine er_b rfl rfl (fun _ => ?_) (fun q => absurd (by decide) q)
    refine er_q rfl ?_ ?_
    · rfl
    · rfl
  | m + 1, i, hi => by
    have IH := f_fall_out d h w r hw m (i + 1) (by omega)
    have K : EvR (d + 5) mX11_fall 58 [(0, .ref 0), (1, .int (nI (i + 1)))] [] (setR h (fallC (i + 1) (CN (fallI i r)) (fallI i r)) w) none (setR h (fallR r) w) := by
      refine er_s rfl ?_
      refine er_g rfl rfl ?_
      rw [nI_1]
      exact er_sub (sub2 rfl rfl) IH
    have L := f_fall_in d h (i + 1) (by omega) w (fallI i r) (fallI_WC (WC.rf hw) i (by omega)).1 K (CN (fallI i r)) 0 (by omega)
    iterate 2 refine er_s rfl ?_
    refine er_b rfl rfl (fun q => absurd q (nI_ge (b := 8) (by omega) (by omega))) (fun _ => ?_)
    iterate 2 refine er_s rfl ?_
    exact er_sub (sub3 rfl rfl rfl) L
theorem f_fall (d : Nat) (h : AH) (hw : Wel (h.1 1)) : EvM (d + 5) mX11_fall [.ref 0] h none (setR h (fallR (h.1 1)) (h.2.1 5)) := by
  have Z := f_fall_out d h (h.2.1 5) (h.1 1) hw 7 0 rfl
  rw [show fallI 0 (h.1 1) = h.1 1 from rfl, setR_self] at Z
  show EvR _ _ 0 [(0, _)] [] _ _ _
  iterate 2 refine er_s rfl ?_
  exact er_sub (sub2 rfl rfl) Z
/-- a block that bears less than its load -/
def ovP (r : Nat → Int32) (w : Nat → UInt32) : Nat → Bool := fun k => decide (ofB r k 2 = 1) && decide (0 < Op.cmpValue (FP.fcmp (LDw r w k) (bornR r w k)) .l)
abbrev ovN (r : Nat → Int32) (w : Nat → UInt32) : Nat := fstP (ovP r w) (CN r) (CN r) 0
theorem f_ov_loop (d : Nat) (h : AH) (hw : Wel (h.1 1)) (hm : MasW (h.1 1) (h.2.1 5)) (ld : Nat → UInt32) : ∀ (m k : Nat), k + m = CN (h.1 1) → EvR (d + 6) mX11_overloaded 6 [(0, .ref 0), (1, .int (nI k))] [] (hFr h 27 (loadsR (h.1 1) (h.2.1 5) ld)) (some (.int (orM (fstP (ovP (h.1 1) (h.2.1 5)) (CN (h.1 1)) m k) (CN (h.1 1))))) (hFr h 27 (loadsR (h.1 1) (h.2.1 5) ld))
  | 0, k, hk => by
    have hk : k = CN (h.1 1) := by omega
    have h40 := hw.2.1
    iterate 4 refine er_s rfl ?_
    refine er_il rfl rfl (vi (k := 4)) ?_
    refine er_b rfl rfl (fun _ => ?_) (fun q => absurd (by show h.1 1 4 ≤ nI k; rw [hw.1, hk]; exact Int32.le_refl _) q)
    refine er_s rfl ?_
    refine er_q rfl ?_ ?_
    · show _ = some (Value.int (orM (CN (h.1 1)) (CN (h.1 1))))
      rw [orM_n]
    · rfl
  | m + 1, k, hk => by
    have h40 := hw.2.1
    have IH := f_ov_loop d h hw hm ld m (k + 1) (by omega)
    by_cases hs : ofB (h.1 1) k 2 = 1
    · have pk := (hw.2.2 k (by omega)).2 hs
      have B := f_borne (d + 4) (b := k) (by omega) (hFr h 27 (loadsR (h.1 1) (h.2.1 5) ld)) pk (by rw [hFr_ne _ _ (show (5 : Nat) ≠ 27 by decide)]; exact hm k (by omega) hs)
      rw [hFr_ne _ _ (show (5 : Nat) ≠ 27 by decide)] at B
      have e : ovP (h.1 1) (h.2.1 5) k = decide (0 < Op.cmpValue (FP.fcmp (LDw (h.1 1) (h.2.1 5) k) (bornR (h.1 1) (h.2.1 5) k)) .l) := by unfold ovP; rw [decide_eq_true hs, Bool.true_and]
      by_cases hq : ovP (h.1 1) (h.2.1 5) k = true
      · rw [fstP_t hq, orM_t (by omega)]
        rw [e] at hq
        iterate 4 refine er_s rfl ?_
        refine er_il rfl rfl (vi (k := 4)) ?_
        refine er_b rfl rfl (fun q => absurd q (by show ¬ h.1 1 4 ≤ nI k; rw [hw.1]; exact nI_ge (by omega) (by omega))) (fun _ => ?_)
        iterate 2 refine er_s rfl ?_
        refine er_c rfl rfl ⟨Nat.le_of_ble_eq_true rfl, Nat.le_of_ble_eq_true rfl⟩ (f_isOnWall _ (b := k) (by omega) _) ?_
        refine er_b rfl rfl (fun q => absurd q (fun q => absurd (bI_eq.mp q) (fun z => z hs))) (fun _ => ?_)
        iterate 3 refine er_s rfl ?_
        refine er_fl rfl rfl (vi) ?_
        iterate 2 refine er_s rfl ?_
        refine er_c rfl rfl ⟨Nat.le_of_ble_eq_true rfl, Nat.le_of_ble_eq_true rfl⟩ (B) ?_
        rw [hFr_27, cl k, loadsR_at hw hm (by omega) hs]
        refine er_s rfl ?_
        refine er_b rfl rfl (fun q => absurd q (Int32.not_le.mpr (of_decide_eq_true hq))) (fun _ => ?_)
        refine er_s rfl ?_
        refine er_q rfl ?_ ?_
        · rfl
        · rfl
      · rw [fstP_f hq]
        rw [e] at hq
        iterate 4 refine er_s rfl ?_
        refine er_il rfl rfl (vi (k := 4)) ?_
        refine er_b rfl rfl (fun q => absurd q (by show ¬ h.1 1 4 ≤ nI k; rw [hw.1]; exact nI_ge (by omega) (by omega))) (fun _ => ?_)
        iterate 2 refine er_s rfl ?_
        refine er_c rfl rfl ⟨Nat.le_of_ble_eq_true rfl, Nat.le_of_ble_eq_true rfl⟩ (f_isOnWall _ (b := k) (by omega) _) ?_
        refine er_b rfl rfl (fun q => absurd q (fun q => absurd (bI_eq.mp q) (fun z => z hs))) (fun _ => ?_)
        iterate 3 refine er_s rfl ?_
        refine er_fl rfl rfl (vi) ?_
        iterate 2 refine er_s rfl ?_
        refine er_c rfl rfl ⟨Nat.le_of_ble_eq_true rfl, Nat.le_of_ble_eq_true rfl⟩ (B) ?_
        rw [hFr_27, cl k, loadsR_at hw hm (by omega) hs]
        refine er_s rfl ?_
        refine er_b rfl rfl (fun _ => ?_) (fun q => absurd (Int32.not_lt.mp (fun q => hq (decide_eq_true q))) q)
        refine er_s rfl ?_
        refine er_g rfl rfl ?_
        rw [nI_1]
        exact er_sub (sub2 rfl rfl) IH
    · rw [fstP_f (by unfold ovP; rw [decide_eq_false hs, Bool.false_and]; decide)]
      iterate 4 refine er_s rfl ?_
      refine er_il rfl rfl (vi (k := 4)) ?_
      refine er_b rfl rfl (fun q => absurd q (by show ¬ h.1 1 4 ≤ nI k; rw [hw.1]; exact nI_ge (by omega) (by omega))) (fun _ => ?_)
      iterate 2 refine er_s rfl ?_
      refine er_c rfl rfl ⟨Nat.le_of_ble_eq_true rfl, Nat.le_of_ble_eq_true rfl⟩ (f_isOnWall _ (b := k) (by omega) _) ?_
      refine er_b rfl rfl (fun _ => ?_) (fun q => absurd (bI_eq.mpr hs) q)
      refine er_s rfl ?_
      refine er_g rfl rfl ?_
      rw [nI_1]
      exact er_sub (sub2 rfl rfl) IH
theorem f_over (d : Nat) (h : AH) (hw : Wel (h.1 1)) (hm : MasW (h.1 1) (h.2.1 5)) : EvM (d + 6) mX11_overloaded [.ref 0] h (some (.int (orM (ovN (h.1 1) (h.2.1 5)) (CN (h.1 1))))) (hFr h 27 (loadsR (h.1 1) (h.2.1 5) (h.2.1 27))) := by
  have Z := f_ov_loop d h hw hm (h.2.1 27) (CN (h.1 1)) 0 (by omega)
  show EvR _ _ 0 [(0, _)] [] _ _ _
  refine er_s rfl ?_
  refine er_c rfl rfl ⟨Nat.le_of_ble_eq_true rfl, Nat.le_of_ble_eq_true rfl⟩ (f_findLoads _ h hw hm) ?_
  iterate 2 refine er_s rfl ?_
  exact er_sub (sub2 rfl rfl) Z
/-- how many blocks have a state -/
abbrev cntS (r : Nat → Int32) (s : Int32) (n : Nat) : Nat := cntP (fun k => decide (ofB r k 2 = s)) n
theorem f_countState (d : Nat) (s : Int32) (h : AH) (hw : Wel (h.1 1)) : EvM (d + 1) mX11_countState [.ref 0, .int s] h (some (.int (nI (cntS (h.1 1) s (CN (h.1 1)))))) h := by
  have h40 := hw.2.1
  have L : ∀ (m k : Nat), k + m = CN (h.1 1) → EvR (d + 1) mX11_countState 4 [(0, .ref 0), (1, .int s), (2, .int (nI (cntS (h.1 1) s k))), (3, .int (nI k))] [] h (some (.int (nI (cntS (h.1 1) s (CN (h.1 1)))))) h := by
    intro m
    induction m with
    | zero =>
      intro k hk
      iterate 4 refine er_s rfl ?_
      refine er_il rfl rfl (vi (k := 4)) ?_
      refine er_b rfl rfl (fun _ => ?_) (fun q => absurd (by show h.1 1 4 ≤ nI k; rw [hw.1, show k = CN (h.1 1) by omega]; exact Int32.le_refl _) q)
      refine er_s rfl ?_
      refine er_q rfl ?_ ?_
      · rw [show k = CN (h.1 1) by omega]
      · rfl
    | succ m ih =>
      intro k hk
      have IH := ih (k + 1) (by omega)
      iterate 4 refine er_s rfl ?_
      refine er_il rfl rfl (vi (k := 4)) ?_
      refine er_b rfl rfl (fun q => absurd q (by show ¬ h.1 1 4 ≤ nI k; rw [hw.1]; exact nI_ge (by omega) (by omega))) (fun _ => ?_)
      iterate 4 refine er_s rfl ?_
      refine er_c rfl rfl ⟨Nat.le_of_ble_eq_true rfl, Nat.le_of_ble_eq_true rfl⟩ (f_of _ (b := k) (by omega) (x := 2) (by omega) _) ?_
      refine er_s rfl ?_
      refine er_b rfl rfl (fun c22 => ?_) (fun c22 => ?_)
      · iterate 4 refine er_s rfl ?_
        refine er_g rfl rfl ?_
        rw [cnt_f (p := fun k => decide (ofB (h.1 1) k 2 = s)) (fun q => c22 (of_decide_eq_true q)), nI_1]
        exact er_sub (sub4 rfl rfl rfl rfl) IH
      · refine er_s rfl ?_
        refine er_g rfl rfl ?_
        iterate 3 refine er_s rfl ?_
        refine er_g rfl rfl ?_
        rw [cnt_t (p := fun k => decide (ofB (h.1 1) k 2 = s)) (decide_eq_true (Decidable.not_not.mp c22)), nI_1]
        exact er_sub (sub4 rfl rfl rfl rfl) IH
  have Z := L (CN (h.1 1)) 0 (by omega)
  show EvR _ _ 0 [(0, _), (1, _)] [] _ _ _
  iterate 4 refine er_s rfl ?_
  exact er_sub (sub4 rfl rfl rfl rfl) Z
end
