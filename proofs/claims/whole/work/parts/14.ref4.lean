-- needs: 13
noncomputable section
/-- what giveOn does to the loads -/
def giveR (r : Nat → Int32) (w ld : Nat → UInt32) (k m : Nat) : Nat → UInt32 := fun b => if b < m ∧ (ofB r b 2 = 1 ∧ ofB r b 4 = ofB r k 4 - 1 ∧ 0 < colsN r k b) then FP.fadd (ld b) (shareF (w k) (ld k) (colsN r k b) (supN r k)) else ld b
theorem giveR_0 {r : Nat → Int32} {w ld : Nat → UInt32} {k : Nat} : giveR r w ld k 0 = ld := by
  funext b
  exact if_neg (fun q => Nat.not_lt_zero _ q.1)
theorem giveR_f {r : Nat → Int32} {w ld : Nat → UInt32} {k m : Nat} (h : ¬ (ofB r m 2 = 1 ∧ ofB r m 4 = ofB r k 4 - 1 ∧ 0 < colsN r k m)) : giveR r w ld k (m + 1) = giveR r w ld k m := by
  funext b
  unfold giveR
  by_cases hb : b = m
  · subst hb
    rw [if_neg (fun q => h q.2), if_neg (fun q => h q.2)]
  · by_cases hc : b < m ∧ (ofB r b 2 = 1 ∧ ofB r b 4 = ofB r k 4 - 1 ∧ 0 < colsN r k b)
    · rw [if_pos hc, if_pos ⟨by omega, hc.2⟩]
    · rw [if_neg hc, if_neg (fun q => hc ⟨by omega, q.2⟩)]
theorem giveR_t {r : Nat → Int32} {w ld : Nat → UInt32} {k m : Nat} (h : ofB r m 2 = 1 ∧ ofB r m 4 = ofB r k 4 - 1 ∧ 0 < colsN r k m) : giveR r w ld k (m + 1) = vf_upd (giveR r w ld k m) m (FP.fadd (ld m) (shareF (w k) (ld k) (colsN r k m) (supN r k))) := by
  funext b
  by_cases hb : b = m
  · subst hb
    simp only [giveR, vf_upd]
    rw [if_pos ⟨Nat.lt_succ_self _, h⟩, if_pos trivial]
  · simp only [giveR, vf_upd]
    rw [if_neg hb]
    by_cases hc : b < m ∧ (ofB r b 2 = 1 ∧ ofB r b 4 = ofB r k 4 - 1 ∧ 0 < colsN r k b)
    · rw [if_pos hc, if_pos ⟨by omega, hc.2⟩]
    · rw [if_neg hc, if_neg (fun q => hc ⟨by omega, q.2⟩)]
theorem ne_pred (x : Int32) : ¬ x = x - 1 := by
  intro h
  have h2 : x.toBitVec = x.toBitVec - 1#32 := congrArg Int32.toBitVec h
  generalize x.toBitVec = z at h2
  bv_omega
theorem giveR_ge {r : Nat → Int32} {w ld : Nat → UInt32} {k m b : Nat} (h : m ≤ b) : giveR r w ld k m b = ld b := if_neg (fun q => by omega)
theorem giveR_k {r : Nat → Int32} {w ld : Nat → UInt32} {k m : Nat} : giveR r w ld k m k = ld k := if_neg (fun q => ne_pred _ q.2.2.1)
theorem hFr_27 (h : AH) (f : Nat → UInt32) : (hFr h 27 f).2.1 27 = f := by funext j; simp [hFr]
theorem hFr_ne (h : AH) (f : Nat → UInt32) {k a : Nat} (ha : a ≠ k) : (hFr h k f).2.1 a = h.2.1 a := by funext j; simp [hFr, ha]
theorem hFr_hFr (h : AH) (k : Nat) (f g : Nat → UInt32) : hFr (hFr h k f) k g = hFr h k g := by
  refine Prod.ext rfl (Prod.ext ?_ rfl)
  funext a j
  by_cases ha : a = k <;> simp [hFr, ha]
theorem hF_r (h : AH) (k i : Nat) (x : UInt32) (f : Nat → UInt32) : hF (hFr h k f) k i x = hFr h k (vf_upd f i x) := by
  refine Prod.ext rfl (Prod.ext ?_ rfl)
  funext a j
  by_cases ha : a = k
  · subst ha
    by_cases hj : j = i <;> simp [hFr, hF, vf_upd, hj]
  · simp [hFr, hF, ha]
theorem hFr_self (h : AH) (k : Nat) : hFr h k (h.2.1 k) = h := by
  obtain ⟨g, f, z⟩ := h
  refine Prod.ext rfl (Prod.ext ?_ rfl)
  funext a j
  by_cases ha : a = k <;> simp [hFr, ha]
theorem hI_one (h : AH) (f : Nat → UInt32) (k : Nat) : (hFr h k f).1 = h.1 := rfl
/-- what giveOn meets is no NaN -/
def giveNN (r : Nat → Int32) (w ld : Nat → UInt32) (k : Nat) : Prop := ∀ m, m < CN r → (ofB r m 2 = 1 ∧ ofB r m 4 = ofB r k 4 - 1 ∧ 0 < colsN r k m) → nn (FP.fadd (w k) (ld k)) ∧ nn (FP.fmul (FP.fadd (w k) (ld k)) (FP.i2f (nI (colsN r k m)))) ∧ nn (shareF (w k) (ld k) (colsN r k m) (supN r k)) ∧ nn (FP.fadd (ld m) (shareF (w k) (ld k) (colsN r k m) (supN r k)))
theorem er_hh {d mi pc : Nat} {lc : LC} {st : List Value} {h h2 h' : AH} {v : Option Value} (e : h = h2) (K : EvR d mi pc lc st h2 v h') : EvR d mi pc lc st h v h' := e ▸ K
theorem f_giveOn_loop (d : Nat) {a : Nat} (h : AH) (hw : Wel (h.1 1)) (ha : a < CN (h.1 1)) (hs : ofB (h.1 1) a 2 = 1) (hc : 0 < CU (h.1 1) a) (hN : giveNN (h.1 1) (h.2.1 5) (h.2.1 27) a) : ∀ (m k : Nat), k + m = CN (h.1 1) → EvR (d + 4) mX11_giveOn 2 [(0, .ref 0), (1, .int (nI a)), (2, .int (nI k))] [] (hFr h 27 (giveR (h.1 1) (h.2.1 5) (h.2.1 27) a k)) none (hFr h 27 (giveR (h.1 1) (h.2.1 5) (h.2.1 27) a (CN (h.1 1))))
  | 0, k, hk => by
    have hk : k = CN (h.1 1) := by omega
    have h40 := hw.2.1
    iterate 4 refine er_s rfl ?_
    refine er_il rfl rfl (vi (k := 4)) ?_
    refine er_b rfl rfl (fun _ => ?_) (fun q => absurd (by show h.1 1 4 ≤ nI k; rw [hw.1, hk]; exact Int32.le_refl _) q)
    refine er_q rfl ?_ ?_
    · rfl
    · rw [hk]
  | m + 1, k, hk => by
    have h40 := hw.2.1
    obtain ⟨la, pa⟩ := hw.2.2 a ha
    have pa := pa hs
    have l7 := colsN_le (b := k) la
    by_cases hq : ofB (h.1 1) k 2 = 1 ∧ ofB (h.1 1) k 4 = ofB (h.1 1) a 4 - 1 ∧ 0 < colsN (h.1 1) a k
    · obtain ⟨n1, n2, n3, n4⟩ := hN k (by omega) hq
      iterate 4 refine er_s rfl ?_
      refine er_il rfl rfl (vi (k := 4)) ?_
      refine er_b rfl rfl (fun q => absurd q (by show ¬ h.1 1 4 ≤ nI k; rw [hw.1]; exact nI_ge (by omega) (by omega))) (fun _ => ?_)
      iterate 2 refine er_s rfl ?_
      refine er_c rfl rfl ⟨Nat.le_of_ble_eq_true rfl, Nat.le_of_ble_eq_true rfl⟩ (f_isOnWall _ (b := k) (by omega) _) ?_
      refine er_b rfl rfl (fun q => absurd q (fun q => absurd (bI_eq.mp q) (fun z => z hq.1))) (fun _ => ?_)
      iterate 3 refine er_s rfl ?_
      refine er_c rfl rfl ⟨Nat.le_of_ble_eq_true rfl, Nat.le_of_ble_eq_true rfl⟩ (f_of _ (b := k) (by omega) (x := 4) (by omega) _) ?_
      iterate 3 refine er_s rfl ?_
      refine er_c rfl rfl ⟨Nat.le_of_ble_eq_true rfl, Nat.le_of_ble_eq_true rfl⟩ (f_of _ (b := a) (by omega) (x := 4) (by omega) _) ?_
      iterate 2 refine er_s rfl ?_
      refine er_b rfl rfl (fun q => absurd q (fun q => q hq.2.1)) (fun _ => ?_)
      iterate 3 refine er_s rfl ?_
      refine er_c rfl rfl ⟨Nat.le_of_ble_eq_true rfl, Nat.le_of_ble_eq_true rfl⟩ (f_columnsOn _ (a := a) (b := k) (by omega) (by omega) _ la pa hc) ?_
      refine er_b rfl rfl (fun q => absurd q (show ¬ nI (colsN (h.1 1) a k) ≤ 0 from nI_nle hq.2.2 (by omega))) (fun _ => ?_)
      iterate 4 refine er_s rfl ?_
      refine er_fl rfl rfl (vi) ?_
      iterate 3 refine er_s rfl ?_
      refine er_fl rfl rfl (vi) ?_
      iterate 3 refine er_s rfl ?_
      refine er_fl rfl rfl (vi) ?_
      rw [hFr_27, hFr_ne _ _ (show (5 : Nat) ≠ 27 by decide), cl k, cl a, giveR_k, giveR_ge (Nat.le_refl k)]
      refine er_fadd rfl n1 ?_
      iterate 3 refine er_s rfl ?_
      refine er_c rfl rfl ⟨Nat.le_of_ble_eq_true rfl, Nat.le_of_ble_eq_true rfl⟩ (f_columnsOn _ (a := a) (b := k) (by omega) (by omega) _ la pa hc) ?_
      refine er_s rfl ?_
      refine er_fmul rfl n2 ?_
      iterate 2 refine er_s rfl ?_
      refine er_c rfl rfl ⟨Nat.le_of_ble_eq_true rfl, Nat.le_of_ble_eq_true rfl⟩ (f_supported _ (b := a) (by omega) _ la pa) ?_
      refine er_s rfl ?_
      refine er_fdiv rfl n3 ?_
      refine er_fadd rfl n4 ?_
      refine er_fs rfl rfl (vi) ?_
      refine er_s rfl ?_
      refine er_g rfl rfl ?_
      rw [nI_1, cl k, hF_r]
      refine er_hh (congrArg (hFr h 27) (giveR_t hq).symm) ?_
      exact er_sub (sub3 rfl rfl rfl) (f_giveOn_loop d h hw ha hs hc hN m (k + 1) (by omega))
    · have K := f_giveOn_loop d h hw ha hs hc hN m (k + 1) (by omega)
      rw [giveR_f hq] at K
      iterate 4 refine er_s rfl ?_
      refine er_il rfl rfl (vi (k := 4)) ?_
      refine er_b rfl rfl (fun q => absurd q (by show ¬ h.1 1 4 ≤ nI k; rw [hw.1]; exact nI_ge (by omega) (by omega))) (fun _ => ?_)
      iterate 2 refine er_s rfl ?_
      refine er_c rfl rfl ⟨Nat.le_of_ble_eq_true rfl, Nat.le_of_ble_eq_true rfl⟩ (f_isOnWall _ (b := k) (by omega) _) ?_
      refine er_b rfl rfl (fun c17 => ?_) (fun c17 => ?_)
      · refine er_s rfl ?_
        refine er_g rfl rfl ?_
        rw [nI_1]
        exact er_sub (sub3 rfl rfl rfl) K
      · iterate 3 refine er_s rfl ?_
        refine er_c rfl rfl ⟨Nat.le_of_ble_eq_true rfl, Nat.le_of_ble_eq_true rfl⟩ (f_of _ (b := k) (by omega) (x := 4) (by omega) _) ?_
        iterate 3 refine er_s rfl ?_
        refine er_c rfl rfl ⟨Nat.le_of_ble_eq_true rfl, Nat.le_of_ble_eq_true rfl⟩ (f_of _ (b := a) (by omega) (x := 4) (by omega) _) ?_
        iterate 2 refine er_s rfl ?_
        refine er_b rfl rfl (fun c34 => ?_) (fun c34 => ?_)
        · refine er_s rfl ?_
          refine er_g rfl rfl ?_
          rw [nI_1]
          exact er_sub (sub3 rfl rfl rfl) K
        · iterate 3 refine er_s rfl ?_
          refine er_c rfl rfl ⟨Nat.le_of_ble_eq_true rfl, Nat.le_of_ble_eq_true rfl⟩ (f_columnsOn _ (a := a) (b := k) (by omega) (by omega) _ la pa hc) ?_
          refine er_b rfl rfl (fun c43 => ?_) (fun c43 => ?_)
          · refine er_s rfl ?_
            refine er_g rfl rfl ?_
            rw [nI_1]
            exact er_sub (sub3 rfl rfl rfl) K
          · exact absurd ⟨bI_ne.mp c17, Decidable.not_not.mp c34, Nat.pos_of_ne_zero (fun z => c43 (show nI (colsN (h.1 1) a k) ≤ 0 by rw [z]; decide))⟩ hq
theorem f_giveOn (d : Nat) {a : Nat} (h : AH) (hw : Wel (h.1 1)) (ha : a < CN (h.1 1)) (hs : ofB (h.1 1) a 2 = 1) (hc : 0 < CU (h.1 1) a) (hN : giveNN (h.1 1) (h.2.1 5) (h.2.1 27) a) : EvM (d + 4) mX11_giveOn [.ref 0, .int (nI a)] h none (hFr h 27 (giveR (h.1 1) (h.2.1 5) (h.2.1 27) a (CN (h.1 1)))) := by
  have K := f_giveOn_loop d h hw ha hs hc hN (CN (h.1 1)) 0 (by omega)
  rw [giveR_0, hFr_self] at K
  show EvR _ _ 0 [(0, _), (1, _)] [] _ _ _
  iterate 2 refine er_s rfl ?_
  exact er_sub (sub3 rfl rfl rfl) K
end
