-- needs: 10
noncomputable section
/-- the heap with the reference's row and masses put anew -/
def setR (h : AH) (r : Nat → Int32) (w : Nat → UInt32) : AH := (fun a j => if a = 1 then r j else h.1 a j, fun a j => if a = 5 then w j else h.2.1 a j, h.2.2)
theorem setR_1 (h : AH) (r : Nat → Int32) (w : Nat → UInt32) : (setR h r w).1 1 = r := by funext j; simp [setR]
theorem setR_5 (h : AH) (r : Nat → Int32) (w : Nat → UInt32) : (setR h r w).2.1 5 = w := by funext j; simp [setR]
theorem setR_n (h : AH) (r : Nat → Int32) (w : Nat → UInt32) {a : Nat} (ha : a ≠ 1) : (setR h r w).1 a = h.1 a := by funext j; simp [setR, ha]
theorem setR_m (h : AH) (r : Nat → Int32) (w : Nat → UInt32) {a : Nat} (ha : a ≠ 5) : (setR h r w).2.1 a = h.2.1 a := by funext j; simp [setR, ha]
theorem setR_self (h : AH) : setR h (h.1 1) (h.2.1 5) = h := by
  obtain ⟨g, f, z⟩ := h
  refine Prod.ext ?_ (Prod.ext ?_ rfl)
  · funext a j
    by_cases ha : a = 1 <;> simp [setR, ha]
  · funext a j
    by_cases ha : a = 5 <;> simp [setR, ha]
theorem setR_R (h : AH) (r r' : Nat → Int32) (w w' : Nat → UInt32) : setR (setR h r w) r' w' = setR h r' w' := by
  refine Prod.ext ?_ (Prod.ext ?_ rfl)
  · funext a j
    by_cases ha : a = 1 <;> simp [setR, ha]
  · funext a j
    by_cases ha : a = 5 <;> simp [setR, ha]
theorem hI_R (h : AH) (i : Nat) (x : Int32) : hI h 1 i x = setR h (upd (h.1 1) i x) (h.2.1 5) := by
  refine Prod.ext ?_ (Prod.ext ?_ rfl)
  · funext a j
    by_cases ha : a = 1
    · subst ha
      by_cases hj : j = i <;> simp [setR, hI, upd, hj]
    · simp [setR, hI, ha]
  · funext a j
    by_cases ha : a = 5 <;> simp [setR, hI, ha]
theorem hF_R (h : AH) (i : Nat) (x : UInt32) : hF h 5 i x = setR h (h.1 1) (vf_upd (h.2.1 5) i x) := by
  refine Prod.ext ?_ (Prod.ext ?_ rfl)
  · funext a j
    by_cases ha : a = 1 <;> simp [setR, hF, ha]
  · funext a j
    by_cases ha : a = 5
    · subst ha
      by_cases hj : j = i <;> simp [setR, hF, vf_upd, hj]
    · simp [setR, hF, ha]
/-- how many k below n have p -/
def cntP (p : Nat → Bool) : Nat → Nat
  | 0 => 0
  | n + 1 => cntP p n + if p n = true then 1 else 0
theorem cntP_le (p : Nat → Bool) (n : Nat) : cntP p n ≤ n := by
  induction n with
  | zero => exact Nat.le_refl _
  | succ n ih => unfold cntP; split <;> omega
theorem cntP_congr {p q : Nat → Bool} {n : Nat} (h : ∀ k, k < n → p k = q k) : cntP p n = cntP q n := by
  induction n with
  | zero => rfl
  | succ n ih => unfold cntP; rw [ih (fun k hk => h k (by omega)), h n (by omega)]
theorem vi {k N : Nat} (h : k < N := by omega) (h2 : N < 2 ^ 31 := by omega) : vp_in (nI k) N := vp_in_nI h h2
theorem f_isHour (d : Nat) (x : Int32) (h : AH) : EvM (d + 1) mX11_isHour [.int x] h (some (.int (bI (0 ≤ x ∧ x ≤ 23)))) h := by
  show EvR _ _ 0 [(0, _)] [] _ _ _
  iterate 3 refine er_s rfl ?_
  refine er_c rfl rfl ⟨Nat.le_of_ble_eq_true rfl, Nat.le_of_ble_eq_true rfl⟩ (f_isBetween _ _ _ _ _) ?_
  refine er_q (ret_bK rfl kOk_bI) ?_ ?_
  · rfl
  · rfl
theorem f_isBlock (d : Nat) (x : Int32) (h : AH) : EvM (d + 1) mX11_isBlock [.ref 0, .int x] h (some (.int (bI (0 ≤ x ∧ x ≤ h.1 1 4 - 1)))) h := by
  show EvR _ _ 0 [(0, _), (1, _)] [] _ _ _
  iterate 5 refine er_s rfl ?_
  refine er_il rfl rfl (vi (k := 4)) ?_
  iterate 2 refine er_s rfl ?_
  refine er_c rfl rfl ⟨Nat.le_of_ble_eq_true rfl, Nat.le_of_ble_eq_true rfl⟩ (f_isBetween _ _ _ _ _) ?_
  refine er_q (ret_bK rfl kOk_bI) ?_ ?_
  · rfl
  · rfl
theorem f_isOnWall (d : Nat) {b : Nat} (hb : b < 40) (h : AH) : EvM (d + 1) mX11_isOnWall [.ref 0, .int (nI b)] h (some (.int (bI (ofB (h.1 1) b 2 = 1)))) h := by
  show EvR _ _ 0 [(0, _), (1, _)] [] _ _ _
  iterate 3 refine er_s rfl ?_
  refine er_c rfl rfl ⟨Nat.le_of_ble_eq_true rfl, Nat.le_of_ble_eq_true rfl⟩ (f_of _ hb (x := 2) (by omega) _) ?_
  refine er_s rfl ?_
  refine er_b rfl rfl (fun c7 => ?_) (fun c7 => ?_)
  · refine er_s rfl ?_
    refine er_q rfl ?_ ?_
    · first | exact st_f c7 | exact st_t (by simpa using c7)
    · rfl
  · refine er_s rfl ?_
    refine er_g rfl rfl ?_
    refine er_q rfl ?_ ?_
    · first | exact st_f c7 | exact st_t (by simpa using c7)
    · rfl
theorem f_gridAt (d : Nat) {c j : Nat} (hc : c < 8) (hj : j < 100) (h : AH) : EvM d mX11_gridAt [.ref 0, .int (nI j), .int (nI c)] h (some (.int (gAt (h.1 1) c j))) h := by
  show EvR _ _ 0 [(0, _), (1, _), (2, _)] [] _ _ _
  iterate 9 refine er_s rfl ?_
  rw [ix_g]
  refine er_il rfl rfl (vi) ?_
  refine er_q rfl ?_ ?_
  · rw [cl _]
  · rfl
theorem f_isFilled (d : Nat) {c j : Nat} (hc : c < 9) (hj : j < 100) (h : AH) : EvM (d + 1) mX11_isFilled [.ref 0, .int (nI j), .int (nI c)] h (some (.int (bI (c < 8 ∧ 0 ≤ gAt (h.1 1) c j)))) h := by
  by_cases h8 : c < 8
  · show EvR _ _ 0 [(0, _), (1, _), (2, _)] [] _ _ _
    iterate 2 refine er_s rfl ?_
    refine er_b rfl rfl (fun q => absurd q (nI_ge (b := 8) h8 (by omega))) (fun _ => ?_)
    iterate 3 refine er_s rfl ?_
    refine er_c rfl rfl ⟨Nat.le_of_ble_eq_true rfl, Nat.le_of_ble_eq_true rfl⟩ (f_gridAt _ h8 hj _) ?_
    refine er_b rfl rfl (fun c12 => ?_) (fun c12 => ?_)
    · refine er_s rfl ?_
      refine er_q rfl ?_ ?_
      · first | exact st_f (fun q => nlt q.2 c12) | exact st_t ⟨h8, le_of c12⟩
      · rfl
    · refine er_s rfl ?_
      refine er_g rfl rfl ?_
      refine er_q rfl ?_ ?_
      · first | exact st_f (fun q => nlt q.2 c12) | exact st_t ⟨h8, le_of c12⟩
      · rfl
  · show EvR _ _ 0 [(0, _), (1, _), (2, _)] [] _ _ _
    iterate 2 refine er_s rfl ?_
    refine er_b rfl rfl (fun _ => ?_) (fun q => absurd (nI_le (a := 8) (Nat.not_lt.mp h8) (by omega)) q)
    refine er_s rfl ?_
    refine er_q rfl ?_ ?_
    · exact st_f (fun q => h8 q.1)
    · rfl
/-- v at L places of a course -/
def fillR (r : Nat → Int32) (c j L : Nat) (v : Int32) : Nat → Int32 := fun i => if 29 + 12 * c + j ≤ i ∧ i < 29 + 12 * c + j + L then v else r i
theorem fillR_0 (r : Nat → Int32) (c j : Nat) (v : Int32) : fillR r c j 0 v = r := by
  funext i
  unfold fillR
  rw [if_neg (by omega)]
theorem fillR_s (r : Nat → Int32) (c j L : Nat) (v : Int32) : fillR (upd r (29 + 12 * c + j) v) c (j + 1) L v = fillR r c j (L + 1) v := by
  funext i
  unfold fillR upd
  by_cases h1 : i = 29 + 12 * c + j
  · rw [if_neg (by omega), if_pos h1, if_pos (by omega)]
  · by_cases h2 : 29 + 12 * c + (j + 1) ≤ i ∧ i < 29 + 12 * c + (j + 1) + L
    · rw [if_pos h2, if_pos (by omega)]
    · rw [if_neg h2, if_neg h1, if_neg (by omega)]
theorem f_fill_loop (d : Nat) {c j L : Nat} (hc : c < 8) (hj : j + L ≤ 12) (v : Int32) : ∀ (m k : Nat) (h : AH), k + m = L → EvR d mX11_fill 3 [(0, .ref 0), (1, .int (nI j)), (2, .int (nI c)), (3, .int (nI L)), (4, .int v), (5, .int (nI k))] [] h none (setR h (fillR (h.1 1) c (j + k) m v) (h.2.1 5))
  | 0, k, h, hk => by
    iterate 2 refine er_s rfl ?_
    refine er_b rfl rfl (fun _ => ?_) (fun q => absurd (nI_le (by omega) (by omega)) q)
    refine er_q rfl ?_ ?_
    · rfl
    · rw [fillR_0, setR_self]
  | m + 1, k, h, hk => by
    iterate 2 refine er_s rfl ?_
    refine er_b rfl rfl (fun q => absurd q (nI_ge (by omega) (by omega))) (fun _ => ?_)
    iterate 12 refine er_s rfl ?_
    rw [ix_g, nI_add]
    refine er_is rfl rfl (vi) ?_
    refine er_s rfl ?_
    refine er_g rfl rfl ?_
    rw [nI_1, cl _]
    refine er_sub (sub6 rfl rfl rfl rfl rfl rfl) (er_cast (f_fill_loop d hc hj v m (k + 1) _ (by omega)) rfl ?_)
    rw [hI_R, setR_1, setR_5, setR_R, ← fillR_s, show 29 + 12 * c + j + k = 29 + 12 * c + (j + k) by omega, show j + (k + 1) = j + k + 1 by omega]
theorem f_fill (d : Nat) {c j L : Nat} (hc : c < 8) (hj : j + L ≤ 12) (v : Int32) (h : AH) : EvM d mX11_fill [.ref 0, .int (nI j), .int (nI c), .int (nI L), .int v] h none (setR h (fillR (h.1 1) c j L v) (h.2.1 5)) := by
  show EvR _ _ 0 [(0, _), (1, _), (2, _), (3, _), (4, _)] [] _ _ _
  iterate 2 refine er_s rfl ?_
  exact er_sub (sub6 rfl rfl rfl rfl rfl rfl) (f_fill_loop d hc hj v L 0 h (by omega))
theorem sv {x y : Int32} (h : x = y) : some (Value.int x) = some (Value.int y) := by rw [h]
theorem cnt_t {p : Nat → Bool} {k : Nat} (h : p k = true) : nI (cntP p k) + 1 = nI (cntP p (k + 1)) := by
  rw [nI_1]
  show _ = nI (cntP p k + if p k = true then 1 else 0)
  rw [if_pos h]
theorem cnt_f {p : Nat → Bool} {k : Nat} (h : ¬ p k = true) : nI (cntP p k) + 0 = nI (cntP p (k + 1)) := by
  rw [Int32.add_zero]
  show _ = nI (cntP p k + if p k = true then 1 else 0)
  rw [if_neg h, Nat.add_zero]
theorem nI_z {c : Nat} (hc : c < 2 ^ 31) : nI c = 0 ↔ c = 0 := nI_eq (b := 0) hc (by omega)
theorem nI_m1 {c : Nat} (h : 0 < c) : nI c - 1 = nI (c - 1) := pk_sub (b := 1) h
/-- of the places j .. of a course those that are filled in the course below -/
def supP (r : Nat → Int32) (c j : Nat) : Nat → Bool := fun k => decide (c = 0 ∨ 0 ≤ gAt r (c - 1) (j + k))
theorem f_supAt_loop (d : Nat) {c j L : Nat} (hc : c < 8) (hj : j + L < 50) (h : AH) : ∀ (m k : Nat), k + m = L → EvR (d + 2) mX11_supportedAt 6 [(0, .ref 0), (1, .int (nI j)), (2, .int (nI c)), (3, .int (nI L)), (4, .int (nI (cntP (supP (h.1 1) c j) k))), (5, .int (nI k))] [] h (some (.int (nI (cntP (supP (h.1 1) c j) L)))) h
  | 0, k, hk => by
    have hk : k = L := by omega
    subst hk
    iterate 2 refine er_s rfl ?_
    refine er_b rfl rfl (fun _ => ?_) (fun q => absurd (Int32.le_refl _) q)
    refine er_s rfl ?_
    refine er_q rfl ?_ ?_
    · rfl
    · rfl
  | m + 1, k, hk => by
    have hcm := cntP_le (supP (h.1 1) c j) k
    iterate 2 refine er_s rfl ?_
    refine er_b rfl rfl (fun q => absurd q (nI_ge (by omega) (by omega))) (fun _ => ?_)
    iterate 2 refine er_s rfl ?_
    refine er_b rfl rfl (fun c15 => ?_) (fun c15 => ?_)
    · refine er_s rfl ?_
      refine er_g rfl rfl ?_
      iterate 3 refine er_s rfl ?_
      refine er_g rfl rfl ?_
      rw [cnt_t (p := supP (h.1 1) c j) (decide_eq_true (Or.inl ((nI_z (by omega)).mp c15))), nI_1]
      exact er_sub (sub6 rfl rfl rfl rfl rfl rfl) (f_supAt_loop d hc hj h m (k + 1) (by omega))
    · iterate 7 refine er_s rfl ?_
      have hc0 : c ≠ 0 := fun q => c15 ((nI_z (by omega)).mpr q)
      rw [nI_add, nI_m1 (by omega)]
      refine er_c rfl rfl ⟨Nat.le_of_ble_eq_true rfl, Nat.le_of_ble_eq_true rfl⟩ (f_isFilled _ (c := c - 1) (j := j + k) (by omega) (by omega) _) ?_
      refine er_b rfl rfl (fun c29 => ?_) (fun c29 => ?_)
      · iterate 4 refine er_s rfl ?_
        refine er_g rfl rfl ?_
        rw [cnt_f (p := supP (h.1 1) c j) (fun q => bI_eq.mp c29 ⟨by omega, ((of_decide_eq_true q).resolve_left hc0)⟩), nI_1]
        exact er_sub (sub6 rfl rfl rfl rfl rfl rfl) (f_supAt_loop d hc hj h m (k + 1) (by omega))
      · refine er_s rfl ?_
        refine er_g rfl rfl ?_
        iterate 3 refine er_s rfl ?_
        refine er_g rfl rfl ?_
        rw [cnt_t (p := supP (h.1 1) c j) (decide_eq_true (Or.inr (bI_ne.mp c29).2)), nI_1]
        exact er_sub (sub6 rfl rfl rfl rfl rfl rfl) (f_supAt_loop d hc hj h m (k + 1) (by omega))
theorem f_supAt (d : Nat) {c j L : Nat} (hc : c < 8) (hj : j + L < 50) (h : AH) : EvM (d + 2) mX11_supportedAt [.ref 0, .int (nI j), .int (nI c), .int (nI L)] h (some (.int (nI (cntP (supP (h.1 1) c j) L)))) h := by
  show EvR _ _ 0 [(0, _), (1, _), (2, _), (3, _)] [] _ _ _
  iterate 4 refine er_s rfl ?_
  exact er_sub (sub6 rfl rfl rfl rfl rfl rfl) (f_supAt_loop d hc hj h L 0 (by omega))
/-- a block's numbers, as numbers -/
abbrev LN (r : Nat → Int32) (b : Nat) : Nat := (ofB r b 1).toNatClampNeg
abbrev CO (r : Nat → Int32) (b : Nat) : Nat := (ofB r b 3).toNatClampNeg
abbrev CU (r : Nat → Int32) (b : Nat) : Nat := (ofB r b 4).toNatClampNeg
abbrev JT (r : Nat → Int32) (b : Nat) : Nat := (ofB r b 5).toNatClampNeg
def LnOk (r : Nat → Int32) (b : Nat) : Prop := ofB r b 1 = nI (LN r b) ∧ 1 ≤ LN r b ∧ LN r b ≤ 6
def PlOk (r : Nat → Int32) (b : Nat) : Prop := ofB r b 3 = nI (CO r b) ∧ CO r b + LN r b ≤ 12 ∧ ofB r b 4 = nI (CU r b) ∧ CU r b ≤ 7 ∧ ofB r b 5 = nI (JT r b) ∧ JT r b ≤ 9
/-- its supported columns -/
def supN (r : Nat → Int32) (b : Nat) : Nat := cntP (supP r (CU r b) (CO r b)) (LN r b)
theorem f_supported (d : Nat) {b : Nat} (hb : b < 40) (h : AH) (h1 : LnOk (h.1 1) b) (h2 : PlOk (h.1 1) b) : EvM (d + 3) mX11_supported [.ref 0, .int (nI b)] h (some (.int (nI (supN (h.1 1) b)))) h := by
  obtain ⟨l1, l2, l3⟩ := h1
  obtain ⟨p1, p2, p3, p4, p5, p6⟩ := h2
  show EvR _ _ 0 [(0, _), (1, _)] [] _ _ _
  iterate 4 refine er_s rfl ?_
  refine er_c rfl rfl ⟨Nat.le_of_ble_eq_true rfl, Nat.le_of_ble_eq_true rfl⟩ (f_of _ hb (x := 3) (by omega) _) ?_
  iterate 3 refine er_s rfl ?_
  refine er_c rfl rfl ⟨Nat.le_of_ble_eq_true rfl, Nat.le_of_ble_eq_true rfl⟩ (f_of _ hb (x := 4) (by omega) _) ?_
  iterate 3 refine er_s rfl ?_
  refine er_c rfl rfl ⟨Nat.le_of_ble_eq_true rfl, Nat.le_of_ble_eq_true rfl⟩ (f_of _ hb (x := 1) (by omega) _) ?_
  rw [p1, p3, l1]
  refine er_c rfl rfl ⟨Nat.le_of_ble_eq_true rfl, Nat.le_of_ble_eq_true rfl⟩ (f_supAt _ (c := CU (h.1 1) b) (j := CO (h.1 1) b) (L := LN (h.1 1) b) (by omega) (by omega) _) ?_
  refine er_q rfl ?_ ?_
  · rfl
  · rfl
end
