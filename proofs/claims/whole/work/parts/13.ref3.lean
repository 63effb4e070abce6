-- needs: 12
noncomputable section
/-- the first k from a on, below n, with p; n if there is none -/
def fstP (p : Nat → Bool) (n : Nat) : Nat → Nat → Nat
  | 0, _ => n
  | m + 1, k => if p k = true then k else fstP p n m (k + 1)
theorem fstP_t {p : Nat → Bool} {n m k : Nat} (h : p k = true) : fstP p n (m + 1) k = k := if_pos h
theorem fstP_f {p : Nat → Bool} {n m k : Nat} (h : ¬ p k = true) : fstP p n (m + 1) k = fstP p n m (k + 1) := if_neg h
/-- a place's block, as the row tells it -/
def inP (r : Nat → Int32) (rack : Int32) (pl : Int32) : Nat → Bool := fun k => decide (ofB r k 2 = 0 ∧ ofB r k 0 = rack ∧ ofB r k 6 = pl)
/-- k's number, or -1 at n -/
def orM (k n : Nat) : Int32 := if k < n then nI k else -1
theorem orM_t {k n : Nat} (h : k < n) : orM k n = nI k := if_pos h
theorem orM_n {n : Nat} : orM n n = -1 := if_neg (Nat.lt_irrefl n)
theorem fstP_le {p : Nat → Bool} {n : Nat} : ∀ (m k : Nat), k + m = n → fstP p n m k ≤ n ∧ k ≤ fstP p n m k
  | 0, k, h => ⟨Nat.le_refl _, by show k ≤ n; omega⟩
  | m + 1, k, h => by
    unfold fstP
    split
    · exact ⟨by omega, Nat.le_refl _⟩
    · have := fstP_le (p := p) (n := n) m (k + 1) (by omega)
      exact ⟨this.1, by omega⟩
abbrev blkIn (r : Nat → Int32) (rack pl : Int32) : Nat := fstP (inP r rack pl) (CN r) (CN r) 0
theorem f_blockIn_loop (d : Nat) (rack pl : Int32) (h : AH) (hw : Wel (h.1 1)) : ∀ (m k : Nat), k + m = CN (h.1 1) → EvR (d + 1) mX11_blockIn 2 [(0, .ref 0), (1, .int rack), (2, .int pl), (3, .int (nI k))] [] h (some (.int (orM (fstP (inP (h.1 1) rack pl) (CN (h.1 1)) m k) (CN (h.1 1))))) h
  | 0, k, hk => by
    have hk : k = CN (h.1 1) := by omega
    have h40 := hw.2.1
    iterate 4 refine er_s rfl ?_
    refine er_il rfl rfl (vi (k := 4)) ?_
    refine er_b rfl rfl (fun _ => ?_) (fun q => absurd (by show h.1 1 4 ≤ nI k; rw [hw.1, hk]; exact Int32.le_refl _) q)
    refine er_s rfl ?_
    refine er_q rfl ?_ ?_
    · show _ = some (Value.int (orM (CN (h.1 1)) (CN (h.1 1))))
      rw [orM_n]
    · rfl
  | m + 1, k, hk => by
    have h40 := hw.2.1
    iterate 4 refine er_s rfl ?_
    refine er_il rfl rfl (vi (k := 4)) ?_
    refine er_b rfl rfl (fun q => absurd q (by show ¬ h.1 1 4 ≤ nI k; rw [hw.1]; exact nI_ge (by omega) (by omega))) (fun _ => ?_)
    iterate 3 refine er_s rfl ?_
    refine er_c rfl rfl ⟨Nat.le_of_ble_eq_true rfl, Nat.le_of_ble_eq_true rfl⟩ (f_of _ (b := k) (by omega) (x := 2) (by omega) _) ?_
    refine er_b rfl rfl (fun c18 => ?_) (fun c18 => ?_)
    · refine er_s rfl ?_
      refine er_g rfl rfl ?_
      rw [nI_1, fstP_f (fun q => c18 (of_decide_eq_true q).1)]
      exact er_sub (sub4 rfl rfl rfl rfl) (f_blockIn_loop d rack pl h hw m (k + 1) (by omega))
    · iterate 3 refine er_s rfl ?_
      refine er_c rfl rfl ⟨Nat.le_of_ble_eq_true rfl, Nat.le_of_ble_eq_true rfl⟩ (f_of _ (b := k) (by omega) (x := 0) (by omega) _) ?_
      refine er_s rfl ?_
      refine er_b rfl rfl (fun c28 => ?_) (fun c28 => ?_)
      · refine er_s rfl ?_
        refine er_g rfl rfl ?_
        rw [nI_1, fstP_f (fun q => c28 (of_decide_eq_true q).2.1)]
        exact er_sub (sub4 rfl rfl rfl rfl) (f_blockIn_loop d rack pl h hw m (k + 1) (by omega))
      · iterate 3 refine er_s rfl ?_
        refine er_c rfl rfl ⟨Nat.le_of_ble_eq_true rfl, Nat.le_of_ble_eq_true rfl⟩ (f_of _ (b := k) (by omega) (x := 6) (by omega) _) ?_
        refine er_s rfl ?_
        refine er_b rfl rfl (fun c39 => ?_) (fun c39 => ?_)
        · refine er_s rfl ?_
          refine er_g rfl rfl ?_
          rw [nI_1, fstP_f (fun q => c39 (of_decide_eq_true q).2.2)]
          exact er_sub (sub4 rfl rfl rfl rfl) (f_blockIn_loop d rack pl h hw m (k + 1) (by omega))
        · refine er_s rfl ?_
          refine er_q rfl ?_ ?_
          · rw [fstP_t (decide_eq_true ⟨Decidable.not_not.mp c18, Decidable.not_not.mp c28, Decidable.not_not.mp c39⟩), orM_t (by omega)]
          · rfl
theorem f_blockIn (d : Nat) (rack pl : Int32) (h : AH) (hw : Wel (h.1 1)) : EvM (d + 1) mX11_blockIn [.ref 0, .int rack, .int pl] h (some (.int (orM (blkIn (h.1 1) rack pl) (CN (h.1 1))))) h := by
  show EvR _ _ 0 [(0, _), (1, _), (2, _)] [] _ _ _
  iterate 2 refine er_s rfl ?_
  exact er_sub (sub4 rfl rfl rfl rfl) (f_blockIn_loop d rack pl h hw (CN (h.1 1)) 0 (by omega))
theorem orM_neg {k n : Nat} (hn : n ≤ 40) : orM k n < 0 ↔ ¬ k < n := by
  unfold orM
  split
  · next h => exact ⟨fun q => absurd q (nI_pos (by omega)), fun q => absurd h q⟩
  · next h => exact ⟨fun _ => h, fun _ => by decide⟩
/-- the lowest free place of a rack, 5 if it is full -/
abbrev frP (r : Nat → Int32) (rack : Int32) : Nat → Bool := fun p => decide (¬ blkIn r rack (nI p) < CN r)
abbrev freeP (r : Nat → Int32) (rack : Int32) : Nat := fstP (frP r rack) 5 5 0
theorem f_freePlace_loop (d : Nat) (rack : Int32) (h : AH) (hw : Wel (h.1 1)) : ∀ (m k : Nat), k + m = 5 → EvR (d + 2) mX11_freePlace 2 [(0, .ref 0), (1, .int rack), (2, .int (nI k))] [] h (some (.int (nI (fstP (frP (h.1 1) rack) 5 m k)))) h
  | 0, k, hk => by
    have hk : k = 5 := by omega
    subst hk
    iterate 2 refine er_s rfl ?_
    refine er_b rfl rfl (fun _ => ?_) (fun q => absurd (Int32.le_refl _) q)
    refine er_s rfl ?_
    refine er_q rfl ?_ ?_
    · rfl
    · rfl
  | m + 1, k, hk => by
    have h40 := hw.2.1
    iterate 2 refine er_s rfl ?_
    refine er_b rfl rfl (fun q => absurd q (nI_ge (b := 5) (by omega) (by omega))) (fun _ => ?_)
    iterate 3 refine er_s rfl ?_
    refine er_c rfl rfl ⟨Nat.le_of_ble_eq_true rfl, Nat.le_of_ble_eq_true rfl⟩ (f_blockIn _ rack (nI k) h hw) ?_
    refine er_b rfl rfl (fun c13 => ?_) (fun c13 => ?_)
    · refine er_s rfl ?_
      refine er_q rfl ?_ ?_
      · rw [fstP_t (decide_eq_true ((orM_neg h40).mp c13))]
      · rfl
    · refine er_s rfl ?_
      refine er_g rfl rfl ?_
      rw [nI_1, fstP_f (fun q => c13 ((orM_neg h40).mpr (of_decide_eq_true q)))]
      exact er_sub (sub3 rfl rfl rfl) (f_freePlace_loop d rack h hw m (k + 1) (by omega))
theorem f_freePlace (d : Nat) (rack : Int32) (h : AH) (hw : Wel (h.1 1)) : EvM (d + 2) mX11_freePlace [.ref 0, .int rack] h (some (.int (nI (freeP (h.1 1) rack)))) h := by
  show EvR _ _ 0 [(0, _), (1, _)] [] _ _ _
  iterate 2 refine er_s rfl ?_
  exact er_sub (sub3 rfl rfl rfl) (f_freePlace_loop d rack h hw 5 0 (by omega))
theorem f_isSupported (d : Nat) {b : Nat} (hb : b < 40) (h : AH) (h1 : LnOk (h.1 1) b) (h2 : PlOk (h.1 1) b) : EvM (d + 4) mX11_isSupported [.ref 0, .int (nI b)] h (some (.int (bI (LN (h.1 1) b ≤ 2 * supN (h.1 1) b)))) h := by
  have hs := supN_le h1
  have hl := h1.1
  have hl2 := h1.2.2
  show EvR _ _ 0 [(0, _), (1, _)] [] _ _ _
  iterate 3 refine er_s rfl ?_
  refine er_c rfl rfl ⟨Nat.le_of_ble_eq_true rfl, Nat.le_of_ble_eq_true rfl⟩ (f_supported _ hb _ h1 h2) ?_
  iterate 4 refine er_s rfl ?_
  refine er_c rfl rfl ⟨Nat.le_of_ble_eq_true rfl, Nat.le_of_ble_eq_true rfl⟩ (f_of _ hb (x := 1) (by omega) _) ?_
  rw [show (2 : Int32) = nI 2 from rfl, pk_mul, hl]
  refine er_b rfl rfl (fun c13 => ?_) (fun c13 => ?_)
  · refine er_s rfl ?_
    refine er_q rfl ?_ ?_
    · first | exact st_f (fun q => nlt (nI_le q (by omega)) c13) | exact st_t (Nat.not_lt.mp (fun q => c13 (nI_lt q (by omega))))
    · rfl
  · refine er_s rfl ?_
    refine er_g rfl rfl ?_
    refine er_q rfl ?_ ?_
    · first | exact st_f (fun q => nlt (nI_le q (by omega)) c13) | exact st_t (Nat.not_lt.mp (fun q => c13 (nI_lt q (by omega))))
    · rfl
theorem f_goes_tail (d : Nat) {b : Nat} (hb : b < 40) (wy : Int32) (r : Nat → Int32) (h : AH) : EvR (d + 1) mX11_goes 31 [(0, .ref 0), (1, .int (nI b)), (2, .int wy)] [] (setR h r (h.2.1 5)) none (setR h (setB r b 2 (-1) (-1) 0 (-1) wy) (h.2.1 5)) := by
  iterate 4 refine er_s rfl ?_
  refine er_c rfl rfl ⟨Nat.le_of_ble_eq_true rfl, Nat.le_of_ble_eq_true rfl⟩ (f_put _ hb (x := 2) (by omega) _ _) ?_
  iterate 4 refine er_s rfl ?_
  refine er_c rfl rfl ⟨Nat.le_of_ble_eq_true rfl, Nat.le_of_ble_eq_true rfl⟩ (f_put _ hb (x := 3) (by omega) _ _) ?_
  iterate 4 refine er_s rfl ?_
  refine er_c rfl rfl ⟨Nat.le_of_ble_eq_true rfl, Nat.le_of_ble_eq_true rfl⟩ (f_put _ hb (x := 4) (by omega) _ _) ?_
  iterate 4 refine er_s rfl ?_
  refine er_c rfl rfl ⟨Nat.le_of_ble_eq_true rfl, Nat.le_of_ble_eq_true rfl⟩ (f_put _ hb (x := 5) (by omega) _ _) ?_
  iterate 4 refine er_s rfl ?_
  refine er_c rfl rfl ⟨Nat.le_of_ble_eq_true rfl, Nat.le_of_ble_eq_true rfl⟩ (f_put _ hb (x := 6) (by omega) _ _) ?_
  iterate 4 refine er_s rfl ?_
  refine er_c rfl rfl ⟨Nat.le_of_ble_eq_true rfl, Nat.le_of_ble_eq_true rfl⟩ (f_put _ hb (x := 7) (by omega) _ _) ?_
  refine er_q rfl ?_ ?_
  · rfl
  · simp only [hI_R, setR_1, setR_5, setR_R]
    rfl
theorem f_goes (d : Nat) {b : Nat} (hb : b < 40) (wy : Int32) (h : AH) (h1 : LnOk (h.1 1) b) (h2 : ofB (h.1 1) b 2 = 1 → PlOk (h.1 1) b) : EvM (d + 2) mX11_goes [.ref 0, .int (nI b), .int wy] h none (setR h (goesR (h.1 1) b wy) (h.2.1 5)) := by
  by_cases hs : ofB (h.1 1) b 2 = 1
  · obtain ⟨p1, p2, p3, p4, p5, p6⟩ := h2 hs
    have l1 := h1.1
    have hg : goesR (h.1 1) b wy = setB (fillR (h.1 1) (CU (h.1 1) b) (CO (h.1 1) b) (LN (h.1 1) b) (-1)) b 2 (-1) (-1) 0 (-1) wy := by unfold goesR; rw [if_pos hs]
    rw [hg]
    show EvR _ _ 0 [(0, _), (1, _), (2, _)] [] _ _ _
    iterate 2 refine er_s rfl ?_
    refine er_c rfl rfl ⟨Nat.le_of_ble_eq_true rfl, Nat.le_of_ble_eq_true rfl⟩ (f_isOnWall _ hb _) ?_
    refine er_b rfl rfl (fun q => absurd q (fun q => absurd (bI_eq.mp q) (fun z => z hs))) (fun _ => ?_)
    iterate 4 refine er_s rfl ?_
    refine er_c rfl rfl ⟨Nat.le_of_ble_eq_true rfl, Nat.le_of_ble_eq_true rfl⟩ (f_of _ hb (x := 3) (by omega) _) ?_
    iterate 3 refine er_s rfl ?_
    refine er_c rfl rfl ⟨Nat.le_of_ble_eq_true rfl, Nat.le_of_ble_eq_true rfl⟩ (f_of _ hb (x := 4) (by omega) _) ?_
    iterate 3 refine er_s rfl ?_
    refine er_c rfl rfl ⟨Nat.le_of_ble_eq_true rfl, Nat.le_of_ble_eq_true rfl⟩ (f_of _ hb (x := 1) (by omega) _) ?_
    refine er_s rfl ?_
    rw [p1, p3, l1]
    refine er_c rfl rfl ⟨Nat.le_of_ble_eq_true rfl, Nat.le_of_ble_eq_true rfl⟩ (f_fill _ (c := CU (h.1 1) b) (j := CO (h.1 1) b) (L := LN (h.1 1) b) (by omega) p2 (-1) _) ?_
    have K := f_goes_tail (d + 1) hb wy (fillR (h.1 1) (CU (h.1 1) b) (CO (h.1 1) b) (LN (h.1 1) b) (-1)) h
    exact er_sub (sub3 rfl rfl rfl) K
  · have hg : goesR (h.1 1) b wy = setB (h.1 1) b 2 (-1) (-1) 0 (-1) wy := by unfold goesR; rw [if_neg hs]
    rw [hg]
    show EvR _ _ 0 [(0, _), (1, _), (2, _)] [] _ _ _
    iterate 2 refine er_s rfl ?_
    refine er_c rfl rfl ⟨Nat.le_of_ble_eq_true rfl, Nat.le_of_ble_eq_true rfl⟩ (f_isOnWall _ hb _) ?_
    refine er_b rfl rfl (fun _ => ?_) (fun q => absurd (bI_eq.mpr hs) q)
    have K := f_goes_tail (d + 1) hb wy (h.1 1) h
    rw [setR_self] at K
    exact er_sub (sub3 rfl rfl rfl) K
theorem nI_mod {c : Nat} (hc : 0 < c) : nI c - 1 = nI (c - 1) := pk_sub (b := 1) hc
theorem f_columnsOn_loop (d : Nat) {a b : Nat} (ha : a < 40) (hb : b < 40) (h : AH) (h1 : LnOk (h.1 1) a) (h2 : PlOk (h.1 1) a) (hc : 0 < CU (h.1 1) a) : ∀ (m k : Nat), k + m = LN (h.1 1) a → EvR (d + 1) mX11_columnsOn 5 [(0, .ref 0), (1, .int (nI a)), (2, .int (nI b)), (3, .int (nI (cntP (colP (h.1 1) a b) k))), (4, .int (nI k))] [] h (some (.int (nI (colsN (h.1 1) a b)))) h
  | 0, k, hk => by
    have hk : k = LN (h.1 1) a := by omega
    obtain ⟨l1, l2, l3⟩ := h1
    iterate 4 refine er_s rfl ?_
    refine er_c rfl rfl ⟨Nat.le_of_ble_eq_true rfl, Nat.le_of_ble_eq_true rfl⟩ (f_of _ ha (x := 1) (by omega) _) ?_
    refine er_b rfl rfl (fun _ => ?_) (fun q => absurd (by rw [l1, hk]; exact Int32.le_refl _) q)
    refine er_s rfl ?_
    refine er_q rfl ?_ ?_
    · rw [hk]
      rfl
    · rfl
  | m + 1, k, hk => by
    obtain ⟨p1, p2, p3, p4, p5, p6⟩ := id h2
    obtain ⟨l1, l2, l3⟩ := id h1
    iterate 4 refine er_s rfl ?_
    refine er_c rfl rfl ⟨Nat.le_of_ble_eq_true rfl, Nat.le_of_ble_eq_true rfl⟩ (f_of _ ha (x := 1) (by omega) _) ?_
    refine er_b rfl rfl (fun q => absurd q (by rw [l1]; exact nI_ge (by omega) (by omega))) (fun _ => ?_)
    iterate 5 refine er_s rfl ?_
    refine er_c rfl rfl ⟨Nat.le_of_ble_eq_true rfl, Nat.le_of_ble_eq_true rfl⟩ (f_of _ ha (x := 3) (by omega) _) ?_
    iterate 5 refine er_s rfl ?_
    refine er_c rfl rfl ⟨Nat.le_of_ble_eq_true rfl, Nat.le_of_ble_eq_true rfl⟩ (f_of _ ha (x := 4) (by omega) _) ?_
    iterate 2 refine er_s rfl ?_
    rw [p1, p3, nI_mod hc, nI_add]
    refine er_c rfl rfl ⟨Nat.le_of_ble_eq_true rfl, Nat.le_of_ble_eq_true rfl⟩ (f_gridAt _ (c := CU (h.1 1) a - 1) (j := CO (h.1 1) a + k) (by omega) (by omega) _) ?_
    refine er_s rfl ?_
    refine er_b rfl rfl (fun c39 => ?_) (fun c39 => ?_)
    · iterate 4 refine er_s rfl ?_
      refine er_g rfl rfl ?_
      rw [cnt_f (p := colP (h.1 1) a b) (fun q => c39 (of_decide_eq_true q)), nI_1]
      exact er_sub (sub5 rfl rfl rfl rfl rfl) (f_columnsOn_loop d ha hb h h1 h2 hc m (k + 1) (by omega))
    · refine er_s rfl ?_
      refine er_g rfl rfl ?_
      iterate 3 refine er_s rfl ?_
      refine er_g rfl rfl ?_
      rw [cnt_t (p := colP (h.1 1) a b) (decide_eq_true (Decidable.not_not.mp c39)), nI_1]
      exact er_sub (sub5 rfl rfl rfl rfl rfl) (f_columnsOn_loop d ha hb h h1 h2 hc m (k + 1) (by omega))
theorem f_columnsOn (d : Nat) {a b : Nat} (ha : a < 40) (hb : b < 40) (h : AH) (h1 : LnOk (h.1 1) a) (h2 : PlOk (h.1 1) a) (hc : 0 < CU (h.1 1) a) : EvM (d + 1) mX11_columnsOn [.ref 0, .int (nI a), .int (nI b)] h (some (.int (nI (colsN (h.1 1) a b)))) h := by
  show EvR _ _ 0 [(0, _), (1, _), (2, _)] [] _ _ _
  iterate 4 refine er_s rfl ?_
  exact er_sub (sub5 rfl rfl rfl rfl rfl) (f_columnsOn_loop d ha hb h h1 h2 hc (LN (h.1 1) a) 0 (by omega))
theorem nn_of {x : UInt32} (h : x.toNat < 2139095040) : nn x := f_nn (Nat.le_of_lt h)
theorem f_borne (d : Nat) {b : Nat} (hb : b < 40) (h : AH) (h2 : PlOk (h.1 1) b) (hm : mOk (h.2.1 5 b)) : EvM (d + 1) mX11_borne [.ref 0, .int (nI b)] h (some (.float (bornR (h.1 1) (h.2.1 5) b))) h := by
  obtain ⟨p1, p2, p3, p4, p5, p6⟩ := id h2
  obtain ⟨j1, j2, j3⟩ := joint_ok (JT (h.1 1) b) (List.mem_range.mpr (by omega))
  have hz : (if ofB (h.1 1) b 0 = 0 then 0 else 1 : Nat) = KD (h.1 1) b := rfl
  obtain ⟨b1, b2, b3, b4⟩ := born_ok (kd := KD (h.1 1) b) (j := JT (h.1 1) b) hm (by omega)
  by_cases hk : ofB (h.1 1) b 0 = 0
  · have e : KD (h.1 1) b = 0 := if_pos hk
    unfold bornR bornF at *
    rw [e] at b1 b2 ⊢
    simp only [if_true] at b1 b2 ⊢
    show EvR _ _ 0 [(0, _), (1, _)] [] _ _ _
    iterate 3 refine er_s rfl ?_
    refine er_fl rfl rfl (vi) ?_
    iterate 3 refine er_s rfl ?_
    refine er_c rfl rfl ⟨Nat.le_of_ble_eq_true rfl, Nat.le_of_ble_eq_true rfl⟩ (f_of _ hb (x := 0) (by omega) _) ?_
    refine er_b rfl rfl (fun q => absurd q (fun q => q hk)) (fun _ => ?_)
    refine er_s rfl ?_
    refine er_g rfl rfl ?_
    rw [cl _]
    refine er_fmul rfl (nn_of b1) ?_
    iterate 5 refine er_s rfl ?_
    refine er_c rfl rfl ⟨Nat.le_of_ble_eq_true rfl, Nat.le_of_ble_eq_true rfl⟩ (f_of _ hb (x := 5) (by omega) _) ?_
    rw [p5]
    refine er_s rfl ?_
    refine er_fmul rfl (nn_of j1) ?_
    refine er_fadd rfl (nn_of (Nat.lt_of_le_of_lt j3 (by decide))) ?_
    refine er_fmul rfl (nn_of b2) ?_
    refine er_q rfl ?_ ?_
    · rfl
    · rfl
  · have e : KD (h.1 1) b = 1 := if_neg hk
    unfold bornR bornF at *
    rw [e] at b1 b2 ⊢
    simp only [Nat.one_ne_zero, if_false] at b1 b2 ⊢
    show EvR _ _ 0 [(0, _), (1, _)] [] _ _ _
    iterate 3 refine er_s rfl ?_
    refine er_fl rfl rfl (vi) ?_
    iterate 3 refine er_s rfl ?_
    refine er_c rfl rfl ⟨Nat.le_of_ble_eq_true rfl, Nat.le_of_ble_eq_true rfl⟩ (f_of _ hb (x := 0) (by omega) _) ?_
    refine er_b rfl rfl (fun _ => ?_) (fun q => absurd hk q)
    refine er_s rfl ?_
    rw [cl _]
    refine er_fmul rfl (nn_of b1) ?_
    iterate 5 refine er_s rfl ?_
    refine er_c rfl rfl ⟨Nat.le_of_ble_eq_true rfl, Nat.le_of_ble_eq_true rfl⟩ (f_of _ hb (x := 5) (by omega) _) ?_
    rw [p5]
    refine er_s rfl ?_
    refine er_fmul rfl (nn_of j1) ?_
    refine er_fadd rfl (nn_of (Nat.lt_of_le_of_lt j3 (by decide))) ?_
    refine er_fmul rfl (nn_of b2) ?_
    refine er_q rfl ?_ ?_
    · rfl
    · rfl
end
