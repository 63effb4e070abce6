-- needs: 35
noncomputable section
theorem Str_of {r r' : Nat → Int32} (h : Str r) (hw : Wel r') (hC : CN r' = CN r) (hb : ∀ b x, b < CN r → x < 8 → x ≠ 5 → ofB r' b x = ofB r b x) (h5 : ∀ b, b < CN r → ¬ ofB r b 2 = 1 → ofB r' b 5 = ofB r b 5) (hg : ∀ c j, c < 8 → j < 12 → gAt r' c j = gAt r c j) : Str r' := by
  obtain ⟨-, hB, hA, hG, hR⟩ := h
  have hcov : ∀ b c j, b < CN r → (cov r' b c j ↔ cov r b c j) := fun b c j hb2 => by
    show (ofB r' b 2 = 1 ∧ (ofB r' b 4).toNatClampNeg = c ∧ (ofB r' b 3).toNatClampNeg ≤ j ∧ j < (ofB r' b 3).toNatClampNeg + (ofB r' b 1).toNatClampNeg) ↔ _
    rw [hb b 2 hb2 (by decide) (by decide), hb b 4 hb2 (by decide) (by decide), hb b 3 hb2 (by decide) (by decide), hb b 1 hb2 (by decide) (by decide)]
    exact Iff.rfl
  refine ⟨hw, fun b hb2 => ?_, fun c j b hc hj hb2 q => ?_, fun c j hc hj => ?_, fun x z hx hz hne sx sz kk => ?_⟩
  · rw [hC] at hb2
    have e := hB b hb2
    unfold BlkS at e ⊢
    rw [hb b 0 hb2 (by decide) (by decide), hb b 2 hb2 (by decide) (by decide), hb b 3 hb2 (by decide) (by decide), hb b 4 hb2 (by decide) (by decide), hb b 6 hb2 (by decide) (by decide), hb b 7 hb2 (by decide) (by decide)]
    by_cases hs : ofB r b 2 = 1
    · obtain ⟨e1, e2⟩ := e
      refine ⟨e1, Or.inr (Or.inl ?_)⟩
      rcases e2 with q | q | q
      · exact absurd (q.1.symm.trans hs) (by decide)
      · exact q
      · exact absurd (q.1.symm.trans hs) (by decide)
    · rw [h5 b hb2 hs]
      exact e
  · rw [hC] at hb2
    rw [hg c j hc hj]
    exact hA c j b hc hj hb2 ((hcov b c j hb2).mp q)
  · rw [hg c j hc hj, hC]
    rcases hG c j hc hj with q | ⟨b, q1, q2, q3⟩
    · exact Or.inl q
    · exact Or.inr ⟨b, q1, q2, (hcov b c j q1).mpr q3⟩
  · rw [hC] at hx hz
    rw [hb x 2 hx (by decide) (by decide)] at sx
    rw [hb z 2 hz (by decide) (by decide)] at sz
    rw [hb x 0 hx (by decide) (by decide), hb z 0 hz (by decide) (by decide)] at kk
    rw [hb x 6 hx (by decide) (by decide), hb z 6 hz (by decide) (by decide)]
    exact hR x z hx hz hne sx sz kk
theorem upd_Str {r : Nat → Int32} {i : Nat} {x : Int32} (h : Str r) (hi : i < 29) (h4 : i ≠ 4) : Str (upd r i x) :=
  Str_of h (upd_Wel h.1 (by omega) h4) (upd_CN h4) (fun b x _ _ _ => upd_ne (by omega)) (fun b _ _ => upd_ne (by omega)) (fun c j _ _ => upd_ne (by omega))
theorem jointS_Str {r : Nat → Int32} {j : Int32} (n : Nat) (h : Str r) : Str (jointsR j n r) := by
  refine Str_of h (jointsR_Wel n h.1) (by show (jointsR j n r 4).toNatClampNeg = _; rw [jointsR_hd (by decide)]) (fun b x _ hx h5 => jointsR_b hx h5) (fun b hb hs => ?_) (fun c j2 hc hj => jointsR_hd (by omega))
  by_cases hn : b < n
  · rw [jointsR_5 hn, if_neg (fun q => hs (jointSb_t.mp q).1)]
  · exact jointsR_ge (by omega)
theorem freeze_Str {r : Nat → Int32} {t : Int32} (h : Str r) : Str (freezeR t r) := jointS_Str _ (upd_Str h (by decide) (by decide))
theorem remR_Str {r : Nat → Int32} {w : Nat → UInt32} (h : Str r) : ∀ n, n ≤ CN r → Str (remR w n r) ∧ CN (remR w n r) = CN r :=
  iterN_inv (I := fun _ t => Str t ∧ CN t = CN r) ⟨h, rfl⟩ (fun k t hk ht => by
    unfold remS
    split
    · exact ⟨goes_Str (y := 2) ht.1 (by rw [ht.2]; exact hk) (by decide) (by decide), by rw [goesR_CN]; exact ht.2⟩
    · exact ht)
theorem fallC_Str {r : Nat → Int32} {c : Nat} (h : Str r) : ∀ n, n ≤ CN r → Str (fallC c n r) ∧ CN (fallC c n r) = CN r :=
  iterN_inv (I := fun _ t => Str t ∧ CN t = CN r) ⟨h, rfl⟩ (fun k t hk ht => by
    unfold fallS
    split
    · exact ⟨goes_Str (y := 4) ht.1 (by rw [ht.2]; exact hk) (by decide) (by decide), by rw [goesR_CN]; exact ht.2⟩
    · exact ht)
theorem fallI_Str {r : Nat → Int32} (h : Str r) : ∀ i, i ≤ 7 → Str (fallI i r) ∧ CN (fallI i r) = CN r :=
  iterN_inv (I := fun _ t => Str t ∧ CN t = CN r) ⟨h, rfl⟩ (fun k t hk ht => by
    have := fallC_Str (c := k + 1) ht.1 (CN t) (Nat.le_refl _)
    exact ⟨this.1, this.2.trans ht.2⟩)
theorem brkR_Str {w : Nat → UInt32} : ∀ (n : Nat) (r : Nat → Int32), Str r → Str (brkR w n r)
  | 0, r, h => h
  | n + 1, r, h => by
    unfold brkR
    split
    · next hlt =>
      have g := goes_Str (y := 3) h hlt (by decide) (by decide)
      exact brkR_Str n _ (fallI_Str g 7 (Nat.le_refl _)).1
    · exact h
theorem hour1_Str {r : Nat → Int32} {w : Nat → UInt32} (h : Str r) : Str (hour1 r w) := (remR_Str (w := hourW r w) (freeze_Str h) (CN r) (by rw [freezeR_CN]; exact Nat.le_refl _)).1
theorem hourR_Str {r : Nat → Int32} {w : Nat → UInt32} (h : Str r) : Str (hourR r w) := by
  have h1 := fallI_Str (hour1_Str (w := w) h) 7 (Nat.le_refl _)
  exact upd_Str (brkR_Str 40 _ h1.1) (by decide) (by decide)
theorem hours_Str : ∀ (n : Nat) {r : Nat → Int32} {w : Nat → UInt32}, Str r → Str (hoursR n r w)
  | 0, _, _, h => h
  | n + 1, r, w, h => hours_Str n (hourR_Str h)
/-- the layout of an outline -/
def OutL (m : Nat) : Prop := layAt m = (0, 5, [m + 4]) ∧ layAt (m + 1) = (1, 12, [])
theorem nI_z1 : nI 0 - 1 = -1 := by decide
theorem p_heightOf (d : Nat) {k : Nat} (hL : PalL k) {h : AH} {r : Nat → Int32} {w : Nat → UInt32} (P : Pal h k r w) {j : Nat} (hj : j < 12) : EvM (d + 1) mX7_heightOf [.ref k, .int (nI j)] h (some (.int (nI (hgtN r j 8)))) h := by
  have L0 := hL.1
  have Lp : ∀ (n : Nat), n ≤ 8 → EvR (d + 1) mX7_heightOf 3 [(0, .ref k), (1, .int (nI j)), (2, .int (nI n - 1))] [] h (some (.int (nI (hgtN r j n)))) h := by
    intro n
    induction n with
    | zero =>
      intro hn
      refine er_s rfl ?_
      refine er_b rfl rfl (fun _ => ?_) (fun q => absurd (by decide) q)
      refine er_s rfl ?_
      refine er_q rfl ?_ ?_
      · rfl
      · rfl
    | succ n ih =>
      intro hn
      have IH := ih (by omega)
      rw [nI_pred]
      have B := p_blockAt d hL (c := n) (j := j) (by omega) hj h
      rw [P.gr (by omega) hj] at B
      by_cases qg : 0 ≤ gAt r n j
      · rw [show hgtN r j (n + 1) = n + 1 from if_pos qg]
        refine er_s rfl ?_
        refine er_b rfl rfl (fun q => absurd q (nI_pos (by omega))) (fun _ => ?_)
        iterate 3 refine er_s rfl ?_
        refine er_v2 rfl L0 rfl ⟨Nat.le_of_ble_eq_true rfl, Nat.le_of_ble_eq_true rfl⟩ (B) ?_
        refine er_b rfl rfl (fun q => absurd q (Int32.not_lt.mpr qg)) (fun _ => ?_)
        iterate 3 refine er_s rfl ?_
        refine er_q rfl ?_ ?_
        · rw [nI_1]
        · rfl
      · rw [show hgtN r j (n + 1) = hgtN r j n from if_neg qg]
        refine er_s rfl ?_
        refine er_b rfl rfl (fun q => absurd q (nI_pos (by omega))) (fun _ => ?_)
        iterate 3 refine er_s rfl ?_
        refine er_v2 rfl L0 rfl ⟨Nat.le_of_ble_eq_true rfl, Nat.le_of_ble_eq_true rfl⟩ (B) ?_
        refine er_b rfl rfl (fun _ => ?_) (fun q => absurd (Int32.not_le.mp qg) q)
        refine er_s rfl ?_
        refine er_g rfl rfl ?_
        rw [← Int32.sub_eq_add_neg]
        exact er_sub (sub3 rfl rfl rfl) IH
  have Z := Lp 8 (Nat.le_refl _)
  show EvR _ _ 0 [(0, _), (1, _)] [] _ _ _
  iterate 2 refine er_s rfl ?_
  exact er_sub (sub3 rfl rfl rfl) Z
def hgF (r : Nat → Int32) (n : Nat) (f : Nat → Int32) : Nat → Int32 := fun j => if j < n then nI (hgtN r j 8) else f j
theorem hgF_s {r f : Nat → Int32} {n : Nat} : upd (hgF r n f) n (nI (hgtN r n 8)) = hgF r (n + 1) f := by
  funext j
  unfold upd hgF
  by_cases e : j = n
  · rw [if_pos e, if_pos (by omega), e]
  · rw [if_neg e]
    by_cases e2 : j < n
    · rw [if_pos e2, if_pos (by omega)]
    · rw [if_neg e2, if_neg (by omega)]
theorem Pal.ir {h : AH} {k m : Nat} {r : Nat → Int32} {w : Nat → UInt32} {f : Nat → Int32} (P : Pal h k r w) (hm : m < k ∨ k + 12 < m) : Pal (hIr h m f) k r w := by
  refine ⟨fun i hi => ?_, fun i hi => ?_, fun b hb => ?_, fun b hb hb2 => ?_, fun i hi => ?_, fun q p hq hp => ?_⟩
  · rw [hIr_ne (by omega)]; exact P.1 i hi
  · rw [hIr_ne (by omega)]; exact P.2.1 i hi
  · obtain ⟨a1, a2, a3, a4⟩ := P.2.2.1 b hb
    refine ⟨by rw [hIr_ne (by omega)]; exact a1, by rw [hIr_ne (by omega)]; exact a2, a3, fun o h1 h2 => by rw [hIr_ne (by omega)]; exact a4 o h1 h2⟩
  · rw [hIr_ne (by omega), hIr_ne (by omega), hIr_ne (by omega), hIr_ne (by omega), hIr_ne (by omega), hIr_ne (by omega)]
    exact P.2.2.2.1 b hb hb2
  · rw [hIr_ne (by omega)]; exact P.2.2.2.2.1 i hi
  · rw [hIr_ne (by omega)]; exact P.2.2.2.2.2 q p hq hp
theorem p_measure (d : Nat) {k m : Nat} (hL : PalL k) (hO : OutL m) (hkm : m + 1 < k ∨ k + 12 < m + 1) {h : AH} {r : Nat → Int32} {w : Nat → UInt32} (P : Pal h k r w) : EvM (d + 2) mX7_measure [.ref m, .ref k] h none (hIr h (m + 1) (hgF r 12 (h.1 (m + 1)))) := by
  obtain ⟨O0, O1⟩ := hO
  have Lp : ∀ (n j : Nat), j + n = 12 → EvR (d + 2) mX7_measure 2 [(0, .ref m), (1, .ref k), (2, .int (nI j))] [] (hIr h (m + 1) (hgF r j (h.1 (m + 1)))) none (hIr h (m + 1) (hgF r 12 (h.1 (m + 1)))) := by
    intro n
    induction n with
    | zero =>
      intro j hj
      have hj : j = 12 := by omega
      subst hj
      iterate 2 refine er_s rfl ?_
      refine er_b rfl rfl (fun _ => ?_) (fun q => absurd (Int32.le_refl _) q)
      refine er_q rfl ?_ ?_
      · rfl
      · rfl
    | succ n ih =>
      intro j hj
      have IH := ih (j + 1) (by omega)
      have H := p_heightOf d hL (P.ir (f := hgF r j (h.1 (m + 1))) hkm) (j := j) (by omega)
      iterate 2 refine er_s rfl ?_
      refine er_b rfl rfl (fun q => absurd q (nI_ge (b := 12) (by omega) (by decide))) (fun _ => ?_)
      refine er_s rfl ?_
      refine er_f rfl O0 rfl ?_
      iterate 3 refine er_s rfl ?_
      refine er_c rfl rfl ⟨Nat.le_of_ble_eq_true rfl, Nat.le_of_ble_eq_true rfl⟩ (H) ?_
      refine er_is rfl O1 (vi) ?_
      refine er_s rfl ?_
      refine er_g rfl rfl ?_
      rw [nI_1, cl j, hI_hIr, hgF_s]
      exact er_sub (sub3 rfl rfl rfl) IH
  have Z := Lp 12 0 rfl
  rw [show hgF r 0 (h.1 (m + 1)) = h.1 (m + 1) from by funext j; exact if_neg (Nat.not_lt_zero j), hIr_self] at Z
  show EvR _ _ 0 [(0, _), (1, _)] [] _ _ _
  iterate 2 refine er_s rfl ?_
  exact er_sub (sub3 rfl rfl rfl) Z
def anyF (p : Nat → Bool) : Nat → Nat → Bool
  | 0, _ => false
  | m + 1, k => p k || anyF p m (k + 1)
theorem anyF_iff {p : Nat → Bool} : ∀ (m k : Nat), anyF p m k = true ↔ ∃ j, k ≤ j ∧ j < k + m ∧ p j = true
  | 0, k => ⟨fun h => (Bool.false_ne_true h).elim, fun ⟨j, h1, h2, _⟩ => by omega⟩
  | m + 1, k => by
    unfold anyF
    rw [Bool.or_eq_true, anyF_iff m (k + 1)]
    constructor
    · rintro (q | ⟨j, h1, h2, h3⟩)
      · exact ⟨k, Nat.le_refl k, by omega, q⟩
      · exact ⟨j, by omega, by omega, h3⟩
    · rintro ⟨j, h1, h2, h3⟩
      by_cases e : j = k
      · subst e; exact Or.inl h3
      · exact Or.inr ⟨j, by omega, by omega, h3⟩
theorem p_shL (d : Nat) {m : Nat} (hO : OutL m) {h : AH} {r : Nat → Int32} (hh : ∀ j, j < 12 → h.1 (m + 1) j = nI (hgtN r j 8)) {a c : Nat} (ha : a < 12) (hc : c < 8) : EvM d mX7_isShadedFromLeft [.ref m, .int (nI a), .int (nI c)] h (some (.int (bI (anyF (fun j => decide (c + (a - j) + 1 ≤ hgtN r j 8)) a 0 = true)))) h := by
  obtain ⟨O0, O1⟩ := hO
  have Lp : ∀ (n j : Nat), j + n = a → EvR d mX7_isShadedFromLeft 2 [(0, .ref m), (1, .int (nI a)), (2, .int (nI c)), (3, .int (nI j))] [] h (some (.int (bI (anyF (fun j => decide (c + (a - j) + 1 ≤ hgtN r j 8)) n j = true)))) h := by
    intro n
    induction n with
    | zero =>
      intro j hj
      have hj : j = a := by omega
      subst hj
      iterate 2 refine er_s rfl ?_
      refine er_b rfl rfl (fun _ => ?_) (fun q => absurd (Int32.le_refl _) q)
      refine er_s rfl ?_
      refine er_q (ret_bK rfl rfl) ?_ ?_
      · rfl
      · rfl
    | succ n ih =>
      intro j hj
      have IH := ih (j + 1) (by omega)
      have hg := hgtN_le r j 8
      by_cases qg : c + (a - j) + 1 ≤ hgtN r j 8
      · rw [show anyF (fun j => decide (c + (a - j) + 1 ≤ hgtN r j 8)) (n + 1) j = true from (anyF_iff _ _).mpr ⟨j, Nat.le_refl j, by omega, decide_eq_true qg⟩]
        iterate 2 refine er_s rfl ?_
        refine er_b rfl rfl (fun q => absurd q (nI_ge (by omega) (by omega))) (fun _ => ?_)
        iterate 2 refine er_s rfl ?_
        refine er_b rfl rfl (fun q => absurd q (nI_ge (b := 12) (by omega) (by decide))) (fun _ => ?_)
        refine er_s rfl ?_
        refine er_f rfl O0 rfl ?_
        refine er_s rfl ?_
        refine er_il rfl O1 (vi) ?_
        iterate 4 refine er_s rfl ?_
        rw [nI_sub (show j ≤ a by omega)]
        iterate 3 refine er_s rfl ?_
        rw [cl j, hh j (by omega), nI_add, nI_1]
        refine er_b rfl rfl (fun q => absurd q (nI_nlt qg (by omega))) (fun _ => ?_)
        refine er_s rfl ?_
        refine er_q (ret_bK rfl rfl) ?_ ?_
        · rfl
        · rfl
      · rw [show anyF (fun j => decide (c + (a - j) + 1 ≤ hgtN r j 8)) (n + 1) j = anyF (fun j => decide (c + (a - j) + 1 ≤ hgtN r j 8)) n (j + 1) from by show (decide (c + (a - j) + 1 ≤ hgtN r j 8) || _) = _; rw [decide_eq_false qg, Bool.false_or]]
        iterate 2 refine er_s rfl ?_
        refine er_b rfl rfl (fun q => absurd q (nI_ge (by omega) (by omega))) (fun _ => ?_)
        iterate 2 refine er_s rfl ?_
        refine er_b rfl rfl (fun q => absurd q (nI_ge (b := 12) (by omega) (by decide))) (fun _ => ?_)
        refine er_s rfl ?_
        refine er_f rfl O0 rfl ?_
        refine er_s rfl ?_
        refine er_il rfl O1 (vi) ?_
        iterate 4 refine er_s rfl ?_
        rw [nI_sub (show j ≤ a by omega)]
        iterate 3 refine er_s rfl ?_
        rw [cl j, hh j (by omega), nI_add, nI_1]
        refine er_b rfl rfl (fun _ => ?_) (fun q => absurd (nI_lt (Nat.not_le.mp qg) (by omega)) q)
        refine er_s rfl ?_
        refine er_g rfl rfl ?_
        rw [nI_1]
        exact er_sub (sub4 rfl rfl rfl rfl) IH
  have Z := Lp a 0 (by omega)
  show EvR _ _ 0 [(0, _), (1, _), (2, _)] [] _ _ _
  iterate 2 refine er_s rfl ?_
  exact er_sub (sub4 rfl rfl rfl rfl) Z
theorem p_shR (d : Nat) {m : Nat} (hO : OutL m) {h : AH} {r : Nat → Int32} (hh : ∀ j, j < 12 → h.1 (m + 1) j = nI (hgtN r j 8)) {a c : Nat} (ha : a < 12) (hc : c < 8) : EvM d mX7_isShadedFromRight [.ref m, .int (nI a), .int (nI c)] h (some (.int (bI (anyB (fun j => decide (a < j ∧ c + (j - a) + 1 ≤ hgtN r j 8)) 12 = true)))) h := by
  obtain ⟨O0, O1⟩ := hO
  have e0 : ∀ n, n ≤ a + 1 → anyB (fun j => decide (a < j ∧ c + (j - a) + 1 ≤ hgtN r j 8)) n = false := fun n hn => by
    rw [Bool.eq_false_iff]
    intro q
    obtain ⟨j, j1, j2⟩ := anyB_iff.mp q
    have := (of_decide_eq_true j2).1
    omega
  have Lp : ∀ (n : Nat), a + n < 12 → EvR d mX7_isShadedFromRight 3 [(0, .ref m), (1, .int (nI a)), (2, .int (nI c)), (3, .int (nI (a + n)))] [] h (some (.int (bI (anyB (fun j => decide (a < j ∧ c + (j - a) + 1 ≤ hgtN r j 8)) (a + n + 1) = true)))) h := by
    intro n
    induction n with
    | zero =>
      intro hj
      rw [e0 (a + 0 + 1) (Nat.le_refl _)]
      iterate 2 refine er_s rfl ?_
      refine er_b rfl rfl (fun _ => ?_) (fun q => absurd (Int32.le_refl _) q)
      refine er_s rfl ?_
      refine er_q (ret_bK rfl rfl) ?_ ?_
      · rfl
      · rfl
    | succ n ih =>
      intro hj
      have IH := ih (by omega)
      have hg := hgtN_le r (a + (n + 1)) 8
      have e1 : nI (a + (n + 1)) + -1 = nI (a + n) := pk_m1 (a + n)
      by_cases qg : c + (n + 1) + 1 ≤ hgtN r (a + (n + 1)) 8
      · rw [show anyB (fun j => decide (a < j ∧ c + (j - a) + 1 ≤ hgtN r j 8)) (a + (n + 1) + 1) = true from anyB_iff.mpr ⟨a + (n + 1), by omega, decide_eq_true ⟨by omega, by rw [Nat.add_sub_cancel_left]; exact qg⟩⟩]
        iterate 2 refine er_s rfl ?_
        refine er_b rfl rfl (fun q => absurd q (nI_ge (by omega) (by omega))) (fun _ => ?_)
        refine er_s rfl ?_
        refine er_b rfl rfl (fun q => absurd q (nI_pos (by omega))) (fun _ => ?_)
        refine er_s rfl ?_
        refine er_f rfl O0 rfl ?_
        refine er_s rfl ?_
        refine er_il rfl O1 (vi) ?_
        iterate 4 refine er_s rfl ?_
        rw [nI_sub (show a ≤ a + (n + 1) by omega), Nat.add_sub_cancel_left]
        iterate 3 refine er_s rfl ?_
        rw [cl _, hh _ hj, nI_add, nI_1]
        refine er_b rfl rfl (fun q => absurd q (nI_nlt qg (by omega))) (fun _ => ?_)
        refine er_s rfl ?_
        refine er_q (ret_bK rfl rfl) ?_ ?_
        · rfl
        · rfl
      · rw [show anyB (fun j => decide (a < j ∧ c + (j - a) + 1 ≤ hgtN r j 8)) (a + (n + 1) + 1) = anyB (fun j => decide (a < j ∧ c + (j - a) + 1 ≤ hgtN r j 8)) (a + n + 1) from by
          show (decide (a < a + (n + 1) ∧ c + (a + (n + 1) - a) + 1 ≤ hgtN r (a + (n + 1)) 8) || _) = _
          rw [decide_eq_false (fun z => qg (by have := z.2; rw [Nat.add_sub_cancel_left] at this; exact this)), Bool.false_or]
          rfl]
        iterate 2 refine er_s rfl ?_
        refine er_b rfl rfl (fun q => absurd q (nI_ge (by omega) (by omega))) (fun _ => ?_)
        refine er_s rfl ?_
        refine er_b rfl rfl (fun q => absurd q (nI_pos (by omega))) (fun _ => ?_)
        refine er_s rfl ?_
        refine er_f rfl O0 rfl ?_
        refine er_s rfl ?_
        refine er_il rfl O1 (vi) ?_
        iterate 4 refine er_s rfl ?_
        rw [nI_sub (show a ≤ a + (n + 1) by omega), Nat.add_sub_cancel_left]
        iterate 3 refine er_s rfl ?_
        rw [cl _, hh _ hj, nI_add, nI_1]
        refine er_b rfl rfl (fun _ => ?_) (fun q => absurd (nI_lt (Nat.not_le.mp qg) (by omega)) q)
        refine er_s rfl ?_
        refine er_g rfl rfl ?_
        rw [e1]
        exact er_sub (sub4 rfl rfl rfl rfl) IH
  have Z := Lp (11 - a) (by omega)
  rw [show a + (11 - a) = 11 by omega] at Z
  show EvR _ _ 0 [(0, _), (1, _), (2, _)] [] _ _ _
  iterate 2 refine er_s rfl ?_
  exact er_sub (sub4 rfl rfl rfl rfl) Z
theorem p_isInShadow (d : Nat) {k m : Nat} (hL : PalL k) (hO : OutL m) {h : AH} {r : Nat → Int32} {w : Nat → UInt32} (P : Pal h k r w) (hw : Wel r) (hh : ∀ j, j < 12 → h.1 (m + 1) j = nI (hgtN r j 8)) {b : Nat} (hb : b < CN r) (hs : ofB r b 2 = 1) (hr : Int32) : EvM (d + 1) mX7_isInShadow [.ref m, .ref k, .int (nI b), .int hr] h (some (.int (bI (shadR r b hr = true)))) h := by
  have h40 := hw.2.1
  obtain ⟨⟨l1, l2, l3⟩, pb⟩ := hw.2.2 b hb
  obtain ⟨p1, p2, p3, p4, p5, p6⟩ := pb hs
  have W := p_isOnWall d hL (b := b) (by omega) h
  rw [P.st hb] at W
  have hO2 := hO
  obtain ⟨O0, O1⟩ := hO2
  have hL2 := hL
  obtain ⟨L0, L1, L2, L3, L4, L5, L6, L7, L8, L9, L10, L11, L12⟩ := hL2
  by_cases hd : 6 ≤ hr ∧ hr ≤ 17
  · by_cases hn : hr < 12
    · have es : shadR r b hr = anyF (fun j => decide (CU r b + (CO r b - j) + 1 ≤ hgtN r j 8)) (CO r b) 0 := by
        unfold shadR
        rw [if_pos hd, if_pos hn, Bool.eq_iff_iff, anyB_iff, anyF_iff]
        constructor
        · rintro ⟨z, z1, z2⟩
          obtain ⟨z3, z4, z5⟩ := of_decide_eq_true z2
          exact ⟨CO r b - z, by omega, by omega, decide_eq_true (by rw [show CO r b - (CO r b - z) = z by omega]; exact z5)⟩
        · rintro ⟨j, z1, z2, z3⟩
          have z3 := of_decide_eq_true z3
          exact ⟨CO r b - j, by omega, decide_eq_true ⟨by omega, by omega, by rw [show CO r b - (CO r b - j) = j by omega]; exact z3⟩⟩
      rw [es]
      have S := p_shL d hO hh (a := CO r b) (c := CU r b) (by omega) (by omega)
      show EvR _ _ 0 [(0, _), (1, _), (2, _), (3, _)] [] _ _ _
      iterate 2 refine er_s rfl ?_
      refine er_b rfl rfl (fun q => absurd q (Int32.not_lt.mpr hd.1)) (fun _ => ?_)
      iterate 2 refine er_s rfl ?_
      refine er_b rfl rfl (fun q => absurd q (Int32.not_lt.mpr hd.2)) (fun _ => ?_)
      iterate 2 refine er_s rfl ?_
      refine er_v1 rfl L0 rfl ⟨Nat.le_of_ble_eq_true rfl, Nat.le_of_ble_eq_true rfl⟩ (W) ?_
      refine er_b rfl rfl (fun _ => ?_) (fun q => absurd (bI_ne.mpr hs) q)
      refine er_s rfl ?_
      refine er_f rfl L0 rfl ?_
      refine er_s rfl ?_
      refine er_il rfl L7 (vi) ?_
      rw [cl b, P.cu hb, p3]
      iterate 2 refine er_s rfl ?_
      refine er_f rfl L0 rfl ?_
      refine er_s rfl ?_
      refine er_il rfl L6 (vi) ?_
      rw [cl b, P.co hb, p1]
      iterate 3 refine er_s rfl ?_
      refine er_b rfl rfl (fun q => absurd q (Int32.not_le.mpr hn)) (fun _ => ?_)
      iterate 3 refine er_s rfl ?_
      refine er_v2 rfl O0 rfl ⟨Nat.le_of_ble_eq_true rfl, Nat.le_of_ble_eq_true rfl⟩ (S) ?_
      refine er_g rfl rfl ?_
      refine er_q (ret_bK rfl kOk_bI) ?_ ?_
      · rfl
      · rfl
    · have es : shadR r b hr = anyB (fun j => decide (CO r b + LN r b - 1 < j ∧ CU r b + (j - (CO r b + LN r b - 1)) + 1 ≤ hgtN r j 8)) 12 := by
        unfold shadR
        rw [if_pos hd, if_neg hn, Bool.eq_iff_iff, anyB_iff, anyB_iff]
        constructor
        · rintro ⟨z, z1, z2⟩
          obtain ⟨z3, z4, z5⟩ := of_decide_eq_true z2
          exact ⟨CO r b + LN r b - 1 + z, by omega, decide_eq_true ⟨by omega, by rw [Nat.add_sub_cancel_left]; exact z5⟩⟩
        · rintro ⟨j, z1, z2⟩
          obtain ⟨z3, z4⟩ := of_decide_eq_true z2
          exact ⟨j - (CO r b + LN r b - 1), by omega, decide_eq_true ⟨by omega, by omega, by rw [show CO r b + LN r b - 1 + (j - (CO r b + LN r b - 1)) = j by omega]; exact z4⟩⟩
      rw [es]
      have S := p_shR d hO hh (a := CO r b + LN r b - 1) (c := CU r b) (by omega) (by omega)
      show EvR _ _ 0 [(0, _), (1, _), (2, _), (3, _)] [] _ _ _
      iterate 2 refine er_s rfl ?_
      refine er_b rfl rfl (fun q => absurd q (Int32.not_lt.mpr hd.1)) (fun _ => ?_)
      iterate 2 refine er_s rfl ?_
      refine er_b rfl rfl (fun q => absurd q (Int32.not_lt.mpr hd.2)) (fun _ => ?_)
      iterate 2 refine er_s rfl ?_
      refine er_v1 rfl L0 rfl ⟨Nat.le_of_ble_eq_true rfl, Nat.le_of_ble_eq_true rfl⟩ (W) ?_
      refine er_b rfl rfl (fun _ => ?_) (fun q => absurd (bI_ne.mpr hs) q)
      refine er_s rfl ?_
      refine er_f rfl L0 rfl ?_
      refine er_s rfl ?_
      refine er_il rfl L7 (vi) ?_
      rw [cl b, P.cu hb, p3]
      iterate 2 refine er_s rfl ?_
      refine er_f rfl L0 rfl ?_
      refine er_s rfl ?_
      refine er_il rfl L6 (vi) ?_
      rw [cl b, P.co hb, p1]
      iterate 3 refine er_s rfl ?_
      refine er_b rfl rfl (fun _ => ?_) (fun q => absurd (Int32.not_lt.mp hn) q)
      iterate 3 refine er_s rfl ?_
      refine er_f rfl L0 rfl ?_
      refine er_s rfl ?_
      refine er_il rfl L3 (vi) ?_
      rw [cl b, P.ln hb, l1]
      iterate 4 refine er_s rfl ?_
      rw [nI_add, nI_mod (by omega)]
      refine er_v2 rfl O0 rfl ⟨Nat.le_of_ble_eq_true rfl, Nat.le_of_ble_eq_true rfl⟩ (S) ?_
      refine er_q (ret_bK rfl kOk_bI) ?_ ?_
      · rfl
      · rfl
  · have es : shadR r b hr = true := by unfold shadR; rw [if_neg hd]
    rw [es]
    by_cases h6 : 6 ≤ hr
    · show EvR _ _ 0 [(0, _), (1, _), (2, _), (3, _)] [] _ _ _
      iterate 2 refine er_s rfl ?_
      refine er_b rfl rfl (fun q => absurd q (Int32.not_lt.mpr h6)) (fun _ => ?_)
      iterate 2 refine er_s rfl ?_
      refine er_b rfl rfl (fun _ => ?_) (fun q => absurd (Int32.not_le.mp (fun q => hd ⟨h6, q⟩)) q)
      refine er_s rfl ?_
      refine er_q (ret_bK rfl rfl) ?_ ?_
      · rfl
      · rfl
    · show EvR _ _ 0 [(0, _), (1, _), (2, _), (3, _)] [] _ _ _
      iterate 2 refine er_s rfl ?_
      refine er_b rfl rfl (fun _ => ?_) (fun q => absurd (Int32.not_le.mp h6) q)
      refine er_s rfl ?_
      refine er_q (ret_bK rfl rfl) ?_ ?_
      · rfl
      · rfl
end
