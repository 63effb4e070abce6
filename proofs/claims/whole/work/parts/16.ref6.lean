-- needs: 15
noncomputable section
/-- the load by the blocks above: nothing stands above course 7 -/
theorem onB_CU {r : Nat → Int32} {k b : Nat} (hk : PlOk r k) (hb : PlOk r b) (e : ofB r k 4 = ofB r b 4 + 1) : CU r k = CU r b + 1 := by
  rw [hb.2.2.1, nI_1] at e
  exact CU_nI hk (by have := hb.2.2.2.1; omega) e
theorem f_loadOf (h : AH) (hw : Wel (h.1 1)) (hm : MasW (h.1 1) (h.2.1 5)) : ∀ (n d b : Nat), b < CN (h.1 1) → ofB (h.1 1) b 2 = 1 → 7 - CU (h.1 1) b = n → EvM (d + n + 4) mX11_loadOf [.ref 0, .int (nI b)] h (some (.float (LD (h.1 1) (h.2.1 5) n b))) h := by
  intro n
  induction n with
  | zero =>
    intro d b hb hs hn
    have h40 := hw.2.1
    have pb := (hw.2.2 b hb).2 hs
    have L : ∀ (m k : Nat), k + m = CN (h.1 1) → EvR (d + 4) mX11_loadOf 4 [(0, .ref 0), (1, .int (nI b)), (2, .float 0), (3, .int (nI k))] [] h (some (.float 0)) h := by
      intro m
      induction m with
      | zero =>
        intro k hk
        iterate 4 refine er_s rfl ?_
        refine er_il rfl rfl (vi (k := 4)) ?_
        refine er_b rfl rfl (fun _ => ?_) (fun q => absurd (by show h.1 1 4 ≤ nI k; rw [hw.1, show k = CN (h.1 1) by omega]; exact Int32.le_refl _) q)
        refine er_s rfl ?_
        refine er_q rfl ?_ ?_
        · rfl
        · rfl
      | succ m ih =>
        intro k hk
        have IH := ih (k + 1) (by omega)
        iterate 4 refine er_s rfl ?_
        refine er_il rfl rfl (vi (k := 4)) ?_
        refine er_b rfl rfl (fun q => absurd q (by show ¬ h.1 1 4 ≤ nI k; rw [hw.1]; exact nI_ge (by omega) (by omega))) (fun _ => ?_)
        iterate 2 refine er_s rfl ?_
        refine er_c rfl rfl ⟨Nat.le_of_ble_eq_true rfl, Nat.le_of_ble_eq_true rfl⟩ (f_isOnWall _ (b := k) (by omega) _) ?_
        refine er_b rfl rfl (fun c19 => ?_) (fun c19 => ?_)
        · refine er_s rfl ?_
          refine er_g rfl rfl ?_
          rw [nI_1]
          exact er_sub (sub4 rfl rfl rfl rfl) IH
        · iterate 3 refine er_s rfl ?_
          refine er_c rfl rfl ⟨Nat.le_of_ble_eq_true rfl, Nat.le_of_ble_eq_true rfl⟩ (f_of _ (b := k) (by omega) (x := 4) (by omega) _) ?_
          iterate 3 refine er_s rfl ?_
          refine er_c rfl rfl ⟨Nat.le_of_ble_eq_true rfl, Nat.le_of_ble_eq_true rfl⟩ (f_of _ (b := b) (by omega) (x := 4) (by omega) _) ?_
          iterate 2 refine er_s rfl ?_
          refine er_b rfl rfl (fun c36 => ?_) (fun c36 => ?_)
          · refine er_s rfl ?_
            refine er_g rfl rfl ?_
            rw [nI_1]
            exact er_sub (sub4 rfl rfl rfl rfl) IH
          · exact absurd (onB_CU ((hw.2.2 k (by omega)).2 (bI_ne.mp c19)) pb (Decidable.not_not.mp c36)) (by have := ((hw.2.2 k (by omega)).2 (bI_ne.mp c19)).2.2.2.1; omega)
    have Z := L (CN (h.1 1)) 0 (by omega)
    show EvR _ _ 0 [(0, _), (1, _)] [] _ _ _
    iterate 4 refine er_s rfl ?_
    exact er_sub (sub4 rfl rfl rfl rfl) Z
  | succ n ihn =>
    intro d b hb hs hn
    have h40 := hw.2.1
    have pb := (hw.2.2 b hb).2 hs
    have L : ∀ (m k : Nat), k + m = CN (h.1 1) → EvR (d + (n + 1) + 4) mX11_loadOf 4 [(0, .ref 0), (1, .int (nI b)), (2, .float (LDs (LD (h.1 1) (h.2.1 5) n) (h.1 1) (h.2.1 5) b k)), (3, .int (nI k))] [] h (some (.float (LD (h.1 1) (h.2.1 5) (n + 1) b))) h := by
      intro m
      induction m with
      | zero =>
        intro k hk
        iterate 4 refine er_s rfl ?_
        refine er_il rfl rfl (vi (k := 4)) ?_
        refine er_b rfl rfl (fun _ => ?_) (fun q => absurd (by show h.1 1 4 ≤ nI k; rw [hw.1, show k = CN (h.1 1) by omega]; exact Int32.le_refl _) q)
        refine er_s rfl ?_
        refine er_q rfl ?_ ?_
        · rw [show k = CN (h.1 1) by omega]
          rfl
        · rfl
      | succ m ih =>
        intro k hk
        have IH := ih (k + 1) (by omega)
        have hkC : k < CN (h.1 1) := by omega
        obtain ⟨lk, pk⟩ := hw.2.2 k hkC
        have l7 := colsN_le (b := b) lk
        rw [LDs_s] at IH
        by_cases hq : onB (h.1 1) k b
        · rw [if_pos (onBb_t.mpr hq)] at IH
          have pk := pk hq.1
          have ck := onB_CU pk pb hq.2.1
          have hP := LDs_P hw hm hb (n := n) (by omega) (fun k2 hk2 => LD_ok hw hm n k2 (by omega) hk2) k (by omega)
          obtain ⟨n1, n2, n3, n4, -⟩ := share_nn hw hm hkC hb hq.1 hq.2.2 (n := n) (j := k) (by omega) (LD_ok hw hm n k (by omega) hkC) (by omega) hP
          have R := ihn (d) k hkC hq.1 (by omega)
          iterate 4 refine er_s rfl ?_
          refine er_il rfl rfl (vi (k := 4)) ?_
          refine er_b rfl rfl (fun q => absurd q (by show ¬ h.1 1 4 ≤ nI k; rw [hw.1]; exact nI_ge (by omega) (by omega))) (fun _ => ?_)
          iterate 2 refine er_s rfl ?_
          refine er_c rfl rfl ⟨Nat.le_of_ble_eq_true rfl, Nat.le_of_ble_eq_true rfl⟩ (f_isOnWall _ (b := k) (by omega) _) ?_
          refine er_b rfl rfl (fun q => absurd q (fun q => absurd (bI_eq.mp q) (fun z => z hq.1))) (fun _ => ?_)
          iterate 3 refine er_s rfl ?_
          refine er_c rfl rfl ⟨Nat.le_of_ble_eq_true rfl, Nat.le_of_ble_eq_true rfl⟩ (f_of _ (b := k) (by omega) (x := 4) (by omega) _) ?_
          iterate 3 refine er_s rfl ?_
          refine er_c rfl rfl ⟨Nat.le_of_ble_eq_true rfl, Nat.le_of_ble_eq_true rfl⟩ (f_of _ (b := b) (by omega) (x := 4) (by omega) _) ?_
          iterate 2 refine er_s rfl ?_
          refine er_b rfl rfl (fun q => absurd q (fun q => q hq.2.1)) (fun _ => ?_)
          iterate 3 refine er_s rfl ?_
          refine er_c rfl rfl ⟨Nat.le_of_ble_eq_true rfl, Nat.le_of_ble_eq_true rfl⟩ (f_columnsOn _ (a := k) (b := b) (by omega) (by omega) _ lk pk (by omega)) ?_
          refine er_b rfl rfl (fun q => absurd q (nI_nle hq.2.2 (by omega))) (fun _ => ?_)
          iterate 4 refine er_s rfl ?_
          refine er_fl rfl rfl (vi) ?_
          iterate 2 refine er_s rfl ?_
          refine er_c rfl rfl ⟨Nat.le_of_ble_eq_true rfl, Nat.le_of_ble_eq_true rfl⟩ (R) ?_
          rw [cl k]
          refine er_fadd rfl n1 ?_
          iterate 3 refine er_s rfl ?_
          refine er_c rfl rfl ⟨Nat.le_of_ble_eq_true rfl, Nat.le_of_ble_eq_true rfl⟩ (f_columnsOn _ (a := k) (b := b) (by omega) (by omega) _ lk pk (by omega)) ?_
          refine er_s rfl ?_
          refine er_fmul rfl n2 ?_
          iterate 2 refine er_s rfl ?_
          refine er_c rfl rfl ⟨Nat.le_of_ble_eq_true rfl, Nat.le_of_ble_eq_true rfl⟩ (f_supported _ (b := k) (by omega) _ lk pk) ?_
          refine er_s rfl ?_
          refine er_fdiv rfl n3 ?_
          refine er_fadd rfl n4 ?_
          iterate 2 refine er_s rfl ?_
          refine er_g rfl rfl ?_
          rw [nI_1]
          exact er_sub (sub4 rfl rfl rfl rfl) IH
        · rw [if_neg (fun q => hq (onBb_t.mp q))] at IH
          iterate 4 refine er_s rfl ?_
          refine er_il rfl rfl (vi (k := 4)) ?_
          refine er_b rfl rfl (fun q => absurd q (by show ¬ h.1 1 4 ≤ nI k; rw [hw.1]; exact nI_ge (by omega) (by omega))) (fun _ => ?_)
          iterate 2 refine er_s rfl ?_
          refine er_c rfl rfl ⟨Nat.le_of_ble_eq_true rfl, Nat.le_of_ble_eq_true rfl⟩ (f_isOnWall _ (b := k) (by omega) _) ?_
          refine er_b rfl rfl (fun c19 => ?_) (fun c19 => ?_)
          · refine er_s rfl ?_
            refine er_g rfl rfl ?_
            rw [nI_1]
            exact er_sub (sub4 rfl rfl rfl rfl) IH
          · iterate 3 refine er_s rfl ?_
            refine er_c rfl rfl ⟨Nat.le_of_ble_eq_true rfl, Nat.le_of_ble_eq_true rfl⟩ (f_of _ (b := k) (by omega) (x := 4) (by omega) _) ?_
            iterate 3 refine er_s rfl ?_
            refine er_c rfl rfl ⟨Nat.le_of_ble_eq_true rfl, Nat.le_of_ble_eq_true rfl⟩ (f_of _ (b := b) (by omega) (x := 4) (by omega) _) ?_
            iterate 2 refine er_s rfl ?_
            refine er_b rfl rfl (fun c36 => ?_) (fun c36 => ?_)
            · refine er_s rfl ?_
              refine er_g rfl rfl ?_
              rw [nI_1]
              exact er_sub (sub4 rfl rfl rfl rfl) IH
            · iterate 3 refine er_s rfl ?_
              refine er_c rfl rfl ⟨Nat.le_of_ble_eq_true rfl, Nat.le_of_ble_eq_true rfl⟩ (f_columnsOn _ (a := k) (b := b) (by omega) (by omega) _ lk (pk (bI_ne.mp c19)) (by have := onB_CU (pk (bI_ne.mp c19)) pb (Decidable.not_not.mp c36); omega)) ?_
              refine er_b rfl rfl (fun c45 => ?_) (fun c45 => ?_)
              · refine er_s rfl ?_
                refine er_g rfl rfl ?_
                rw [nI_1]
                exact er_sub (sub4 rfl rfl rfl rfl) IH
              · exact absurd ⟨bI_ne.mp c19, Decidable.not_not.mp c36, Nat.pos_of_ne_zero (fun z => c45 (show nI (colsN (h.1 1) k b) ≤ 0 by rw [z]; decide))⟩ hq
    have Z := L (CN (h.1 1)) 0 (by omega)
    show EvR _ _ 0 [(0, _), (1, _)] [] _ _ _
    iterate 4 refine er_s rfl ?_
    exact er_sub (sub4 rfl rfl rfl rfl) Z
/-- how high a column is, by its first n courses -/
def hgtN (r : Nat → Int32) (j : Nat) : Nat → Nat
  | 0 => 0
  | n + 1 => if 0 ≤ gAt r n j then n + 1 else hgtN r j n
theorem hgtN_le (r : Nat → Int32) (j : Nat) : ∀ n, hgtN r j n ≤ n
  | 0 => Nat.le_refl _
  | n + 1 => by
    unfold hgtN
    split
    · exact Nat.le_refl _
    · exact Nat.le_succ_of_le (hgtN_le r j n)
theorem f_heightOf (d : Nat) {j : Nat} (hj : j < 12) (h : AH) : EvM (d + 2) mX11_heightOf [.ref 0, .int (nI j)] h (some (.int (nI (hgtN (h.1 1) j 8)))) h := by
  have L : ∀ (m k : Nat), k + m = 8 → EvR (d + 2) mX11_heightOf 4 [(0, .ref 0), (1, .int (nI j)), (2, .int (nI (hgtN (h.1 1) j k))), (3, .int (nI k))] [] h (some (.int (nI (hgtN (h.1 1) j 8)))) h := by
    intro m
    induction m with
    | zero =>
      intro k hk
      have hk : k = 8 := by omega
      subst hk
      iterate 2 refine er_s rfl ?_
      refine er_b rfl rfl (fun _ => ?_) (fun q => absurd (Int32.le_refl _) q)
      refine er_s rfl ?_
      refine er_q rfl ?_ ?_
      · rfl
      · rfl
    | succ m ih =>
      intro k hk
      have IH := ih (k + 1) (by omega)
      iterate 2 refine er_s rfl ?_
      refine er_b rfl rfl (fun q => absurd q (nI_ge (b := 8) (by omega) (by omega))) (fun _ => ?_)
      iterate 3 refine er_s rfl ?_
      refine er_c rfl rfl ⟨Nat.le_of_ble_eq_true rfl, Nat.le_of_ble_eq_true rfl⟩ (f_isFilled _ (c := k) (j := j) (by omega) (by omega) _) ?_
      refine er_b rfl rfl (fun c16 => ?_) (fun c16 => ?_)
      · iterate 3 refine er_s rfl ?_
        refine er_g rfl rfl ?_
        rw [show hgtN (h.1 1) j (k + 1) = hgtN (h.1 1) j k from if_neg (fun q => bI_eq.mp c16 ⟨by omega, q⟩)] at IH
        rw [nI_1]
        exact er_sub (sub4 rfl rfl rfl rfl) IH
      · iterate 3 refine er_s rfl ?_
        refine er_g rfl rfl ?_
        iterate 2 refine er_s rfl ?_
        refine er_g rfl rfl ?_
        rw [show hgtN (h.1 1) j (k + 1) = k + 1 from if_pos (bI_ne.mp c16).2] at IH
        rw [nI_1]
        exact er_sub (sub4 rfl rfl rfl rfl) IH
  have Z := L 8 0 rfl
  show EvR _ _ 0 [(0, _), (1, _)] [] _ _ _
  iterate 4 refine er_s rfl ?_
  exact er_sub (sub4 rfl rfl rfl rfl) Z
/-- some k below n has p -/
def anyB (p : Nat → Bool) : Nat → Bool
  | 0 => false
  | n + 1 => p n || anyB p n
theorem anyB_iff {p : Nat → Bool} {n : Nat} : anyB p n = true ↔ ∃ k, k < n ∧ p k = true := by
  induction n with
  | zero => exact ⟨fun h => (Bool.false_ne_true h).elim, fun ⟨k, h, _⟩ => absurd h (Nat.not_lt_zero k)⟩
  | succ n ih =>
    unfold anyB
    rw [Bool.or_eq_true, ih]
    constructor
    · rintro (h | ⟨k, h1, h2⟩)
      · exact ⟨n, Nat.lt_succ_self n, h⟩
      · exact ⟨k, by omega, h2⟩
    · rintro ⟨k, h1, h2⟩
      by_cases hk : k = n
      · subst hk; exact Or.inl h2
      · exact Or.inr ⟨k, by omega, h2⟩
/-- a shadow from the left, from the right, at a distance -/
def shL (r : Nat → Int32) (b : Nat) : Nat → Bool := fun k => decide (0 < k ∧ k ≤ CO r b ∧ CU r b + k + 1 ≤ hgtN r (CO r b - k) 8)
def shR (r : Nat → Int32) (b : Nat) : Nat → Bool := fun k => decide (0 < k ∧ CO r b + LN r b - 1 + k ≤ 11 ∧ CU r b + k + 1 ≤ hgtN r (CO r b + LN r b - 1 + k) 8)
def shadR (r : Nat → Int32) (b : Nat) (hr : Int32) : Bool := if 6 ≤ hr ∧ hr ≤ 17 then (if hr < 12 then anyB (shL r b) 12 else anyB (shR r b) 12) else true
theorem bIb (x : Bool) : bI (x = true) = if x then 1 else 0 := by cases x <;> rfl
theorem or_t (x : Bool) : bI (x = true) ||| 1 = 1 := by cases x <;> decide
theorem or_f (x : Bool) : bI (x = true) ||| 0 = bI (x = true) := by cases x <;> decide
theorem anyB_t {p : Nat → Bool} {k : Nat} (h : p k = true) : bI (anyB p k = true) ||| 1 = bI (anyB p (k + 1) = true) := by
  rw [or_t]
  exact (bI_t (by unfold anyB; rw [h]; rfl)).symm
theorem anyB_f {p : Nat → Bool} {k : Nat} (h : ¬ p k = true) : bI (anyB p k = true) ||| 0 = bI (anyB p (k + 1) = true) := by
  rw [or_f]
  have e : anyB p (k + 1) = anyB p k := by
    show (p k || anyB p k) = _
    rw [Bool.eq_false_iff.mpr h]
    rfl
  rw [e]
theorem nI_sub {a b : Nat} (h : b ≤ a) : nI a - nI b = nI (a - b) := by
  obtain ⟨z, rfl⟩ := Nat.exists_eq_add_of_le h
  rw [← nI_add, Nat.add_sub_cancel_left, Int32.add_comm, Int32.add_sub_cancel]
theorem nI_sub_neg {a b : Nat} (h : a < b) (hb : b < 2 ^ 31) : nI a - nI b < 0 := by
  rw [Int32.lt_iff_toInt_lt, Int32.toInt_sub, nI_toInt (by omega), nI_toInt hb]
  show Int.bmod ((a : Int) - (b : Int)) (2 ^ 32) < 0
  simp only [Int.bmod]
  split <;> omega
theorem f_isInShadow (d : Nat) {b : Nat} (hb : b < 40) (hr : Int32) (h : AH) (h1 : LnOk (h.1 1) b) (h2 : PlOk (h.1 1) b) : EvM (d + 3) mX11_isInShadow [.ref 0, .int (nI b), .int hr] h (some (.int (bI (shadR (h.1 1) b hr = true)))) h := by
  obtain ⟨l1, l2, l3⟩ := h1
  obtain ⟨p1, p2, p3, p4, p5, p6⟩ := h2
  by_cases hd : 6 ≤ hr ∧ hr ≤ 17
  · by_cases hn : hr < 12
    · have es : shadR (h.1 1) b hr = anyB (shL (h.1 1) b) 12 := by unfold shadR; rw [if_pos hd, if_pos hn]
      rw [es]
      have L : ∀ (m k : Nat), k + m = 12 → 0 < k → EvR (d + 3) mX11_isInShadow 61 [(0, .ref 0), (1, .int (nI b)), (3, .int 1), (4, .int (nI (CO (h.1 1) b))), (5, .int (bI (anyB (shL (h.1 1) b) k = true))), (6, .int (nI k))] [] h (some (.int (bI (anyB (shL (h.1 1) b) 12 = true)))) h := by
        intro m
        induction m with
        | zero =>
          intro k hk _
          have hk : k = 12 := by omega
          subst hk
          iterate 2 refine er_s rfl ?_
          refine er_b rfl rfl (fun _ => ?_) (fun q => absurd (Int32.le_refl _) q)
          refine er_s rfl ?_
          refine er_q (ret_bK rfl kOk_bI) ?_ ?_
          · rfl
          · rfl
        | succ m ih =>
          intro k hk hk0
          have IH := ih (k + 1) (by omega) (by omega)
          by_cases hc : k ≤ CO (h.1 1) b
          · have hh := hgtN_le (h.1 1) (CO (h.1 1) b - k) 8
            iterate 2 refine er_s rfl ?_
            refine er_b rfl rfl (fun q => absurd q (nI_ge (b := 12) (by omega) (by omega))) (fun _ => ?_)
            refine er_s rfl ?_
            refine er_b rfl rfl (fun q => absurd q (by decide)) (fun _ => ?_)
            iterate 3 refine er_s rfl ?_
            refine er_g rfl rfl ?_
            rw [nI_sub hc]
            iterate 5 refine er_s rfl ?_
            refine er_c rfl rfl ⟨Nat.le_of_ble_eq_true rfl, Nat.le_of_ble_eq_true rfl⟩ (f_isBetween _ _ _ _ _) ?_
            refine er_b rfl rfl (fun q => absurd q (fun q => bI_eq.mp q ⟨nI_pos' (by omega), nI_le (b := 11) (by omega) (by omega)⟩)) (fun _ => ?_)
            iterate 2 refine er_s rfl ?_
            refine er_c rfl rfl ⟨Nat.le_of_ble_eq_true rfl, Nat.le_of_ble_eq_true rfl⟩ (f_heightOf _ (j := CO (h.1 1) b - k) (by omega) _) ?_
            iterate 3 refine er_s rfl ?_
            refine er_c rfl rfl ⟨Nat.le_of_ble_eq_true rfl, Nat.le_of_ble_eq_true rfl⟩ (f_of _ hb (x := 4) (by omega) _) ?_
            iterate 4 refine er_s rfl ?_
            rw [p3, nI_add, nI_1]
            refine er_b rfl rfl (fun c117 => ?_) (fun c117 => ?_)
            · iterate 4 refine er_s rfl ?_
              refine er_g rfl rfl ?_
              rw [anyB_f (fun q => by have := (of_decide_eq_true q).2.2; exact nI_ge (show hgtN (h.1 1) (CO (h.1 1) b - k) 8 < CU (h.1 1) b + k + 1 from (nI_ltI (by omega) (by omega)).mp c117) (by omega) (nI_le this (by omega))), nI_1]
              exact er_sub (sub6 rfl rfl rfl rfl rfl rfl) IH
            · refine er_s rfl ?_
              refine er_g rfl rfl ?_
              iterate 3 refine er_s rfl ?_
              refine er_g rfl rfl ?_
              rw [anyB_t (decide_eq_true ⟨hk0, hc, Nat.not_lt.mp (fun q => c117 (nI_lt q (by omega)))⟩), nI_1]
              exact er_sub (sub6 rfl rfl rfl rfl rfl rfl) IH
          · iterate 2 refine er_s rfl ?_
            refine er_b rfl rfl (fun q => absurd q (nI_ge (b := 12) (by omega) (by omega))) (fun _ => ?_)
            refine er_s rfl ?_
            refine er_b rfl rfl (fun q => absurd q (by decide)) (fun _ => ?_)
            iterate 3 refine er_s rfl ?_
            refine er_g rfl rfl ?_
            iterate 5 refine er_s rfl ?_
            refine er_c rfl rfl ⟨Nat.le_of_ble_eq_true rfl, Nat.le_of_ble_eq_true rfl⟩ (f_isBetween _ _ _ _ _) ?_
            refine er_b rfl rfl (fun _ => ?_) (fun q => absurd (bI_eq.mpr (fun q => nlt q.1 (nI_sub_neg (by omega) (by omega)))) q)
            iterate 4 refine er_s rfl ?_
            refine er_g rfl rfl ?_
            rw [anyB_f (fun q => hc (of_decide_eq_true q).2.1), nI_1]
            exact er_sub (sub6 rfl rfl rfl rfl rfl rfl) IH
      have Z := L 11 1 rfl (by decide)
      show EvR _ _ 0 [(0, _), (1, _), (2, _)] [] _ _ _
      iterate 3 refine er_s rfl ?_
      refine er_c rfl rfl ⟨Nat.le_of_ble_eq_true rfl, Nat.le_of_ble_eq_true rfl⟩ (f_isBetween _ _ _ _ _) ?_
      refine er_b rfl rfl (fun _ => ?_) (fun q => absurd (bI_ne.mpr hd) q)
      iterate 2 refine er_s rfl ?_
      refine er_b rfl rfl (fun q => absurd q (Int32.not_le.mpr hn)) (fun _ => ?_)
      refine er_s rfl ?_
      refine er_g rfl rfl ?_
      iterate 2 refine er_s rfl ?_
      refine er_b rfl rfl (fun q => absurd q (by decide)) (fun _ => ?_)
      iterate 3 refine er_s rfl ?_
      refine er_c rfl rfl ⟨Nat.le_of_ble_eq_true rfl, Nat.le_of_ble_eq_true rfl⟩ (f_of _ hb (x := 3) (by omega) _) ?_
      refine er_g rfl rfl ?_
      iterate 5 refine er_s rfl ?_
      rw [p1]
      exact er_sub (sub6 rfl rfl rfl rfl rfl rfl) Z
    · have es : shadR (h.1 1) b hr = anyB (shR (h.1 1) b) 12 := by unfold shadR; rw [if_pos hd, if_neg hn]
      rw [es]
      have L : ∀ (m k : Nat), k + m = 12 → 0 < k → EvR (d + 3) mX11_isInShadow 61 [(0, .ref 0), (1, .int (nI b)), (3, .int 0), (4, .int (nI (CO (h.1 1) b + LN (h.1 1) b - 1))), (5, .int (bI (anyB (shR (h.1 1) b) k = true))), (6, .int (nI k))] [] h (some (.int (bI (anyB (shR (h.1 1) b) 12 = true)))) h := by
        intro m
        induction m with
        | zero =>
          intro k hk _
          have hk : k = 12 := by omega
          subst hk
          iterate 2 refine er_s rfl ?_
          refine er_b rfl rfl (fun _ => ?_) (fun q => absurd (Int32.le_refl _) q)
          refine er_s rfl ?_
          refine er_q (ret_bK rfl kOk_bI) ?_ ?_
          · rfl
          · rfl
        | succ m ih =>
          intro k hk hk0
          have IH := ih (k + 1) (by omega) (by omega)
          by_cases hc : CO (h.1 1) b + LN (h.1 1) b - 1 + k ≤ 11
          · have hh := hgtN_le (h.1 1) (CO (h.1 1) b + LN (h.1 1) b - 1 + k) 8
            iterate 2 refine er_s rfl ?_
            refine er_b rfl rfl (fun q => absurd q (nI_ge (b := 12) (by omega) (by omega))) (fun _ => ?_)
            refine er_s rfl ?_
            refine er_b rfl rfl (fun _ => ?_) (fun q => absurd rfl q)
            iterate 3 refine er_s rfl ?_
            rw [nI_add]
            iterate 5 refine er_s rfl ?_
            refine er_c rfl rfl ⟨Nat.le_of_ble_eq_true rfl, Nat.le_of_ble_eq_true rfl⟩ (f_isBetween _ _ _ _ _) ?_
            refine er_b rfl rfl (fun q => absurd q (fun q => bI_eq.mp q ⟨nI_pos' (by omega), nI_le (b := 11) hc (by omega)⟩)) (fun _ => ?_)
            iterate 2 refine er_s rfl ?_
            refine er_c rfl rfl ⟨Nat.le_of_ble_eq_true rfl, Nat.le_of_ble_eq_true rfl⟩ (f_heightOf _ (j := CO (h.1 1) b + LN (h.1 1) b - 1 + k) (by omega) _) ?_
            iterate 3 refine er_s rfl ?_
            refine er_c rfl rfl ⟨Nat.le_of_ble_eq_true rfl, Nat.le_of_ble_eq_true rfl⟩ (f_of _ hb (x := 4) (by omega) _) ?_
            iterate 4 refine er_s rfl ?_
            rw [p3, nI_add, nI_1]
            refine er_b rfl rfl (fun c117 => ?_) (fun c117 => ?_)
            · iterate 4 refine er_s rfl ?_
              refine er_g rfl rfl ?_
              rw [anyB_f (fun q => by have := (of_decide_eq_true q).2.2; exact nI_ge (show hgtN (h.1 1) (CO (h.1 1) b + LN (h.1 1) b - 1 + k) 8 < CU (h.1 1) b + k + 1 from (nI_ltI (by omega) (by omega)).mp c117) (by omega) (nI_le this (by omega))), nI_1]
              exact er_sub (sub6 rfl rfl rfl rfl rfl rfl) IH
            · refine er_s rfl ?_
              refine er_g rfl rfl ?_
              iterate 3 refine er_s rfl ?_
              refine er_g rfl rfl ?_
              rw [anyB_t (decide_eq_true ⟨hk0, hc, Nat.not_lt.mp (fun q => c117 (nI_lt q (by omega)))⟩), nI_1]
              exact er_sub (sub6 rfl rfl rfl rfl rfl rfl) IH
          · iterate 2 refine er_s rfl ?_
            refine er_b rfl rfl (fun q => absurd q (nI_ge (b := 12) (by omega) (by omega))) (fun _ => ?_)
            refine er_s rfl ?_
            refine er_b rfl rfl (fun _ => ?_) (fun q => absurd rfl q)
            iterate 3 refine er_s rfl ?_
            rw [nI_add]
            iterate 5 refine er_s rfl ?_
            refine er_c rfl rfl ⟨Nat.le_of_ble_eq_true rfl, Nat.le_of_ble_eq_true rfl⟩ (f_isBetween _ _ _ _ _) ?_
            refine er_b rfl rfl (fun _ => ?_) (fun q => absurd (bI_eq.mpr (fun q => nI_ge (a := 11) (Nat.not_le.mp hc) (by omega) q.2)) q)
            iterate 4 refine er_s rfl ?_
            refine er_g rfl rfl ?_
            rw [anyB_f (fun q => hc (of_decide_eq_true q).2.1), nI_1]
            exact er_sub (sub6 rfl rfl rfl rfl rfl rfl) IH
      have Z := L 11 1 rfl (by decide)
      show EvR _ _ 0 [(0, _), (1, _), (2, _)] [] _ _ _
      iterate 3 refine er_s rfl ?_
      refine er_c rfl rfl ⟨Nat.le_of_ble_eq_true rfl, Nat.le_of_ble_eq_true rfl⟩ (f_isBetween _ _ _ _ _) ?_
      refine er_b rfl rfl (fun _ => ?_) (fun q => absurd (bI_ne.mpr hd) q)
      iterate 2 refine er_s rfl ?_
      refine er_b rfl rfl (fun _ => ?_) (fun q => absurd (Int32.not_lt.mp hn) q)
      iterate 3 refine er_s rfl ?_
      refine er_b rfl rfl (fun _ => ?_) (fun q => absurd rfl q)
      iterate 3 refine er_s rfl ?_
      refine er_c rfl rfl ⟨Nat.le_of_ble_eq_true rfl, Nat.le_of_ble_eq_true rfl⟩ (f_of _ hb (x := 3) (by omega) _) ?_
      iterate 3 refine er_s rfl ?_
      refine er_c rfl rfl ⟨Nat.le_of_ble_eq_true rfl, Nat.le_of_ble_eq_true rfl⟩ (f_of _ hb (x := 1) (by omega) _) ?_
      iterate 8 refine er_s rfl ?_
      rw [p1, l1, nI_add, nI_mod (by omega)]
      exact er_sub (sub6 rfl rfl rfl rfl rfl rfl) Z
  · have es : shadR (h.1 1) b hr = true := by unfold shadR; rw [if_neg hd]
    rw [es]
    show EvR _ _ 0 [(0, _), (1, _), (2, _)] [] _ _ _
    iterate 3 refine er_s rfl ?_
    refine er_c rfl rfl ⟨Nat.le_of_ble_eq_true rfl, Nat.le_of_ble_eq_true rfl⟩ (f_isBetween _ _ _ _ _) ?_
    refine er_b rfl rfl (fun q => absurd q (fun q => q (bI_eq.mpr hd))) (fun _ => ?_)
    refine er_s rfl ?_
    refine er_q (ret_bK rfl rfl) ?_ ?_
    · rfl
    · rfl
end
