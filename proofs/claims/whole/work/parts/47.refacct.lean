-- needs: 46
noncomputable section
/-- sums of lengths, reasons, the account -/
def sumN (f : Nat → Nat) : Nat → Nat
  | 0 => 0
  | n + 1 => sumN f n + f n
theorem sumN_congr {f g : Nat → Nat} : ∀ {n : Nat}, (∀ k, k < n → f k = g k) → sumN f n = sumN g n
  | 0, _ => rfl
  | n + 1, h => by
    show sumN f n + f n = sumN g n + g n
    rw [sumN_congr (fun k hk => h k (by omega)), h n (by omega)]
def lenF (r : Nat → Int32) (al : Bool) (k : Nat) : Nat := if al = true ∨ ofB r k 2 = 1 then LN r k else 0
abbrev lenN (r : Nat → Int32) (al : Bool) : Nat := sumN (lenF r al) (CN r)
theorem f_lengths (d : Nat) (x : Int32) {al : Bool} (hx : x = 0 ↔ al = true) (h : AH) (hw : Wel (h.1 1)) : EvM (d + 2) mX11_lengths [.ref 0, .int x] h (some (.int (nI (lenN (h.1 1) al)))) h := by
  have h40 := hw.2.1
  have L : ∀ (m k : Nat), k + m = CN (h.1 1) → EvR (d + 2) mX11_lengths 4 [(0, .ref 0), (1, .int x), (2, .int (nI (sumN (lenF (h.1 1) al) k))), (3, .int (nI k))] [] h (some (.int (nI (lenN (h.1 1) al)))) h := by
    intro m
    induction m with
    | zero =>
      intro k hk
      iterate 4 refine er_s rfl ?_
      refine er_il rfl rfl (vi (k := 4)) ?_
      refine er_b rfl rfl (fun _ => ?_) (fun q => absurd (by show h.1 1 4 ≤ nI k; rw [hw.1, show k = CN (h.1 1) by omega]; exact Int32.le_refl _) q)
      refine er_s rfl ?_
      refine er_q rfl ?_ ?_
      · rw [show k = CN (h.1 1) by omega]
      · rfl
    | succ m ih =>
      intro k hk
      have IH := ih (k + 1) (by omega)
      have O := f_of (d + 1) (b := k) (by omega) (x := 1) (by omega) h
      rw [((hw.2.2 k (by omega)).1.1 : ofB (h.1 1) k 1 = nI (LN (h.1 1) k))] at O
      have W := f_isOnWall (d + 0) (b := k) (by omega) h
      have e : sumN (lenF (h.1 1) al) (k + 1) = sumN (lenF (h.1 1) al) k + lenF (h.1 1) al k := rfl
      rw [show lenF (h.1 1) al k = if al = true ∨ ofB (h.1 1) k 2 = 1 then LN (h.1 1) k else 0 from rfl] at e
      by_cases c0 : x = 0
      · rw [if_pos (Or.inl (hx.mp c0))] at e
        iterate 4 refine er_s rfl ?_
        refine er_il rfl rfl (vi (k := 4)) ?_
        refine er_b rfl rfl (fun q => absurd q (by show ¬ h.1 1 4 ≤ nI k; rw [hw.1]; exact nI_ge (by omega) (by omega))) (fun _ => ?_)
        iterate 2 refine er_s rfl ?_
        refine er_b rfl rfl (fun _ => ?_) (fun q => absurd c0 q)
        iterate 3 refine er_s rfl ?_
        refine er_c rfl rfl ⟨Nat.le_of_ble_eq_true rfl, Nat.le_of_ble_eq_true rfl⟩ (O) ?_
        refine er_g rfl rfl ?_
        iterate 3 refine er_s rfl ?_
        refine er_g rfl rfl ?_
        rw [nI_add, nI_1]
        rw [show sumN (lenF (h.1 1) al) k + LN (h.1 1) k = sumN (lenF (h.1 1) al) (k + 1) from e.symm]
        exact er_sub (sub4 rfl rfl rfl rfl) IH
      · by_cases c1 : ofB (h.1 1) k 2 = 1
        · rw [if_pos (Or.inr c1)] at e
          iterate 4 refine er_s rfl ?_
          refine er_il rfl rfl (vi (k := 4)) ?_
          refine er_b rfl rfl (fun q => absurd q (by show ¬ h.1 1 4 ≤ nI k; rw [hw.1]; exact nI_ge (by omega) (by omega))) (fun _ => ?_)
          iterate 2 refine er_s rfl ?_
          refine er_b rfl rfl (fun q => absurd q c0) (fun _ => ?_)
          iterate 2 refine er_s rfl ?_
          refine er_c rfl rfl ⟨Nat.le_of_ble_eq_true rfl, Nat.le_of_ble_eq_true rfl⟩ (W) ?_
          refine er_b rfl rfl (fun q => absurd q (bI_ne.mpr c1)) (fun _ => ?_)
          iterate 3 refine er_s rfl ?_
          refine er_c rfl rfl ⟨Nat.le_of_ble_eq_true rfl, Nat.le_of_ble_eq_true rfl⟩ (O) ?_
          refine er_g rfl rfl ?_
          iterate 3 refine er_s rfl ?_
          refine er_g rfl rfl ?_
          rw [nI_add, nI_1]
          rw [show sumN (lenF (h.1 1) al) k + LN (h.1 1) k = sumN (lenF (h.1 1) al) (k + 1) from e.symm]
          exact er_sub (sub4 rfl rfl rfl rfl) IH
        · rw [if_neg (fun q => q.elim (fun z => c0 (hx.mpr z)) c1)] at e
          have e := e.trans (Nat.add_zero _)
          iterate 4 refine er_s rfl ?_
          refine er_il rfl rfl (vi (k := 4)) ?_
          refine er_b rfl rfl (fun q => absurd q (by show ¬ h.1 1 4 ≤ nI k; rw [hw.1]; exact nI_ge (by omega) (by omega))) (fun _ => ?_)
          iterate 2 refine er_s rfl ?_
          refine er_b rfl rfl (fun q => absurd q c0) (fun _ => ?_)
          iterate 2 refine er_s rfl ?_
          refine er_c rfl rfl ⟨Nat.le_of_ble_eq_true rfl, Nat.le_of_ble_eq_true rfl⟩ (W) ?_
          refine er_b rfl rfl (fun _ => ?_) (fun q => absurd (bI_eq.mpr c1) q)
          iterate 4 refine er_s rfl ?_
          refine er_g rfl rfl ?_
          rw [Int32.add_zero, nI_1]
          rw [← e]
          exact er_sub (sub4 rfl rfl rfl rfl) IH
  have Z := L (CN (h.1 1)) 0 (by omega)
  show EvR _ _ 0 [(0, _), (1, _)] [] _ _ _
  iterate 4 refine er_s rfl ?_
  exact er_sub (sub4 rfl rfl rfl rfl) Z
abbrev whyN (r : Nat → Int32) (x : Int32) (n : Nat) : Nat := cntP (fun k => decide (ofB r k 7 = x)) n
theorem f_countWhy (d : Nat) (s : Int32) (h : AH) (hw : Wel (h.1 1)) : EvM (d + 1) mX11_countWhy [.ref 0, .int s] h (some (.int (nI (whyN (h.1 1) s (CN (h.1 1)))))) h := by
  have h40 := hw.2.1
  have L : ∀ (m k : Nat), k + m = CN (h.1 1) → EvR (d + 1) mX11_countWhy 4 [(0, .ref 0), (1, .int s), (2, .int (nI (whyN (h.1 1) s k))), (3, .int (nI k))] [] h (some (.int (nI (whyN (h.1 1) s (CN (h.1 1)))))) h := by
    intro m
    induction m with
    | zero =>
      intro k hk
      iterate 4 refine er_s rfl ?_
      refine er_il rfl rfl (vi (k := 4)) ?_
      refine er_b rfl rfl (fun _ => ?_) (fun q => absurd (by show h.1 1 4 ≤ nI k; rw [hw.1, show k = CN (h.1 1) by omega]; exact Int32.le_refl _) q)
      refine er_s rfl ?_
      refine er_q rfl ?_ ?_
      · rw [show k = CN (h.1 1) by omega]
      · rfl
    | succ m ih =>
      intro k hk
      have IH := ih (k + 1) (by omega)
      iterate 4 refine er_s rfl ?_
      refine er_il rfl rfl (vi (k := 4)) ?_
      refine er_b rfl rfl (fun q => absurd q (by show ¬ h.1 1 4 ≤ nI k; rw [hw.1]; exact nI_ge (by omega) (by omega))) (fun _ => ?_)
      iterate 4 refine er_s rfl ?_
      refine er_c rfl rfl ⟨Nat.le_of_ble_eq_true rfl, Nat.le_of_ble_eq_true rfl⟩ (f_of _ (b := k) (by omega) (x := 7) (by omega) _) ?_
      refine er_s rfl ?_
      refine er_b rfl rfl (fun c23 => ?_) (fun c23 => ?_)
      · iterate 4 refine er_s rfl ?_
        refine er_g rfl rfl ?_
        rw [cnt_f (p := fun k => decide (ofB (h.1 1) k 7 = s)) (fun q => c23 (of_decide_eq_true q)), nI_1]
        exact er_sub (sub4 rfl rfl rfl rfl) IH
      · refine er_s rfl ?_
        refine er_g rfl rfl ?_
        iterate 3 refine er_s rfl ?_
        refine er_g rfl rfl ?_
        rw [cnt_t (p := fun k => decide (ofB (h.1 1) k 7 = s)) (decide_eq_true (Decidable.not_not.mp c23)), nI_1]
        exact er_sub (sub4 rfl rfl rfl rfl) IH
  have Z := L (CN (h.1 1)) 0 (by omega)
  show EvR _ _ 0 [(0, _), (1, _)] [] _ _ _
  iterate 4 refine er_s rfl ?_
  exact er_sub (sub4 rfl rfl rfl rfl) Z
def acctC (n : Int32) : Int32 := if 0 ≤ n ∧ n ≤ 14 then 0 else 1
def acctV (r : Nat → Int32) (len kept : Int32) (n : Nat) : Int32 := if n < 5 then r n else if n = 5 then nI (cntS r 0 (CN r)) else if n = 6 then nI (cntS r 1 (CN r)) else if n < 11 then nI (whyN r (nI (n - 6)) (CN r)) else if n = 11 then nI (lenN r false) else if n = 12 then tOf r else if n = 13 then len else kept
theorem sw_a1 : ∀ k, k < 5 → swt (cSw mX11_account 26) (nI k) = 134 := by decide
theorem sw_a2 : ∀ k, k < 4 → swt (cSw mX11_account 26) (nI (k + 7)) = 92 := by decide
theorem f_account (d : Nat) (n : Int32) (h : AH) (hw : Wel (h.1 1)) {T : Nat} (hT : h.1 1 0 = nI T) (hT2 : T < 2 ^ 31) (K : Nat) : WM (d + 3) mX11_account [.ref 0, .int n] h (fun v h' => (∃ a, v = some (.int a) ∧ (acctC n = 0 → a = acctV (h.1 1) (h.1 0 19) (h.1 0 11) n.toNatClampNeg)) ∧ OpP h h' (acctC n) (h.1 0 12) (h.1 0 13) (h.1 1) (h.2.1 5) false K) := by
  have T1 := f_isBetween (d + 2) n 0 14 h
  have e1 : (hI h 0 0 0).1 1 = h.1 1 := hI_ne (by decide)
  have hw1 : Wel ((hI h 0 0 0).1 1) := by rw [e1]; exact hw
  by_cases c1 : 0 ≤ n ∧ n ≤ 14
  · have e : acctC n = 0 := by unfold acctC; rw [if_pos c1]
    obtain ⟨k, hk, rfl⟩ := nI_of2 (M := 14) (n := 14) rfl (Int32.not_lt.mpr c1.1) c1.2
    rw [e, nI_clamp (by omega)]
    have P : ∀ v, WX (d + 3) mX11_account 25 [(0, .ref 0), (1, .int (nI k))] [] (hI h 0 0 0) (fun v' h' => v' = some (.int v) ∧ h' = hI h 0 0 0) → v = acctV (h.1 1) (h.1 0 19) (h.1 0 11) k → WM (d + 3) mX11_account [.ref 0, .int (nI k)] h (fun v h' => (∃ a, v = some (.int a) ∧ ((0 : Int32) = 0 → a = acctV (h.1 1) (h.1 0 19) (h.1 0 11) k)) ∧ OpP h h' 0 (h.1 0 12) (h.1 0 13) (h.1 1) (h.2.1 5) false K) := by
      intro v W ev
      have W2 := W.mono (P := fun v h' => (∃ a, v = some (.int a) ∧ ((0 : Int32) = 0 → a = acctV (h.1 1) (h.1 0 19) (h.1 0 11) k)) ∧ OpP h h' 0 (h.1 0 12) (h.1 0 13) (h.1 1) (h.2.1 5) false K) (fun v' h' z => by rw [z.2]; exact ⟨⟨v, z.1, fun _ => ev⟩, OpP_x⟩)
      show WX _ _ 0 [(0, _), (1, _)] [] _ _
      iterate 5 refine ex_s rfl ?_
      refine ex_c rfl rfl ⟨Nat.le_of_ble_eq_true rfl, Nat.le_of_ble_eq_true rfl⟩ (T1) ?_
      refine ex_b rfl rfl (fun _ => ?_) (fun q => absurd (bI_ne.mpr c1) q)
      refine ex_s rfl ?_
      refine ex_c rfl rfl ⟨Nat.le_of_ble_eq_true rfl, Nat.le_of_ble_eq_true rfl⟩ (f_failsF _ _ _) ?_
      refine ex_b rfl rfl (fun _ => ?_) (fun q => absurd rfl q)
      exact ex_sub (sub2 rfl rfl) W2
    rcases (show k < 5 ∨ k = 5 ∨ k = 6 ∨ (∃ i, i < 4 ∧ k = i + 7) ∨ k = 11 ∨ k = 12 ∨ k = 13 ∨ k = 14 by
      by_cases q : 7 ≤ k ∧ k < 11
      · exact Or.inr (Or.inr (Or.inr (Or.inl ⟨k - 7, by omega, by omega⟩)))
      · omega) with q | rfl | rfl | ⟨i, q, rfl⟩ | rfl | rfl | rfl | rfl
    · refine P (h.1 1 k) ?_ (by unfold acctV; rw [if_pos q])
      refine ex_s rfl ?_
      refine ex_sw rfl (sw_a1 k q) ?_
      iterate 3 refine ex_s rfl ?_
      refine ex_il rfl rfl (vi) ?_
      refine ex_q rfl ?_
      exact ⟨by rw [cl _, e1], rfl⟩
    · refine P _ ?_ (by unfold acctV; rw [if_neg (by decide), if_pos rfl])
      have C := f_countState (d + 1) 0 (hI h 0 0 0) hw1
      rw [e1] at C
      refine ex_s rfl ?_
      refine ex_sw rfl rfl ?_
      iterate 2 refine ex_s rfl ?_
      refine ex_c rfl rfl ⟨Nat.le_of_ble_eq_true rfl, Nat.le_of_ble_eq_true rfl⟩ (C) ?_
      refine ex_q rfl ?_
      exact ⟨rfl, rfl⟩
    · refine P _ ?_ (by unfold acctV; rw [if_neg (by decide), if_neg (by decide), if_pos rfl])
      have C := f_countState (d + 1) 1 (hI h 0 0 0) hw1
      rw [e1] at C
      refine ex_s rfl ?_
      refine ex_sw rfl rfl ?_
      iterate 2 refine ex_s rfl ?_
      refine ex_c rfl rfl ⟨Nat.le_of_ble_eq_true rfl, Nat.le_of_ble_eq_true rfl⟩ (C) ?_
      refine ex_q rfl ?_
      exact ⟨rfl, rfl⟩
    · refine P _ ?_ (by unfold acctV; rw [if_neg (by omega), if_neg (by omega), if_neg (by omega), if_pos (by omega)])
      have C := f_countWhy (d + 1) (nI (i + 7 - 6)) (hI h 0 0 0) hw1
      rw [e1] at C
      refine ex_s rfl ?_
      refine ex_sw rfl (sw_a2 i q) ?_
      iterate 4 refine ex_s rfl ?_
      rw [show (6 : Int32) = nI 6 from rfl, nI_sub (by omega)]
      refine ex_c rfl rfl ⟨Nat.le_of_ble_eq_true rfl, Nat.le_of_ble_eq_true rfl⟩ (C) ?_
      refine ex_q rfl ?_
      exact ⟨rfl, rfl⟩
    · refine P _ ?_ (by unfold acctV; rw [if_neg (by decide), if_neg (by decide), if_neg (by decide), if_neg (by decide), if_pos rfl])
      have C := f_lengths (d + 0) 1 (al := false) (by decide) (hI h 0 0 0) hw1
      rw [e1] at C
      refine ex_s rfl ?_
      refine ex_sw rfl rfl ?_
      iterate 2 refine ex_s rfl ?_
      refine ex_c rfl rfl ⟨Nat.le_of_ble_eq_true rfl, Nat.le_of_ble_eq_true rfl⟩ (C) ?_
      refine ex_q rfl ?_
      exact ⟨rfl, rfl⟩
    · refine P (tOf (h.1 1)) ?_ (by unfold acctV; rw [if_neg (by decide), if_neg (by decide), if_neg (by decide), if_neg (by decide), if_neg (by decide), if_pos rfl])
      have hc : CK (h.1 1) = T := by show (h.1 1 0).toNatClampNeg = T; rw [hT, nI_clamp hT2]
      have h24 : T % 24 < 24 := Nat.mod_lt _ (by decide)
      refine ex_s rfl ?_
      refine ex_sw rfl rfl ?_
      iterate 6 refine ex_s rfl ?_
      refine ex_il rfl rfl (vi (k := 0)) ?_
      rw [k0, e1, hT]
      iterate 2 refine ex_s rfl ?_
      rw [show (24 : Int32) = nI 24 from rfl, pk_rem (by omega) (by decide) (by decide)]
      refine ex_s rfl ?_
      rw [show (5 : Int32) = nI 5 from rfl, nI_add]
      refine ex_il rfl rfl (vi) ?_
      refine ex_q rfl ?_
      exact ⟨by rw [cl _, e1]; unfold tOf hrOf; rw [hc], rfl⟩
    · refine P (h.1 0 19) ?_ (by unfold acctV; rw [if_neg (by decide), if_neg (by decide), if_neg (by decide), if_neg (by decide), if_neg (by decide), if_neg (by decide), if_pos rfl])
      refine ex_s rfl ?_
      refine ex_sw rfl rfl ?_
      iterate 2 refine ex_s rfl ?_
      refine ex_q rfl ?_
      exact ⟨rfl, rfl⟩
    · refine P (h.1 0 11) ?_ (by unfold acctV; rw [if_neg (by decide), if_neg (by decide), if_neg (by decide), if_neg (by decide), if_neg (by decide), if_neg (by decide), if_neg (by decide)])
      refine ex_s rfl ?_
      refine ex_sw rfl rfl ?_
      iterate 2 refine ex_s rfl ?_
      refine ex_q rfl ?_
      exact ⟨rfl, rfl⟩
  · have e : acctC n = 1 := by unfold acctC; rw [if_neg c1]
    rw [e]
    show WX _ _ 0 [(0, _), (1, _)] [] _ _
    iterate 5 refine ex_s rfl ?_
    refine ex_c rfl rfl ⟨Nat.le_of_ble_eq_true rfl, Nat.le_of_ble_eq_true rfl⟩ (T1) ?_
    refine ex_b rfl rfl (fun q => absurd q (fun q => q (bI_eq.mpr c1))) (fun _ => ?_)
    refine ex_s rfl ?_
    refine ex_g rfl rfl ?_
    refine ex_c rfl rfl ⟨Nat.le_of_ble_eq_true rfl, Nat.le_of_ble_eq_true rfl⟩ (f_failsT _ _ _) ?_
    refine ex_b rfl rfl (fun q => absurd q (by decide)) (fun _ => ?_)
    refine ex_s rfl ?_
    refine ex_q rfl ?_
    exact ⟨⟨_, rfl, fun q => absurd q (by decide)⟩, OpP_x⟩
end
