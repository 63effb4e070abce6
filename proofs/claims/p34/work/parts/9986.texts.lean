noncomputable section
section
variable {I J : Nat → Int32} {L : Nat}
theorem seeB_c (h : ∀ j, j < L → I j = J j) (s : TS) (a b : Int32) : seeB I L s a b = seeB J L s a b := by
  unfold seeB
  by_cases c : s.1 < L
  · rw [h _ c]
  · rw [decide_eq_false c, Bool.and_false, Bool.false_and, Bool.false_and]
theorem seeB_lt {s : TS} {a b : Int32} (h : seeB I L s a b = true) : s.1 < L := by
  unfold seeB at h
  rw [Bool.and_eq_true, Bool.and_eq_true] at h
  exact of_decide_eq_true h.1.2
theorem mustS_c (h : ∀ j, j < L → I j = J j) (s : TS) (a : Int32) : mustS I L s a = mustS J L s a := by
  unfold mustS
  rw [seeB_c h]
theorem numL_c (h : ∀ j, j < L → I j = J j) : ∀ (n v a : Nat), numL I L n v a = numL J L n v a
  | 0, _, _ => rfl
  | n + 1, v, a => by
    show (if seeB I L (a, false) 48 57 = true then numL I L n (10 * v + dgN I a) (a + 1) else (v, a)) = (if seeB J L (a, false) 48 57 = true then numL J L n (10 * v + dgN J a) (a + 1) else (v, a))
    rw [seeB_c h]
    by_cases c : seeB J L (a, false) 48 57 = true
    · have e : dgN I a = dgN J a := by
        unfold dgN
        rw [h a (seeB_lt c)]
      rw [if_pos c, if_pos c, e]
      exact numL_c h n _ _
    · rw [if_neg c, if_neg c]
theorem numS_c (h : ∀ j, j < L → I j = J j) (n : Nat) (s : TS) : numS I L n s = numS J L n s := by
  unfold numS
  rw [seeB_c h, numL_c h]
theorem negS_c (h : ∀ j, j < L → I j = J j) (s : TS) : negS I L s = negS J L s := by
  unfold negS
  rw [seeB_c h]
theorem negI_c (h : ∀ j, j < L → I j = J j) (s : TS) : negI I L s = negI J L s := by
  unfold negI
  rw [seeB_c h]
theorem ordK_c (h : ∀ j, j < L → I j = J j) (s : TS) (o : Int32) : ordK I L s o = ordK J L s o := by
  unfold ordK rdSaw rdLay rdHeat rdOne
  simp only [mustS_c h, numS_c h, negS_c h, negI_c h]
theorem knB_c (h : ∀ j, j < L → I j = J j) (s : TS) : knB I L s = knB J L s := by
  unfold knB
  simp only [seeB_c h]
theorem knB_lt {s : TS} (h : knB I L s = true) : s.1 < L := by
  unfold knB at h
  simp only [Bool.or_eq_true] at h
  rcases h with (((h | h) | h) | h) | h <;> exact seeB_lt h
theorem rdOrd_c (h : ∀ j, j < L → I j = J j) (s : TS) : rdOrd I L s = rdOrd J L s := by
  unfold rdOrd
  rw [knB_c h]
  by_cases c : knB J L s = true
  · rw [if_pos c, if_pos c, h _ (knB_lt c), ordK_c h]
  · rw [if_neg c, if_neg c]
theorem oS_c (h : ∀ j, j < L → I j = J j) : ∀ n, oS I L n = oS J L n
  | 0 => rfl
  | n + 1 => by
    show mustS I L (rdOrd I L (oS I L n)).1 59 = mustS J L (rdOrd J L (oS J L n)).1 59
    rw [oS_c h n, rdOrd_c h, mustS_c h]
theorem rdI_c (h : ∀ j, j < L → I j = J j) (n : Nat) : rdI I L n = rdI J L n := by
  show rdOrd I L (oS I L n) = rdOrd J L (oS J L n)
  rw [oS_c h n, rdOrd_c h]
theorem rdWr_c (h : ∀ j, j < L → I j = J j) : rdWr I L = rdWr J L := by
  have e : stP9 I L = stP9 J L := funext fun i => by
    unfold stP9
    rw [rdI_c h]
  show (rdI I L (fstP (stP9 I L) 61 61 0)).1.2 = (rdI J L (fstP (stP9 J L) 61 61 0)).1.2
  rw [e, rdI_c h]
end
/-- the texts of the law are texts of orders -/
theorem txB_rd : ∀ i, i < 12 → rdWr (fun j => (txB.getD i []).getD j 0) (txB.getD i []).length = false := by decide +kernel
theorem apT_ok : ∀ (B : List Int32) (T : Tx), T.1 + B.length ≤ 60 → (apT B T).1 = T.1 + B.length ∧ (apT B T).2.1 = T.2.1 ∧ (∀ j, j < T.1 → (apT B T).2.2 j = T.2.2 j) ∧ ∀ j, j < B.length → (apT B T).2.2 (T.1 + j) = B.getD j 0
  | [], T, _ => ⟨rfl, rfl, fun _ _ => rfl, fun j hj => absurd hj (Nat.not_lt_zero _)⟩
  | x :: B, T, h => by
    have h : T.1 + (B.length + 1) ≤ 60 := h
    have e : apS T x = (T.1 + 1, T.2.1, upd T.2.2 T.1 x) := if_pos (by omega)
    obtain ⟨a1, a2, a3, a4⟩ := apT_ok B (T.1 + 1, T.2.1, upd T.2.2 T.1 x) (by show T.1 + 1 + B.length ≤ 60; omega)
    have e2 : apT (x :: B) T = apT B (T.1 + 1, T.2.1, upd T.2.2 T.1 x) := congrArg (apT B) e
    rw [e2]
    refine ⟨by rw [a1]; show T.1 + 1 + B.length = T.1 + (B.length + 1); omega, a2, fun j hj => ?_, fun j hj => ?_⟩
    · rw [a3 j (by show j < T.1 + 1; omega)]
      show upd T.2.2 T.1 x j = _
      unfold upd
      rw [if_neg (by omega)]
    · cases j with
      | zero =>
        show (apT B (T.1 + 1, T.2.1, upd T.2.2 T.1 x)).2.2 T.1 = _
        rw [a3 T.1 (Nat.lt_succ_self _)]
        show upd T.2.2 T.1 x T.1 = x
        unfold upd
        rw [if_pos rfl]
      | succ j =>
        have hj : j + 1 < B.length + 1 := hj
        have z := a4 j (by omega)
        rw [show T.1 + (j + 1) = T.1 + 1 + j by omega]
        exact z
theorem tx_rd {T : Tx} (h0 : T.1 = 0) {i : Nat} (hi : i < 12) : rdWr (apT (txB.getD i []) T).2.2 (apT (txB.getD i []) T).1 = false := by
  have h16 := txB_n i (by omega)
  obtain ⟨a1, a2, a3, a4⟩ := apT_ok (txB.getD i []) T (by omega)
  rw [a1, h0, Nat.zero_add]
  rw [rdWr_c (J := fun j => (txB.getD i []).getD j 0) (fun j hj => by have z := a4 j hj; rw [h0, Nat.zero_add] at z; exact z)]
  exact txB_rd i hi
end
