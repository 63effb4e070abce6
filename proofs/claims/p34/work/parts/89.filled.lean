-- needs: 88
noncomputable section
theorem cntP_or {p q : Nat → Bool} : ∀ n, (∀ k, k < n → ¬ (p k = true ∧ q k = true)) → cntP (fun k => p k || q k) n = cntP p n + cntP q n
  | 0, _ => rfl
  | n + 1, h => by
    have IH := cntP_or n (fun k hk => h k (by omega))
    have hn := h n (by omega)
    show cntP (fun k => p k || q k) n + (if (p n || q n) = true then 1 else 0) = (cntP p n + (if p n = true then 1 else 0)) + (cntP q n + (if q n = true then 1 else 0))
    rw [IH]
    cases hp : p n <;> cases hq : q n
    · simp
    · simp; omega
    · simp; omega
    · exact absurd ⟨hp, hq⟩ hn
/-- the cells that a block covers, and those that the first n do -/
def cvB (r : Nat → Int32) (b i : Nat) : Bool := decide (ofB r b 2 = 1 ∧ 12 * CU r b + CO r b ≤ i ∧ i < 12 * CU r b + CO r b + LN r b)
def cvN (r : Nat → Int32) : Nat → Nat → Bool
  | 0, _ => false
  | n + 1, i => cvN r n i || cvB r n i
theorem cvN_ex {r : Nat → Int32} {i : Nat} : ∀ {n : Nat}, cvN r n i = true → ∃ b, b < n ∧ cvB r b i = true
  | 0, h => absurd (show false = true from h) (by decide)
  | n + 1, h => by
    have h : (cvN r n i || cvB r n i) = true := h
    rw [Bool.or_eq_true] at h
    rcases h with h | h
    · obtain ⟨b, b1, b2⟩ := cvN_ex h
      exact ⟨b, by omega, b2⟩
    · exact ⟨n, by omega, h⟩
theorem cvN_in {r : Nat → Int32} {i b : Nat} (hc : cvB r b i = true) : ∀ {n : Nat}, b < n → cvN r n i = true
  | 0, h => absurd h (by omega)
  | n + 1, h => by
    show (cvN r n i || cvB r n i) = true
    rw [Bool.or_eq_true]
    by_cases e : b = n
    · subst e; exact Or.inr hc
    · exact Or.inl (cvN_in hc (by omega))
theorem cvB_g {r : Nat → Int32} (hS : Str r) {b i : Nat} (hb : b < CN r) (hi : i < 96) (h : cvB r b i = true) : r (29 + i) = nI b := by
  obtain ⟨h1, h2, h3⟩ := of_decide_eq_true h
  have ok := (hS.1.2.2 b hb).2 h1
  have o2 := ok.2.1
  have g := hS.2.2.1 (i / 12) (i % 12) b (by omega) (by omega) hb ⟨h1, by omega, by omega, by omega⟩
  rw [← g]
  show r (29 + i) = r (29 + 12 * (i / 12) + i % 12)
  exact congrArg r (by omega)
theorem cnt_cv {r : Nat → Int32} (hS : Str r) : ∀ n, n ≤ CN r → cntP (cvN r n) 96 = sumN (lenF r false) n
  | 0, _ => by
    have z0 : ¬ 0 < cntP (cvN r 0) 96 := fun z => by
      obtain ⟨k, -, k2⟩ := cntP_pos.mp z
      exact absurd (show false = true from k2) (by decide)
    exact (Nat.eq_zero_of_not_pos z0).trans rfl
  | n + 1, hn => by
    have IH := cnt_cv hS n (by omega)
    have h40 := hS.1.2.1
    have ho := cntP_or (p := cvN r n) (q := cvB r n) 96 (fun i hi z => by
      obtain ⟨b, b1, b2⟩ := cvN_ex z.1
      have e1 := cvB_g hS (b := b) (by omega) hi b2
      have e2 := cvB_g hS (b := n) (by omega) hi z.2
      have := (nI_eq (by omega) (by omega)).mp (e1.symm.trans e2)
      omega)
    show cntP (fun i => cvN r n i || cvB r n i) 96 = sumN (lenF r false) n + lenF r false n
    rw [ho, IH]
    refine congrArg (fun x => sumN (lenF r false) n + x) ?_
    unfold lenF
    by_cases c : ofB r n 2 = 1
    · rw [if_pos (Or.inr c)]
      have ok := (hS.1.2.2 n (by omega)).2 c
      have o2 := ok.2.1
      have o4 := ok.2.2.2.1
      rw [cntP_congr (q := fun k => decide (12 * CU r n + CO r n ≤ k ∧ k < 12 * CU r n + CO r n + LN r n)) (fun k _ => by
        unfold cvB
        by_cases z : 12 * CU r n + CO r n ≤ k ∧ k < 12 * CU r n + CO r n + LN r n
        · rw [decide_eq_true z, decide_eq_true ⟨c, z⟩]
        · rw [decide_eq_false z, decide_eq_false (fun y => z y.2)]), cntP_iv]
      omega
    · rw [if_neg (fun z => z.elim (by decide) c)]
      have z0 : ¬ 0 < cntP (cvB r n) 96 := fun z => by
        obtain ⟨k, -, k2⟩ := cntP_pos.mp z
        exact c (of_decide_eq_true k2).1
      exact Nat.eq_zero_of_not_pos z0
theorem filled_n {r : Nat → Int32} (hS : Str r) : cntP (fun i => decide (0 ≤ r (29 + i))) 96 = lenN r false := by
  show _ = sumN (lenF r false) (CN r)
  rw [← cnt_cv hS (CN r) (Nat.le_refl _)]
  refine cntP_congr (fun i hi => ?_)
  have h40 := hS.1.2.1
  have eg : gAt r (i / 12) (i % 12) = r (29 + i) := by
    show r (29 + 12 * (i / 12) + i % 12) = r (29 + i)
    exact congrArg r (by omega)
  rcases hS.2.2.2.1 (i / 12) (i % 12) (by omega) (by omega) with z | ⟨b, z1, z2, z3⟩
  · rw [eg] at z
    rw [decide_eq_false (by rw [z]; decide)]
    refine (Bool.eq_false_iff.mpr (fun y => ?_)).symm
    obtain ⟨b, b1, b2⟩ := cvN_ex y
    have g := cvB_g hS b1 hi b2
    exact absurd (z.symm.trans g) (fun q => absurd (show (0 : Int32) ≤ -1 by rw [q]; exact nI_pos' (by omega)) (by decide))
  · rw [eg] at z2
    rw [decide_eq_true (by rw [z2]; exact nI_pos' (by omega))]
    refine (cvN_in (b := b) (decide_eq_true ⟨z3.1, ?_, ?_⟩) z1).symm
    · have := z3.2.1; have := z3.2.2.1; omega
    · have := z3.2.1; have := z3.2.2.2; omega
end
