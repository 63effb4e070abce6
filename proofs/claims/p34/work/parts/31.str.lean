-- needs: 30
noncomputable section
/-- b fills the place c j -/
def cov (r : Nat → Int32) (b c j : Nat) : Prop := ofB r b 2 = 1 ∧ CU r b = c ∧ CO r b ≤ j ∧ j < CO r b + LN r b
def BlkS (r : Nat → Int32) (b : Nat) : Prop := (ofB r b 0 = 0 ∨ ofB r b 0 = 1) ∧
  ((ofB r b 2 = 0 ∧ ofB r b 3 = -1 ∧ ofB r b 4 = -1 ∧ ofB r b 5 = 0 ∧ (∃ p, p < 5 ∧ ofB r b 6 = nI p) ∧ ofB r b 7 = 0) ∨
   (ofB r b 2 = 1 ∧ ofB r b 6 = -1 ∧ ofB r b 7 = 0) ∨
   (ofB r b 2 = 2 ∧ ofB r b 3 = -1 ∧ ofB r b 4 = -1 ∧ ofB r b 5 = 0 ∧ ofB r b 6 = -1 ∧ (∃ y, 1 ≤ y ∧ y ≤ 4 ∧ ofB r b 7 = nI y)))
def GrA (r : Nat → Int32) : Prop := ∀ c j b, c < 8 → j < 12 → b < CN r → cov r b c j → gAt r c j = nI b
def GrB (r : Nat → Int32) : Prop := ∀ c j, c < 8 → j < 12 → gAt r c j = -1 ∨ ∃ b, b < CN r ∧ gAt r c j = nI b ∧ cov r b c j
def RkU (r : Nat → Int32) : Prop := ∀ a b, a < CN r → b < CN r → a ≠ b → ofB r a 2 = 0 → ofB r b 2 = 0 → ofB r a 0 = ofB r b 0 → ofB r a 6 ≠ ofB r b 6
/-- the order of a row: blocks, wall and racks fit -/
def Str (r : Nat → Int32) : Prop := Wel r ∧ (∀ b, b < CN r → BlkS r b) ∧ GrA r ∧ GrB r ∧ RkU r
theorem Str.w {r : Nat → Int32} (h : Str r) : Wel r := h.1
theorem Str.b {r : Nat → Int32} (h : Str r) {b : Nat} (hb : b < CN r) : BlkS r b := h.2.1 b hb
theorem Str.cu {r : Nat → Int32} (h : Str r) {b : Nat} (hb : b < CN r) (hs : ¬ ofB r b 2 = 1) : ofB r b 4 = -1 := by
  rcases (h.b hb).2 with q | q | q
  · exact q.2.2.1
  · exact absurd q.1 hs
  · exact q.2.2.1
theorem goes_cov {r : Nat → Int32} {a b c j : Nat} {y : Int32} (hp : ofB r a 2 = 1 → PlOk r a) : cov (goesR r a y) b c j ↔ b ≠ a ∧ cov r b c j := by
  unfold cov
  by_cases e : b = a
  · subst e
    rw [(goesR_eq hp).2.2.1]
    exact ⟨fun q => absurd q.1 (by decide), fun q => absurd rfl q.1⟩
  · show ofB (goesR r a y) b 2 = 1 ∧ (ofB (goesR r a y) b 4).toNatClampNeg = c ∧ (ofB (goesR r a y) b 3).toNatClampNeg ≤ j ∧ j < (ofB (goesR r a y) b 3).toNatClampNeg + (ofB (goesR r a y) b 1).toNatClampNeg ↔ _
    rw [goesR_ne hp e (by decide), goesR_ne hp e (by decide), goesR_ne hp e (by decide), goesR_ne hp e (by decide)]
    exact ⟨fun q => ⟨e, q⟩, fun q => q.2⟩
theorem goes_Str {r : Nat → Int32} {a : Nat} {y : Nat} (h : Str r) (ha : a < CN r) (h1 : 1 ≤ y) (h4 : y ≤ 4) : Str (goesR r a (nI y)) := by
  obtain ⟨hw, hb, hA, hB, hR⟩ := h
  have hp := (hw.2.2 a ha).2
  have h40 := hw.2.1
  refine ⟨goesR_Wel hw ha, ?_, ?_, ?_, ?_⟩
  · intro b hb2
    rw [goesR_CN] at hb2
    by_cases e : b = a
    · subst e
      obtain ⟨e0, e1, e2, e3, e4, e5, e6, e7⟩ := goesR_eq (wy := nI y) hp
      exact ⟨by rw [e0]; exact (hb b hb2).1, Or.inr (Or.inr ⟨e2, e3, e4, e5, e6, y, h1, h4, e7⟩)⟩
    · unfold BlkS
      rw [goesR_ne hp e (by decide), goesR_ne hp e (by decide), goesR_ne hp e (by decide), goesR_ne hp e (by decide), goesR_ne hp e (by decide), goesR_ne hp e (by decide), goesR_ne hp e (by decide)]
      exact hb b hb2
  · intro c j b hc hj hb2 hq
    rw [goesR_CN] at hb2
    obtain ⟨e, hq⟩ := (goes_cov hp).mp hq
    rw [goesR_g hp hc hj, if_neg]
    · exact hA c j b hc hj hb2 hq
    · rintro ⟨q1, q2, q3, q4⟩
      have g1 := hA c j b hc hj hb2 hq
      have g2 := hA c j a hc hj ha ⟨q1, q2.symm, q3, q4⟩
      rw [g1] at g2
      exact e ((nI_eq (by omega) (by omega)).mp g2)
  · intro c j hc hj
    rw [goesR_g hp hc hj]
    by_cases q : ofB r a 2 = 1 ∧ c = CU r a ∧ CO r a ≤ j ∧ j < CO r a + LN r a
    · rw [if_pos q]; exact Or.inl rfl
    · rw [if_neg q]
      rcases hB c j hc hj with h0 | ⟨b, b1, b2, b3⟩
      · exact Or.inl h0
      · refine Or.inr ⟨b, by rw [goesR_CN]; exact b1, b2, (goes_cov hp).mpr ⟨fun e => ?_, b3⟩⟩
        subst e
        exact q ⟨b3.1, b3.2.1.symm, b3.2.2.1, b3.2.2.2⟩
  · intro x z hx hz hne sx sz kk
    rw [goesR_CN] at hx hz
    have ex : x ≠ a := fun e => by subst e; rw [(goesR_eq hp).2.2.1] at sx; cases sx
    have ez : z ≠ a := fun e => by subst e; rw [(goesR_eq hp).2.2.1] at sz; cases sz
    rw [goesR_ne hp ex (by decide)] at sx kk ⊢
    rw [goesR_ne hp ez (by decide)] at sz kk ⊢
    exact hR x z hx hz hne sx sz kk
/-- the block at a place of a rack -/
theorem fstP_congr {p q : Nat → Bool} {n : Nat} : ∀ (m k : Nat), (∀ j, k ≤ j → j < k + m → p j = q j) → fstP p n m k = fstP q n m k
  | 0, _, _ => rfl
  | m + 1, k, h => by
    unfold fstP
    rw [h k (Nat.le_refl k) (by omega), fstP_congr m (k + 1) (fun j h1 h2 => h j (by omega) (by omega))]
theorem fstP_eq {p : Nat → Bool} {n b : Nat} : ∀ (m k : Nat), k + m = n → k ≤ b → b < n → p b = true → (∀ j, k ≤ j → j < b → ¬ p j = true) → fstP p n m k = b
  | 0, k, e, h1, h2, _, _ => by omega
  | m + 1, k, e, h1, h2, hp, hn => by
    unfold fstP
    by_cases hk : k = b
    · subst hk; exact if_pos hp
    · rw [if_neg (hn k (Nat.le_refl k) (by omega))]
      exact fstP_eq m (k + 1) (by omega) (by omega) h2 hp (fun j h3 h4 => hn j (by omega) h4)
theorem fstP_none {p : Nat → Bool} {n : Nat} : ∀ (m k : Nat), k + m = n → (∀ j, k ≤ j → j < n → ¬ p j = true) → fstP p n m k = n
  | 0, k, e, _ => rfl
  | m + 1, k, e, h => by
    unfold fstP
    rw [if_neg (h k (Nat.le_refl k) (by omega))]
    exact fstP_none m (k + 1) (by omega) (fun j h1 h2 => h j (by omega) h2)
/-- one that is in a rack stands where its place says -/
theorem blkIn_of {r : Nat → Int32} (hR : RkU r) {b : Nat} (hb : b < CN r) (hs : ofB r b 2 = 0) : blkIn r (ofB r b 0) (ofB r b 6) = b := by
  refine fstP_eq (CN r) 0 (by omega) (Nat.zero_le b) hb (decide_eq_true ⟨hs, rfl, rfl⟩) (fun j h1 h2 q => ?_)
  obtain ⟨q1, q2, q3⟩ := of_decide_eq_true q
  exact hR j b (by omega) hb (by omega) q1 hs q2 q3
theorem blkIn_not {r : Nat → Int32} {x y : Int32} (h : ∀ j, j < CN r → ¬ (ofB r j 2 = 0 ∧ ofB r j 0 = x ∧ ofB r j 6 = y)) : blkIn r x y = CN r :=
  fstP_none (CN r) 0 (by omega) (fun j _ h2 q => h j h2 (of_decide_eq_true q))
theorem blkIn_some {r : Nat → Int32} {x y : Int32} (h : blkIn r x y < CN r) : ofB r (blkIn r x y) 2 = 0 ∧ ofB r (blkIn r x y) 0 = x ∧ ofB r (blkIn r x y) 6 = y := of_decide_eq_true (fstP_p _ _ h)
/-- a block of the wall goes: racks stay -/
theorem blkIn_goesW {r : Nat → Int32} {a : Nat} {y x z : Int32} (hp : ofB r a 2 = 1 → PlOk r a) (hs : ¬ ofB r a 2 = 0) : blkIn (goesR r a y) x z = blkIn r x z := by
  unfold blkIn
  rw [goesR_CN]
  refine fstP_congr _ _ (fun j _ hj => ?_)
  unfold inP
  by_cases e : j = a
  · subst e
    rw [decide_eq_false (fun q => by rw [(goesR_eq hp).2.2.1] at q; exact absurd q.1 (by decide)), decide_eq_false (fun q => hs q.1)]
  · rw [goesR_ne hp e (by decide), goesR_ne hp e (by decide), goesR_ne hp e (by decide)]
/-- a block leaves its rack -/
theorem orM_eq {r r' : Nat → Int32} {a : Nat} (hR : RkU r) (ha : a < CN r) (hs : ofB r a 2 = 0) (hc : CN r' = CN r) (hn : ¬ ofB r' a 2 = 0) (hb : ∀ j, j ≠ a → j < CN r → ofB r' j 2 = ofB r j 2 ∧ ofB r' j 0 = ofB r j 0 ∧ ofB r' j 6 = ofB r j 6) (x z : Int32) : orM (blkIn r' x z) (CN r') = if ofB r a 0 = x ∧ ofB r a 6 = z then -1 else orM (blkIn r x z) (CN r) := by
  by_cases e : ofB r a 0 = x ∧ ofB r a 6 = z
  · rw [if_pos e, blkIn_not (fun j hj q => ?_), orM_n]
    rw [hc] at hj
    by_cases ej : j = a
    · subst ej; exact hn q.1
    · obtain ⟨b1, b2, b3⟩ := hb j ej hj
      rw [b1, b2, b3] at q
      exact hR j a hj ha ej q.1 hs (q.2.1.trans e.1.symm) (q.2.2.trans e.2.symm)
  · rw [if_neg e]
    have : blkIn r' x z = blkIn r x z := by
      unfold blkIn
      rw [hc]
      refine fstP_congr _ _ (fun j _ hj => ?_)
      unfold inP
      by_cases ej : j = a
      · subst ej
        rw [decide_eq_false (fun q => hn q.1), decide_eq_false (fun q => e q.2)]
      · obtain ⟨b1, b2, b3⟩ := hb j ej (by omega)
        rw [b1, b2, b3]
    rw [this, hc]
theorem cntP_le_of {p q : Nat → Bool} {n : Nat} (h : ∀ k, k < n → p k = q k) : cntP p n = cntP q n := cntP_congr h
/-- in how many columns a lies on b: the part that they share -/
theorem cntP_iv {n lo hi : Nat} : cntP (fun k => decide (lo ≤ k ∧ k < hi)) n = min hi n - lo := by
  induction n with
  | zero => show 0 = _; omega
  | succ n ih =>
    unfold cntP
    rw [ih]
    by_cases h : lo ≤ n ∧ n < hi
    · rw [if_pos (decide_eq_true h)]; omega
    · rw [if_neg (fun q => h (of_decide_eq_true q))]; omega
theorem colsN_sh {r : Nat → Int32} (h : Str r) {a b : Nat} (ha : a < CN r) (hb : b < CN r) (sa : ofB r a 2 = 1) (sb : ofB r b 2 = 1) (hc : CU r a = CU r b + 1) : colsN r a b = min (CO r a + LN r a) (CO r b + LN r b) - max (CO r a) (CO r b) := by
  have pa := (h.1.2.2 a ha).2 sa
  have pb := (h.1.2.2 b hb).2 sb
  have h40 := h.1.2.1
  obtain ⟨-, a2, -, a4, -, -⟩ := pa
  obtain ⟨-, b2, -, b4, -, -⟩ := pb
  have e : colsN r a b = cntP (fun k => decide (CO r b - CO r a ≤ k ∧ k < CO r b + LN r b - CO r a)) (LN r a) := by
    refine cntP_congr (fun k hk => ?_)
    unfold colP
    have hj : CO r a + k < 12 := by omega
    have hcu : CU r a - 1 = CU r b := by omega
    rw [hcu]
    by_cases q : CO r b - CO r a ≤ k ∧ k < CO r b + LN r b - CO r a
    · rw [decide_eq_true q]
      exact decide_eq_true (h.2.2.1 (CU r b) (CO r a + k) b (by omega) hj hb ⟨sb, rfl, by omega, by omega⟩)
    · rw [decide_eq_false q]
      refine decide_eq_false (fun z => q ?_)
      rcases h.2.2.2.1 (CU r b) (CO r a + k) (by omega) hj with h0 | ⟨b', c1, c2, c3⟩
      · rw [h0] at z
        exact absurd (nI_pos' (n := b) (by omega)) (by rw [← z]; decide)
      · rw [c2] at z
        have := (nI_eq (by omega) (by omega)).mp z
        subst this
        have := c3.2.2
        omega
  rw [e, cntP_iv]
  omega
end
