-- needs: 61
noncomputable section
theorem Inv.hd {B : Nat} {r : Nat → Int32} {w : Nat → UInt32} (h : Inv B r w) {i : Nat} {x : Int32} (hi : i < 29) (h1 : i ≠ 1) (h2 : i ≠ 2) (h4 : i ≠ 4) (hs : HS B (upd r i x) w) : Inv B (upd r i x) w := by
  obtain ⟨i1, i2, i3, i4, i5, i6, i7, i8⟩ := h
  refine ⟨upd_Str i1 hi h4, hs, MasK_upd i3 (by omega) h4, i4.upd (by omega), i5, upd_Sup i6 hi h4, ?_, ?_⟩
  · obtain ⟨l, e1, e2⟩ := i7
    exact ⟨l, by rw [upd_ne (Ne.symm h2)]; exact e1, by rw [lenN_of (upd_CN h4) (fun b hb => upd_ne (by omega))]; exact e2⟩
  · obtain ⟨T, t1, t2⟩ := i8
    exact ⟨T, t1, by rw [upd_ne (Ne.symm h1)]; exact t2⟩
theorem Inv.heat {B : Nat} {r : Nat → Int32} {w : Nat → UInt32} (h : Inv B r w) (hr te : Int32) : Inv B (heatR r hr te) w := by
  unfold heatR
  split
  · next hc =>
    unfold heatC at hc
    by_cases c1 : 0 ≤ hr ∧ hr ≤ 23
    · rw [if_neg (fun q => q c1)] at hc
      by_cases c2 : -30 ≤ te ∧ te ≤ 20
      · obtain ⟨n, hn, rfl⟩ := nI_of2 (M := 23) (n := 23) rfl (Int32.not_lt.mpr c1.1) c1.2
        rw [nI_clamp (show n < 2 ^ 31 by omega)]
        exact h.hd (by omega) (by omega) (by omega) (by omega) (HS_t h.2.1 (by omega) c2.1 c2.2)
      · rw [if_pos c2] at hc; exact absurd hc (by decide)
    · rw [if_pos c1] at hc; exact absurd hc (by decide)
  · exact h
theorem Inv.visit {B : Nat} {r : Nat → Int32} {w : Nat → UInt32} (h : Inv B r w) (v : Int32) : Inv B (visitR r v) w := by
  unfold visitR
  split
  · next hc =>
    unfold visitC at hc
    by_cases c1 : 0 ≤ v ∧ v ≤ 50
    · obtain ⟨n, hn, rfl⟩ := nI_of2 (M := 50) (n := 50) rfl (Int32.not_lt.mpr c1.1) c1.2
      exact h.hd (by omega) (by omega) (by omega) (by omega) (HS_v h.2.1 hn)
    · rw [if_pos c1] at hc; exact absurd hc (by decide)
  · exact h
theorem Inv.saw9 {B : Nat} {r : Nat → Int32} {w : Nat → UInt32} (h : Inv B r w) (kind len rack : Int32) : Inv B (sawR9 r kind len rack) (sawW9 r w kind len rack) := by
  unfold sawR9 sawW9
  split
  · next hc => exact h.saw hc
  · exact h
theorem Inv.pass {B : Nat} {r : Nat → Int32} {w : Nat → UInt32} (h : Inv B r w) (n : Int32) (hB : B + 48 < 2 ^ 30) : ∃ B', B' ≤ B + 48 ∧ Inv B' (passR r w n) (passW r w n) := by
  unfold passR passW
  split
  · next hc =>
    unfold passC at hc
    by_cases c1 : 1 ≤ n ∧ n ≤ 48
    · obtain ⟨N, hN, rfl⟩ := nI_of2 (M := 48) (n := 48) rfl (Int32.not_lt.mpr (Int32.le_trans (by decide) c1.1)) c1.2
      rw [nI_clamp (by omega)]
      exact ⟨B + N, by omega, h.hours N (by omega)⟩
    · rw [if_pos c1] at hc; exact absurd hc (by decide)
  · exact ⟨B, by omega, h⟩
theorem Inv.take {B : Nat} {r : Nat → Int32} {w : Nat → UInt32} (h : Inv B r w) {b : Nat} (hb : b < CN r) (hs : ofB r b 2 = 0) : Inv B (goesR r b 1) w := by
  obtain ⟨i1, i2, i3, i4, i5, i6, i7, i8⟩ := h
  have hw := i1.1
  have hp := (hw.2.2 b hb).2
  have ns : ¬ ofB r b 2 = 1 := by rw [hs]; decide
  have eg : ∀ c j, c < 8 → j < 12 → gAt (goesR r b 1) c j = gAt r c j := fun c j hc hj => by rw [goesR_g hp hc hj, if_neg (fun q => ns q.1)]
  have eb : ∀ k x, k ≠ b → x < 8 → ofB (goesR r b 1) k x = ofB r k x := fun k x hk hx => goesR_ne hp hk hx
  have e2 := (goesR_eq (wy := 1) hp).2.2.1
  have ek : CK (goesR r b 1) = CK r := congrArg Int32.toNatClampNeg (goesR_hd (by decide))
  refine ⟨goes_Str (y := 1) i1 hb (by decide) (by decide), ⟨goesR_Wel hw hb, fun k hk hz => ?_, ⟨?_, ?_, i2.2.2.1.2.2⟩, ?_, fun i hi => ?_⟩, fun k hk hz => ?_, i4.goes hw hb, i5, fun k hk hz => ?_, ?_, ?_⟩
  · rw [goesR_CN] at hk
    by_cases e : k = b
    · subst e; rw [e2] at hz; exact absurd hz (by decide)
    · exact i2.2.1 k hk (by rw [← eb k 2 e (by decide)]; exact hz)
  · rw [ek, goesR_hd (by decide)]
    exact i2.2.2.1.1
  · rw [ek]
    exact i2.2.2.1.2.1
  · rw [goesR_hd (by decide)]
    exact i2.2.2.2.1
  · rw [goesR_hd (by omega)]
    exact i2.2.2.2.2 i hi
  · rw [goesR_CN] at hk
    by_cases e : k = b
    · subst e; rw [e2] at hz; exact absurd hz (by decide)
    · exact i3 k hk (by rw [← eb k 2 e (by decide)]; exact hz)
  · rw [goesR_CN] at hk
    by_cases e : k = b
    · subst e; rw [e2] at hz; exact absurd hz (by decide)
    · have hs2 : ofB r k 2 = 1 := by rw [← eb k 2 e (by decide)]; exact hz
      have s1 := sup_of (r' := goesR r b 1) (fun x hx => eb k x e hx) ((hw.2.2 k hk).2 hs2) (fun c j hc hj z => by rw [eg c j hc hj]; exact z)
      have s2 := i6 k hk hs2
      have e1 : LN (goesR r b 1) k = LN r k := congrArg Int32.toNatClampNeg (eb k 1 e (by decide))
      omega
  · obtain ⟨l, l1, l2⟩ := i7
    exact ⟨l, by rw [goesR_hd (by decide)]; exact l1, by rw [lenN_of goesR_CN (fun k _ => goesR_LN hp)]; exact l2⟩
  · obtain ⟨T, t1, t2⟩ := i8
    exact ⟨T, t1, by rw [goesR_hd (by decide)]; exact t2⟩
theorem Inv.take9 {B : Nat} {r : Nat → Int32} {w : Nat → UInt32} (h : Inv B r w) (x : Int32) : Inv B (takeR r x) w := by
  unfold takeR
  split
  · next hc =>
    unfold takeC at hc
    rcases blk_or h.1.1 x with ⟨b, hb, rfl⟩ | q
    · have h40 := h.1.1.2.1
      rw [if_neg (fun q => q (blk_in h.1.1 hb)), nI_clamp (by omega)] at hc
      rw [nI_clamp (by omega)]
      by_cases c2 : ofB r b 2 = 0
      · exact h.take hb c2
      · rw [if_neg c2] at hc; exact absurd hc (by decide)
    · rw [if_pos q] at hc; exact absurd hc (by decide)
  · exact h
theorem Inv.lay {B : Nat} {r : Nat → Int32} {w : Nat → UInt32} (h : Inv B r w) {b j c : Nat} (hb : b < CN r) (hj0 : j < 12) (hc : c < 8) (hq : (layQ r b j c).1 = 0) : Inv B (layR r b j c) w := by
  obtain ⟨i1, i2, i3, i4, i5, i6, i7, i8⟩ := h
  have hw := i1.1
  have h40 := hw.2.1
  obtain ⟨l1, l2, l3⟩ := (hw.2.2 b hb).1
  have c1 : ofB r b 2 = 0 := Decidable.not_not.mp (fun q => by unfold layQ at hq; rw [if_pos q] at hq; exact absurd hq (show ¬ (6 : Int32) = 0 by decide))
  have c2 : ¬ 12 < j + LN r b := fun q => by unfold layQ at hq; rw [if_neg (fun z => z c1), if_pos q] at hq; exact absurd hq (show ¬ (7 : Int32) = 0 by decide)
  have c3 : ¬ filN r c j (LN r b) < LN r b := fun q => by unfold layQ at hq; rw [if_neg (fun z => z c1), if_neg c2, if_pos q] at hq; exact absurd hq (show ¬ (8 : Int32) = 0 by decide)
  have c4 : ¬ 2 * cntP (supP r c j) (LN r b) < LN r b := fun q => by unfold layQ at hq; rw [if_neg (fun z => z c1), if_neg c2, if_neg c3, if_pos q] at hq; exact absurd hq (show ¬ (9 : Int32) = 0 by decide)
  have hj : j + LN r b ≤ 12 := by omega
  have hf : ∀ i, i < LN r b → ¬ 0 ≤ gAt r c (j + i) := fun i hi q => fstP_no _ 0 (by omega) c3 i (Nat.zero_le i) hi (decide_eq_true q)
  have hS2 := lay_Str i1 hb c1 hc hj hf
  obtain ⟨f0, f1, f2, f3, f4, f5, f6, f7⟩ := setB_eq (r := r) (b := b) (s := 1) (co := nI j) (cu := nI c) (jt := 0) (pl := -1) (wy := ofB r b 7)
  have Bq := fun b2 x => layR_b (r := r) (b := b) (j := j) (c := c) (b2 := b2) (x := x) hc hj
  have eb : ∀ k x, k ≠ b → x < 8 → ofB (layR r b j c) k x = ofB r k x := fun k x e hx => by rw [Bq, setB_ne e hx]
  have eL : ∀ k, ofB (layR r b j c) k 1 = ofB r k 1 := fun k => by
    by_cases e : k = b
    · subst e; rw [Bq, f1]
    · exact eb k 1 e (by decide)
  have ek : CK (layR r b j c) = CK r := congrArg Int32.toNatClampNeg (layR_hd (by decide))
  have hg : ∀ c2 j2, c2 < 8 → j2 < 12 → 0 ≤ gAt r c2 j2 → 0 ≤ gAt (layR r b j c) c2 j2 := fun c2 j2 hc2 hj2 z => by
    rw [layR_g hj hc2 hj2]
    split
    · exact nI_pos' (by omega)
    · exact z
  refine ⟨hS2, ⟨hS2.1, fun k hk hz => ?_, ⟨?_, ?_, i2.2.2.1.2.2⟩, ?_, fun i hi => ?_⟩, fun k hk hz => ?_, i4.lay (by omega) hc hj, i5, fun k hk hz => ?_, ?_, ?_⟩
  · rw [layR_CN] at hk
    by_cases e : k = b
    · subst e; exact i3 k hk c1
    · exact i2.2.1 k hk (by rw [← eb k 2 e (by decide)]; exact hz)
  · rw [ek, layR_hd (by decide)]
    exact i2.2.2.1.1
  · rw [ek]
    exact i2.2.2.1.2.1
  · rw [layR_hd (by decide)]
    exact i2.2.2.2.1
  · rw [layR_hd (by omega)]
    exact i2.2.2.2.2 i hi
  · rw [layR_CN] at hk
    by_cases e : k = b
    · subst e; rw [Bq, f2] at hz; exact absurd hz (by decide)
    · exact i3 k hk (by rw [← eb k 2 e (by decide)]; exact hz)
  · rw [layR_CN] at hk
    have e1 : LN (layR r b j c) k = LN r k := congrArg Int32.toNatClampNeg (eL k)
    by_cases e : k = b
    · subst e
      have eCO : CO (layR r k j c) k = j := by show (ofB (layR r k j c) k 3).toNatClampNeg = j; rw [Bq, f3, nI_clamp (by omega)]
      have eCU : CU (layR r k j c) k = c := by show (ofB (layR r k j c) k 4).toNatClampNeg = c; rw [Bq, f4, nI_clamp (by omega)]
      have es : cntP (supP r c j) (LN r k) ≤ supN (layR r k j c) k := by
        unfold supN
        rw [eCO, eCU, e1]
        refine cntP_mono (fun i hi hp => ?_)
        have hp := of_decide_eq_true hp
        refine decide_eq_true (hp.elim Or.inl (fun z => ?_))
        by_cases h0 : c = 0
        · exact Or.inl h0
        · exact Or.inr (hg _ _ (by omega) (by omega) z)
      omega
    · have hs2 : ofB r k 2 = 1 := by rw [← eb k 2 e (by decide)]; exact hz
      have s1 := sup_of (r' := layR r b j c) (fun x hx => eb k x e hx) ((hw.2.2 k hk).2 hs2) hg
      have s2 := i6 k hk hs2
      omega
  · obtain ⟨l, q1, q2⟩ := i7
    exact ⟨l, by rw [layR_hd (by decide)]; exact q1, by rw [lenN_of layR_CN (fun k _ => eL k)]; exact q2⟩
  · obtain ⟨T, t1, t2⟩ := i8
    exact ⟨T, t1, by rw [layR_hd (by decide)]; exact t2⟩
theorem Inv.lay9 {B : Nat} {r : Nat → Int32} {w : Nat → UInt32} (h : Inv B r w) (x y z : Int32) : Inv B (layR9 r x y z) w := by
  unfold layR9
  split
  · next hC =>
    unfold layC at hC
    by_cases c1 : (0 ≤ x ∧ x ≤ r 4 - 1) ∧ (0 ≤ y ∧ y ≤ 11) ∧ (0 ≤ z ∧ z ≤ 7)
    · rw [if_neg (fun q => q c1)] at hC
      obtain ⟨b, hb, rfl⟩ := (blk_or h.1.1 x).resolve_right (fun q => q c1.1)
      obtain ⟨j, hj, rfl⟩ := nI_of2 (M := 11) (n := 11) rfl (Int32.not_lt.mpr c1.2.1.1) c1.2.1.2
      obtain ⟨c, hc, rfl⟩ := nI_of2 (M := 7) (n := 7) rfl (Int32.not_lt.mpr c1.2.2.1) c1.2.2.2
      have h40 := h.1.1.2.1
      rw [nI_clamp (by omega), nI_clamp (by omega), nI_clamp (by omega)] at hC ⊢
      by_cases c2 : (layQ r b j c).1 = 0
      · exact h.lay hb (by omega) (by omega) c2
      · rw [if_neg c2] at hC; exact absurd hC (by decide)
    · rw [if_pos c1] at hC; exact absurd hC (by decide)
  · exact h
end
