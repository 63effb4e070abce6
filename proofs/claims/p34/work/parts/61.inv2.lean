-- needs: 60
noncomputable section
theorem saw_facts {r : Nat → Int32} {kind len rack : Int32} (hx : HdX r) (hi : IceW r) (hw : Wel r) (h : sawC r kind len rack = 0) : ∃ q L T l, q < 2 ∧ rack = nI q ∧ kind = rack ∧ len = nI L ∧ 1 ≤ L ∧ L ≤ 6 ∧ r 1 = nI T ∧ 10 ≤ T ∧ T ≤ 60 ∧ CN r < 40 ∧ freeP r rack < 5 ∧ r 2 = nI l ∧ L ≤ l ∧ l + lenN r true = 200 := by
  unfold sawC at h
  by_cases c1 : 0 ≤ rack ∧ rack ≤ 1
  · rw [if_neg (fun q => q c1)] at h
    by_cases c2 : (0 ≤ kind ∧ kind ≤ 1) ∧ (1 ≤ len ∧ len ≤ 6)
    · rw [if_neg (fun q => q c2)] at h
      have hq : (sawQ r kind len rack).1 = 0 := by
        by_cases z : (sawQ r kind len rack).1 = 0
        · exact z
        · rw [if_pos z] at h; exact absurd h (by decide)
      unfold sawQ at hq
      by_cases d1 : r 4 = 40
      · rw [if_pos d1] at hq; exact absurd hq (show ¬ (1 : Int32) = 0 by decide)
      rw [if_neg d1] at hq
      by_cases d2 : r 1 < 10
      · rw [if_pos d2] at hq; exact absurd hq (show ¬ (2 : Int32) = 0 by decide)
      rw [if_neg d2] at hq
      by_cases d3 : r 2 < len
      · rw [if_pos d3] at hq; exact absurd hq (show ¬ (3 : Int32) = 0 by decide)
      rw [if_neg d3] at hq
      by_cases d4 : freeP r rack = 5
      · rw [if_pos d4] at hq; exact absurd hq (show ¬ (4 : Int32) = 0 by decide)
      rw [if_neg d4] at hq
      by_cases d5 : kind ≠ rack
      · rw [if_pos d5] at hq; exact absurd hq (show ¬ (5 : Int32) = 0 by decide)
      obtain ⟨q, hq1, hq2⟩ := nI_of2 (x := rack) (M := 1) (n := 1) rfl (Int32.not_lt.mpr c1.1) c1.2
      obtain ⟨L, hl1, hl2⟩ := nI_of2 (x := len) (M := 6) (n := 6) rfl (Int32.not_lt.mpr (Int32.le_trans (by decide) c2.2.1)) c2.2.2
      obtain ⟨T, t1, t2⟩ := hx
      obtain ⟨l, e1, e2⟩ := hi
      have hL1 : 1 ≤ L := by
        have z := c2.2.1
        rw [hl2] at z
        have : ¬ L < 1 := fun y => nI_ge (b := 1) y (by decide) z
        omega
      refine ⟨q, L, T, l, by omega, hq2, Decidable.not_not.mp d5, hl2, hL1, hl1, t2, ?_, t1, ?_, ?_, e1, ?_, e2⟩
      · rw [t2] at d2
        have z := Int32.not_lt.mp d2
        have : ¬ T < 10 := fun y => nI_ge (b := 10) y (by decide) z
        omega
      · have h40 := hw.2.1
        have : CN r ≠ 40 := fun z => d1 (by rw [hw.1, z]; rfl)
        omega
      · have z : freeP r rack ≤ 5 := (fstP_le (p := frP r rack) (n := 5) 5 0 rfl).1
        omega
      · rw [e1, hl2] at d3
        have z := Int32.not_lt.mp d3
        have : ¬ l < L := fun y => nI_ge y (by omega) z
        omega
    · rw [if_pos c2] at h; exact absurd h (by decide)
  · rw [if_pos c1] at h; exact absurd h (by decide)
theorem saw_hd {r : Nat → Int32} {kind len pl : Int32} {i : Nat} (hi : i < 125) (h2 : i ≠ 2) (h4 : i ≠ 4) : sawR r kind len pl i = r i := by
  unfold sawR
  rw [upd_ne h4, upd_ne h2, setB_hd hi, upd_ne (by omega), upd_ne (by omega)]
theorem saw_2 {r : Nat → Int32} {kind len pl : Int32} : sawR r kind len pl 2 = r 2 - len := by
  unfold sawR
  rw [upd_ne (by decide), upd_eq]
theorem saw_CN {r : Nat → Int32} (hw : Wel r) {kind len pl : Int32} : sawR r kind len pl 4 = nI (CN r + 1) ∧ CN (sawR r kind len pl) = CN r + 1 := by
  have h40 := hw.2.1
  have e : sawR r kind len pl 4 = nI (CN r + 1) := by
    unfold sawR
    rw [upd_eq, hw.1, nI_1]
  exact ⟨e, by show (sawR r kind len pl 4).toNatClampNeg = _; rw [e, nI_clamp (by omega)]⟩
theorem saw_b {r : Nat → Int32} {kind len pl : Int32} {b x : Nat} (hb : b ≠ CN r) (hx : x < 8) : ofB (sawR r kind len pl) b x = ofB r b x := by
  have e : ofB (sawR r kind len pl) b x = ofB (setB (upd (upd r (125 + 8 * CN r + 0) kind) (125 + 8 * CN r + 1) len) (CN r) 0 (-1) (-1) 0 pl 0) b x := by
    show sawR r kind len pl (125 + 8 * b + x) = _
    unfold sawR
    rw [upd_ne (by omega), upd_ne (by omega)]
  rw [e, setB_ne hb hx]
  show upd (upd r _ kind) _ len (125 + 8 * b + x) = r (125 + 8 * b + x)
  rw [upd_ne (by omega), upd_ne (by omega)]
theorem saw_n {r : Nat → Int32} {kind len pl : Int32} : ofB (sawR r kind len pl) (CN r) 0 = kind ∧ ofB (sawR r kind len pl) (CN r) 1 = len ∧ ofB (sawR r kind len pl) (CN r) 2 = 0 ∧ ofB (sawR r kind len pl) (CN r) 3 = -1 ∧ ofB (sawR r kind len pl) (CN r) 4 = -1 ∧ ofB (sawR r kind len pl) (CN r) 5 = 0 ∧ ofB (sawR r kind len pl) (CN r) 6 = pl ∧ ofB (sawR r kind len pl) (CN r) 7 = 0 := by
  have e : ∀ x, ofB (sawR r kind len pl) (CN r) x = ofB (setB (upd (upd r (125 + 8 * CN r + 0) kind) (125 + 8 * CN r + 1) len) (CN r) 0 (-1) (-1) 0 pl 0) (CN r) x := fun x => by
    show sawR r kind len pl (125 + 8 * CN r + x) = _
    unfold sawR
    rw [upd_ne (by omega), upd_ne (by omega)]
  obtain ⟨f0, f1, f2, f3, f4, f5, f6, f7⟩ := setB_eq (r := upd (upd r (125 + 8 * CN r + 0) kind) (125 + 8 * CN r + 1) len) (b := CN r) (s := 0) (co := -1) (cu := -1) (jt := 0) (pl := pl) (wy := 0)
  refine ⟨?_, ?_, by rw [e, f2], by rw [e, f3], by rw [e, f4], by rw [e, f5], by rw [e, f6], by rw [e, f7]⟩
  · rw [e, f0]
    show upd (upd r _ kind) _ len (125 + 8 * CN r + 0) = kind
    rw [upd_ne (by omega), upd_eq]
  · rw [e, f1]
    show upd (upd r _ kind) _ len (125 + 8 * CN r + 1) = len
    rw [upd_eq]
theorem saw_g {r : Nat → Int32} {kind len pl : Int32} {c j : Nat} (hc : c < 8) (hj : j < 12) : gAt (sawR r kind len pl) c j = gAt r c j := saw_hd (i := 29 + 12 * c + j) (by omega) (by omega) (by omega)
theorem cov_n {r r' : Nat → Int32} {b c j : Nat} (h : ∀ x, x < 8 → ofB r' b x = ofB r b x) : cov r' b c j ↔ cov r b c j := by
  show ofB r' b 2 = 1 ∧ (ofB r' b 4).toNatClampNeg = c ∧ (ofB r' b 3).toNatClampNeg ≤ j ∧ j < (ofB r' b 3).toNatClampNeg + (ofB r' b 1).toNatClampNeg ↔ _
  rw [h 2 (by decide), h 4 (by decide), h 3 (by decide), h 1 (by decide)]
  exact Iff.rfl
theorem PlOk_of {r r' : Nat → Int32} {b : Nat} (h : ∀ x, x < 8 → ofB r' b x = ofB r b x) (H : PlOk r b) : PlOk r' b := by
  show ofB r' b 3 = nI (ofB r' b 3).toNatClampNeg ∧ (ofB r' b 3).toNatClampNeg + (ofB r' b 1).toNatClampNeg ≤ 12 ∧ ofB r' b 4 = nI (ofB r' b 4).toNatClampNeg ∧ (ofB r' b 4).toNatClampNeg ≤ 7 ∧ ofB r' b 5 = nI (ofB r' b 5).toNatClampNeg ∧ (ofB r' b 5).toNatClampNeg ≤ 9
  rw [h 3 (by decide), h 1 (by decide), h 4 (by decide), h 5 (by decide)]
  exact H
theorem LnOk_of {r r' : Nat → Int32} {b : Nat} (h : ofB r' b 1 = ofB r b 1) (H : LnOk r b) : LnOk r' b := by
  show ofB r' b 1 = nI (ofB r' b 1).toNatClampNeg ∧ 1 ≤ (ofB r' b 1).toNatClampNeg ∧ (ofB r' b 1).toNatClampNeg ≤ 6
  rw [h]
  exact H
theorem BlkS_of {r r' : Nat → Int32} {b : Nat} (h : ∀ x, x < 8 → ofB r' b x = ofB r b x) (H : BlkS r b) : BlkS r' b := by
  unfold BlkS at H ⊢
  rw [h 0 (by decide), h 2 (by decide), h 3 (by decide), h 4 (by decide), h 5 (by decide), h 6 (by decide), h 7 (by decide)]
  exact H
theorem sup_of {r r' : Nat → Int32} {b : Nat} (h : ∀ x, x < 8 → ofB r' b x = ofB r b x) (ho : PlOk r b) (hg : ∀ c j, c < 8 → j < 12 → 0 ≤ gAt r c j → 0 ≤ gAt r' c j) : supN r b ≤ supN r' b := by
  have e1 : LN r' b = LN r b := congrArg Int32.toNatClampNeg (h 1 (by decide))
  have e3 : CO r' b = CO r b := congrArg Int32.toNatClampNeg (h 3 (by decide))
  have e4 : CU r' b = CU r b := congrArg Int32.toNatClampNeg (h 4 (by decide))
  unfold supN
  rw [e1, e3, e4]
  refine cntP_mono (fun k hk hp => ?_)
  have hp := of_decide_eq_true hp
  refine decide_eq_true (hp.elim Or.inl (fun z => ?_))
  have := ho.2.1
  have := ho.2.2.2.1
  by_cases h0 : CU r b = 0
  · exact Or.inl h0
  · exact Or.inr (hg _ _ (by omega) (by omega) z)
theorem Inv.saw {B : Nat} {r : Nat → Int32} {w : Nat → UInt32} (h : Inv B r w) {kind len rack : Int32} (hC : sawC r kind len rack = 0) : Inv B (sawR r kind len (nI (freeP r rack))) (vf_upd w (CN r) (sawM r kind len)) := by
  obtain ⟨i1, i2, i3, i4, i5, i6, i7, i8⟩ := h
  have hw := i1.1
  obtain ⟨q, L, T, l, hq, hr, hk, hl, hL1, hL6, hT, hT10, hT60, h40, hf, hl2, hLl, h200⟩ := saw_facts i8 i7 hw hC
  obtain ⟨e4, eC⟩ := saw_CN hw (kind := kind) (len := len) (pl := nI (freeP r rack))
  obtain ⟨n0, n1, n2, n3, n4, n5, n6, n7⟩ := saw_n (r := r) (kind := kind) (len := len) (pl := nI (freeP r rack))
  have eb : ∀ b x, b < CN r → x < 8 → ofB (sawR r kind len (nI (freeP r rack))) b x = ofB r b x := fun b x hb hx => saw_b (by omega) hx
  have eLN : LN (sawR r kind len (nI (freeP r rack))) (CN r) = L := by show (ofB _ _ 1).toNatClampNeg = L; rw [n1, hl, nI_clamp (by omega)]
  have hW : Wel (sawR r kind len (nI (freeP r rack))) := by
    refine ⟨by rw [eC, e4], by omega, fun b hb => ?_⟩
    by_cases e : b = CN r
    · subst e
      refine ⟨⟨by rw [n1, eLN, hl], by omega, by omega⟩, fun z => by rw [n2] at z; exact absurd z (by decide)⟩
    · have hb2 : b < CN r := by omega
      obtain ⟨a1, a2⟩ := hw.2.2 b hb2
      exact ⟨LnOk_of (eb b 1 hb2 (by decide)) a1, fun z => PlOk_of (fun x hx => eb b x hb2 hx) (a2 (by rw [← eb b 2 hb2 (by decide)]; exact z))⟩
  have hcov : ∀ b c j, b < CN r → (cov (sawR r kind len (nI (freeP r rack))) b c j ↔ cov r b c j) := fun b c j hb => cov_n (fun x hx => eb b x hb hx)
  have hS : Str (sawR r kind len (nI (freeP r rack))) := by
    refine ⟨hW, fun b hb => ?_, fun c j b hc hj hb hv => ?_, fun c j hc hj => ?_, fun a b ha hb hab sa sb => ?_⟩
    · by_cases e : b = CN r
      · subst e
        refine ⟨?_, Or.inl ⟨n2, n3, n4, n5, ⟨freeP r rack, hf, n6⟩, n7⟩⟩
        rw [n0, hk, hr]
        rcases (show q = 0 ∨ q = 1 by omega) with z | z <;> subst z
        · exact Or.inl rfl
        · exact Or.inr rfl
      · exact BlkS_of (fun x hx => eb b x (by omega) hx) (i1.b (by omega))
    · by_cases e : b = CN r
      · subst e
        exact absurd (n2.symm.trans hv.1) (by decide)
      · rw [saw_g hc hj]
        exact i1.2.2.1 c j b hc hj (by omega) ((hcov b c j (by omega)).mp hv)
    · rw [saw_g hc hj]
      rcases i1.2.2.2.1 c j hc hj with z | ⟨b, z1, z2, z3⟩
      · exact Or.inl z
      · exact Or.inr ⟨b, by omega, z2, (hcov b c j z1).mpr z3⟩
    · have hfree := of_decide_eq_true (fstP_p (p := frP r rack) (n := 5) 5 0 hf)
      have key : ∀ b, b < CN r → ofB r b 2 = 0 → ofB r b 0 = rack → ofB r b 6 ≠ nI (freeP r rack) := fun b hb s0 k0 e6 => by
        refine hfree ?_
        by_cases z : blkIn r rack (nI (fstP (frP r rack) 5 5 0)) < CN r
        · exact z
        · exact absurd (decide_eq_true ⟨s0, k0, e6⟩) (fstP_no (p := inP r rack (nI (freeP r rack))) (CN r) 0 (by omega) z b (Nat.zero_le b) hb)
      by_cases ea : a = CN r
      · subst ea
        have hb2 : b < CN r := by omega
        rw [n0, n6, eb b 0 hb2 (by decide), eb b 6 hb2 (by decide)]
        rw [eb b 2 hb2 (by decide)] at sb
        exact fun k0 e6 => key b hb2 sb (k0.symm.trans hk) e6.symm
      · have ha2 : a < CN r := by omega
        rw [eb a 2 ha2 (by decide)] at sa
        by_cases e : b = CN r
        · subst e
          rw [n0, n6, eb a 0 ha2 (by decide), eb a 6 ha2 (by decide)]
          exact fun k0 e6 => key a ha2 sa (k0.trans hk) e6
        · have hb2 : b < CN r := by omega
          rw [eb b 2 hb2 (by decide)] at sb
          rw [eb a 0 ha2 (by decide), eb a 6 ha2 (by decide), eb b 0 hb2 (by decide), eb b 6 hb2 (by decide)]
          exact i1.2.2.2.2 a b ha2 hb2 hab sa sb
  have hmo : mOk (sawM r kind len) := by
    obtain ⟨-, m2, m3, m4, m5⟩ := new_ok L (List.mem_range.mpr (by omega)) (by omega) T (List.mem_range.mpr (by omega)) hT10
    unfold sawM
    rw [hl, hT]
    split
    · exact ⟨m2, m3⟩
    · exact ⟨m4, m5⟩
  have hwb : ∀ b, b ≠ CN r → vf_upd w (CN r) (sawM r kind len) b = w b := fun b hb => by unfold vf_upd; rw [if_neg hb]
  refine ⟨hS, ⟨hW, fun b hb hs => ?_, ?_, ?_, fun i hi => ?_⟩, fun b hb hs => ?_, i4.saw h40, i5.upd h40, fun b hb hs => ?_, ⟨l - L, ?_, ?_⟩, ⟨T, hT60, ?_⟩⟩
  · by_cases e : b = CN r
    · subst e
      exact absurd (n2.symm.trans hs) (by decide)
    · rw [hwb b e]
      exact i2.2.1 b (by omega) (by rw [← eb b 2 (by omega) (by decide)]; exact hs)
  · obtain ⟨⟨c1, c2, c3⟩, -, -⟩ := i2.2.2
    have ek : CK (sawR r kind len (nI (freeP r rack))) = CK r := congrArg Int32.toNatClampNeg (saw_hd (by decide) (by decide) (by decide))
    rw [ek, saw_hd (by decide) (by decide) (by decide)]
    exact ⟨c1, c2, c3⟩
  · rw [saw_hd (by decide) (by decide) (by decide)]
    exact i2.2.2.2.1
  · rw [saw_hd (by omega) (by omega) (by omega)]
    exact i2.2.2.2.2 i hi
  · by_cases e : b = CN r
    · subst e
      unfold vf_upd
      rw [if_pos rfl]
      exact hmo
    · rw [hwb b e]
      exact i3 b (by omega) (by rw [← eb b 2 (by omega) (by decide)]; exact hs)
  · by_cases e : b = CN r
    · subst e
      exact absurd (n2.symm.trans hs) (by decide)
    · have hb2 : b < CN r := by omega
      have hs2 : ofB r b 2 = 1 := by rw [← eb b 2 hb2 (by decide)]; exact hs
      have s1 := sup_of (r' := sawR r kind len (nI (freeP r rack))) (fun x hx => eb b x hb2 hx) ((hw.2.2 b hb2).2 hs2) (fun c j hc hj z => by rw [saw_g hc hj]; exact z)
      have s2 := i6 b hb2 hs2
      have e1 : LN (sawR r kind len (nI (freeP r rack))) b = LN r b := congrArg Int32.toNatClampNeg (eb b 1 hb2 (by decide))
      omega
  · rw [saw_2, hl2, hl, nI_sub hLl]
  · have es : lenN (sawR r kind len (nI (freeP r rack))) true = lenN r true + L := by
      show sumN (lenF _ true) (CN (sawR r kind len (nI (freeP r rack)))) = _
      rw [eC]
      show sumN (lenF _ true) (CN r) + lenF _ true (CN r) = _
      rw [show lenF (sawR r kind len (nI (freeP r rack))) true (CN r) = L by unfold lenF; rw [if_pos (Or.inl rfl)]; exact eLN]
      rw [sumN_congr (g := lenF r true) (fun k hk => by unfold lenF; rw [if_pos (Or.inl rfl), if_pos (Or.inl rfl)]; exact congrArg Int32.toNatClampNeg (eb k 1 hk (by decide)))]
    omega
  · rw [saw_hd (by decide) (by decide) (by decide)]
    exact hT
end
