-- needs: 59
noncomputable section
/-- what goes in an hour keeps -/
theorem goes_P {r0 : Nat → Int32} {P : (Nat → Int32) → Prop} {w : Nat → UInt32} (hP : ∀ t k y, WC r0 t → P t → k < CN r0 → P (goesR t k y)) : (∀ t, WC r0 t → P t → WC r0 (remR w (CN r0) t) ∧ P (remR w (CN r0) t)) ∧ (∀ t, WC r0 t → P t → WC r0 (fallR t) ∧ P (fallR t)) ∧ ∀ n t, WC r0 t → P t → WC r0 (brkR w n t) ∧ P (brkR w n t) := by
  have hf : ∀ t, WC r0 t → P t → WC r0 (fallR t) ∧ P (fallR t) := fun t h1 h2 =>
    iterN_inv (n := 7) (I := fun _ t => WC r0 t ∧ P t) ⟨h1, h2⟩ (fun i t hi ht => by
      rw [show CN t = CN r0 from ht.1.2.1]
      exact iterN_inv (n := CN r0) (I := fun _ t => WC r0 t ∧ P t) ht (fun k t hk ht => by
        unfold fallS
        split
        · exact ⟨ht.1.goes hk, hP t k 4 ht.1 ht.2 hk⟩
        · exact ht) (CN r0) (Nat.le_refl _)) 7 (Nat.le_refl _)
  refine ⟨fun t h1 h2 => iterN_inv (n := CN r0) (I := fun _ t => WC r0 t ∧ P t) ⟨h1, h2⟩ (fun k t hk ht => by
    unfold remS
    split
    · exact ⟨ht.1.goes hk, hP t k 2 ht.1 ht.2 hk⟩
    · exact ht) (CN r0) (Nat.le_refl _), hf, ?_⟩
  intro n
  induction n with
  | zero => exact fun t h1 h2 => ⟨h1, h2⟩
  | succ n ih =>
    intro t h1 h2
    unfold brkR
    split
    · next hn =>
      have hk : ovN t w < CN r0 := by rw [← h1.2.1]; exact hn
      have a := hf _ (h1.goes (y := 3) hk) (hP t _ 3 h1 h2 hk)
      exact ih _ a.1 a.2
    · exact ⟨h1, h2⟩
/-- lengths stay -/
theorem hour_LN {r : Nat → Int32} {w : Nat → UInt32} (hw : Wel r) : ∀ b, b < CN r → ofB (hourR r w) b 1 = ofB r b 1 := fun b hb => by
  have hfw := freezeR_Wel (t := tOf r) hw
  obtain ⟨p1, p2, p3⟩ := goes_P (r0 := freezeR (tOf r) r) (w := hourW r w) (P := fun t => ∀ b, b < CN (freezeR (tOf r) r) → ofB t b 1 = ofB (freezeR (tOf r) r) b 1) (fun t k y h1 h2 hk b hb => by
    rw [goesR_LN ((h1.1.2.2 k (by rw [h1.2.1]; exact hk)).2)]
    exact h2 b hb)
  have a1 := p1 _ (WC.rf hfw) (fun _ _ => rfl)
  have a2 := p2 _ a1.1 a1.2
  have a3 := p3 40 _ a2.1 a2.2
  rw [freezeR_CN] at a1 a2 a3
  have := a3.2 b hb
  rw [freeze_b (by decide) (by decide)] at this
  rw [← this]
  show upd (hour2 r w) 0 _ (125 + 8 * b + 1) = hour2 r w (125 + 8 * b + 1)
  exact upd_ne (by omega)
theorem lenN_of {r r' : Nat → Int32} (hc : CN r' = CN r) (h : ∀ b, b < CN r → ofB r' b 1 = ofB r b 1) : lenN r' true = lenN r true := by
  show sumN (lenF r' true) (CN r') = sumN (lenF r true) (CN r)
  rw [hc]
  exact sumN_congr (fun k hk => by
    unfold lenF
    rw [if_pos (Or.inl rfl), if_pos (Or.inl rfl)]
    exact congrArg Int32.toNatClampNeg (h k hk))
theorem hour_hd {r : Nat → Int32} {w : Nat → UInt32} (hw : Wel r) {i : Nat} (hi : i < 29) (h0 : i ≠ 0) (h1 : i ≠ 1) : hourR r w i = r i := by
  show upd (hour2 r w) 0 _ i = r i
  rw [upd_ne h0]
  exact hour2_hd hw hi h1
theorem hour_Ice {r : Nat → Int32} {w : Nat → UInt32} (hw : Wel r) (h : IceW r) : IceW (hourR r w) := by
  obtain ⟨l, h1, h2⟩ := h
  refine ⟨l, by rw [hour_hd hw (by decide) (by decide) (by decide)]; exact h1, ?_⟩
  rw [lenN_of (hourR_CN hw) (hour_LN hw)]
  exact h2
/-- thickness stays between 0 and 60 -/
theorem clamp_ok (x : Int32) : ∃ T, T ≤ 60 ∧ clampI x = nI T := by
  unfold clampI
  split
  · exact ⟨0, by decide, rfl⟩
  · next h =>
    split
    · exact ⟨60, by decide, rfl⟩
    · next h2 =>
      exact nI_of2 (M := 60) (n := 60) rfl h (Int32.not_lt.mp h2)
theorem hour_1 {r : Nat → Int32} {w : Nat → UInt32} (hw : Wel r) : hourR r w 1 = clampI (r 1 + moreI (tOf r)) := by
  show upd (hour2 r w) 0 _ 1 = _
  rw [upd_ne (by decide), (hour2_Shr hw).1.2.2 1 (by decide), (hour1_Shr hw).1.2.2 1 (by decide)]
  unfold freezeR
  rw [jointsR_i _ _ (fun k _ => by omega), upd_eq]
/-- what one fall takes leaves the support of the courses up to it -/
theorem sup_goes {t : Nat → Int32} {k b : Nat} {y : Int32} (hw : Wel t) (hk : k < CN t) (hks : ofB t k 2 = 1) (hb : b < CN t) (hne : b ≠ k) (hbs : ofB t b 2 = 1) (hc : CU t b ≤ CU t k) : supN (goesR t k y) b = supN t b ∧ LN (goesR t k y) b = LN t b ∧ CU (goesR t k y) b = CU t b := by
  have hp := (hw.2.2 k hk).2
  have ob := (hw.2.2 b hb).2 hbs
  have e1 : LN (goesR t k y) b = LN t b := congrArg Int32.toNatClampNeg (goesR_ne hp hne (by decide))
  have e3 : CO (goesR t k y) b = CO t b := congrArg Int32.toNatClampNeg (goesR_ne hp hne (by decide))
  have e4 : CU (goesR t k y) b = CU t b := congrArg Int32.toNatClampNeg (goesR_ne hp hne (by decide))
  refine ⟨?_, e1, e4⟩
  unfold supN
  rw [e1, e3, e4]
  refine cntP_congr (fun i hi => ?_)
  unfold supP
  by_cases h0 : CU t b = 0
  · rw [h0]; simp
  · have := ob.2.2.2.1
    have := ob.2.1
    rw [goesR_g hp (by omega) (by omega), if_neg (by omega)]
theorem cnt_all {p : Nat → Bool} : ∀ n, (∀ k, k < n → p k = true) → cntP p n = n
  | 0, _ => rfl
  | n + 1, h => by
    have IH := cnt_all n (fun k hk => h k (by omega))
    have e : cntP p (n + 1) = cntP p n + 1 := by simp [cntP, h n (by omega)]
    omega
theorem fallC_sup {r0 : Nat → Int32} (c : Nat) (hc7 : c < 8) (t : Nat → Int32) (h1 : WC r0 t) (h2 : ∀ b, b < CN r0 → ofB t b 2 = 1 → CU t b < c → LN t b ≤ 2 * supN t b) : WC r0 (fallC c (CN r0) t) ∧ ∀ b, b < CN r0 → ofB (fallC c (CN r0) t) b 2 = 1 → CU (fallC c (CN r0) t) b < c + 1 → LN (fallC c (CN r0) t) b ≤ 2 * supN (fallC c (CN r0) t) b := by
  have Z := iterN_inv (n := CN r0) (f := fallS c) (I := fun k t => WC r0 t ∧ ∀ b, b < CN r0 → ofB t b 2 = 1 → (CU t b < c ∨ CU t b = c ∧ b < k) → LN t b ≤ 2 * supN t b) (s := t) ⟨h1, fun b hb hs hq => h2 b hb hs (by omega)⟩ (fun k t hk ht => by
    obtain ⟨hw, hq⟩ := ht
    have hk2 : k < CN t := by rw [hw.2.1]; exact hk
    unfold fallS
    split
    · next hg =>
      rw [Bool.and_eq_true, Bool.and_eq_true] at hg
      have g1 := of_decide_eq_true hg.1.1
      have g2 := of_decide_eq_true hg.1.2
      have hp := (hw.1.2.2 k hk2).2
      have gc : CU t k = c := CU_nI (hp g1) (by omega) g2
      refine ⟨hw.goes hk, fun b hb hs hz => ?_⟩
      by_cases e : b = k
      · subst e
        rw [(goesR_eq hp).2.2.1] at hs
        exact absurd hs (by decide)
      · have hs2 := hs
        rw [goesR_ne hp e (by decide)] at hs2
        have e4 : CU (goesR t k 4) b = CU t b := congrArg Int32.toNatClampNeg (goesR_ne hp e (by decide))
        rw [e4] at hz
        obtain ⟨s1, s2, s3⟩ := sup_goes (y := 4) hw.1 hk2 g1 (by rw [hw.2.1]; exact hb) e hs2 (by omega)
        rw [s1, s2]
        exact hq b hb hs2 (by omega)
    · next hg =>
      refine ⟨hw, fun b hb hs hz => ?_⟩
      by_cases e : CU t b < c ∨ CU t b = c ∧ b < k
      · exact hq b hb hs e
      · have eb : b = k := by omega
        subst eb
        have hcu : CU t b = c := by omega
        have ob := (hw.1.2.2 b hk2).2 hs
        have g2 : ofB t b 4 = nI c := by rw [ob.2.2.1, hcu]
        rw [hs, g2, decide_eq_true rfl, decide_eq_true rfl] at hg
        by_cases q : LN t b ≤ 2 * supN t b
        · exact q
        · rw [decide_eq_true q] at hg
          exact absurd rfl hg) (CN r0) (Nat.le_refl _)
  exact ⟨Z.1, fun b hb hs hq => Z.2 b hb hs (by have hq2 : CU (iterN (fallS c) (CN r0) t) b < c + 1 := hq; omega)⟩
theorem fallR_Sup {r : Nat → Int32} (hw : Wel r) : WC r (fallR r) ∧ SupW (fallR r) := by
  have Z := iterN_inv (n := 7) (f := fun i r => fallC (i + 1) (CN r) r) (I := fun i t => WC r t ∧ ∀ b, b < CN r → ofB t b 2 = 1 → CU t b < i + 1 → LN t b ≤ 2 * supN t b) (s := r) ⟨WC.rf hw, fun b hb hs hq => by
    have h0 : CU r b = 0 := by omega
    unfold supN
    rw [h0, cnt_all _ (fun k _ => by unfold supP; simp)]
    omega⟩ (fun i t hi ht => by
    show WC r (fallC (i + 1) (CN t) t) ∧ _
    rw [show CN t = CN r from ht.1.2.1]
    exact fallC_sup (i + 1) (by omega) t ht.1 ht.2) 7 (Nat.le_refl _)
  exact ⟨Z.1, fun b hb hs => Z.2 b (by rw [← Z.1.2.1]; exact hb) hs (by have := ((Z.1.1.2.2 b hb).2 hs).2.2.2.1; omega)⟩
theorem brkR_Sup {w : Nat → UInt32} : ∀ (n : Nat) (r : Nat → Int32), Wel r → SupW r → SupW (brkR w n r)
  | 0, r, _, h => h
  | n + 1, r, hw, h => by
    unfold brkR
    split
    · next hn =>
      obtain ⟨-, -, b⟩ := ov_step hw hn
      have f := fallR_Sup b.1.1
      exact brkR_Sup n _ f.1.1 f.2
    · exact h
theorem upd_Sup {r : Nat → Int32} {i : Nat} {x : Int32} (h : SupW r) (hi : i < 29) (h4 : i ≠ 4) : SupW (upd r i x) := fun b hb hs => by
  rw [upd_CN h4] at hb
  have eb : ∀ y, ofB (upd r i x) b y = ofB r b y := fun y => upd_ne (by omega)
  rw [eb] at hs
  have e1 : LN (upd r i x) b = LN r b := congrArg Int32.toNatClampNeg (eb 1)
  have e3 : CO (upd r i x) b = CO r b := congrArg Int32.toNatClampNeg (eb 3)
  have e4 : CU (upd r i x) b = CU r b := congrArg Int32.toNatClampNeg (eb 4)
  have es : supN (upd r i x) b = supN r b := by
    unfold supN
    rw [e1, e3, e4]
    refine cntP_congr (fun k hk => ?_)
    unfold supP
    rw [show gAt (upd r i x) (CU r b - 1) (CO r b + k) = gAt r (CU r b - 1) (CO r b + k) from upd_ne (by omega)]
  rw [e1, es]
  exact h b hb hs
theorem hour_Sup {r : Nat → Int32} {w : Nat → UInt32} (hw : Wel r) : SupW (hourR r w) := by
  have w1 := (hour1_Shr (w := w) hw).1.1
  have f := fallR_Sup w1
  exact upd_Sup (brkR_Sup 40 _ f.1.1 f.2) (by decide) (by decide)
/-- all that holds between two calls -/
def Inv (B : Nat) (r : Nat → Int32) (w : Nat → UInt32) : Prop := Str r ∧ HS B r w ∧ MasK r w ∧ Z9 r ∧ ZW w ∧ SupW r ∧ IceW r ∧ HdX r
theorem Inv.hour {B : Nat} {r : Nat → Int32} {w : Nat → UInt32} (h : Inv B r w) (hB : B + 1 < 2 ^ 30) : Inv (B + 1) (hourR r w) (hourW r w) := by
  obtain ⟨i1, i2, i3, i4, i5, i6, i7, i8⟩ := h
  refine ⟨hourR_Str i1, hour_HS i2 hB, hour_MasK i2.1 i3, i4.hour i2.1, i5.hour i2.1, hour_Sup i2.1, hour_Ice i2.1 i7, ?_⟩
  obtain ⟨T, t1, t2⟩ := clamp_ok (r 1 + moreI (tOf r))
  exact ⟨T, t1, by rw [hour_1 i2.1]; exact t2⟩
theorem Inv.hours : ∀ (n : Nat) {B : Nat} {r : Nat → Int32} {w : Nat → UInt32}, Inv B r w → B + n < 2 ^ 30 → Inv (B + n) (hoursR n r w) (hoursW n r w)
  | 0, B, r, w, h, _ => h
  | n + 1, B, r, w, h, hB => by
    have := Inv.hours n (h.hour (by omega)) (by omega)
    rw [show B + 1 + n = B + (n + 1) by omega] at this
    exact this
end
