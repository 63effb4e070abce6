-- needs: 19
noncomputable section
/-- the heap with all that an hour of the reference touches -/
def hX (h : AH) (r : Nat → Int32) (w ld : Nat → UInt32) (sh : Nat → Int32) : AH := (fun a j => if a = 28 then sh j else if a = 1 then r j else h.1 a j, fun a j => if a = 27 then ld j else if a = 5 then w j else h.2.1 a j, h.2.2)
theorem hX_1 {h : AH} {r sh : Nat → Int32} {w ld : Nat → UInt32} : (hX h r w ld sh).1 1 = r := by funext j; simp [hX]
theorem hX_28 {h : AH} {r sh : Nat → Int32} {w ld : Nat → UInt32} : (hX h r w ld sh).1 28 = sh := by funext j; simp [hX]
theorem hX_5 {h : AH} {r sh : Nat → Int32} {w ld : Nat → UInt32} : (hX h r w ld sh).2.1 5 = w := by funext j; simp [hX]
theorem hX_27 {h : AH} {r sh : Nat → Int32} {w ld : Nat → UInt32} : (hX h r w ld sh).2.1 27 = ld := by funext j; simp [hX]
theorem hX_n {h : AH} {r sh : Nat → Int32} {w ld : Nat → UInt32} {a : Nat} (h1 : a ≠ 1) (h2 : a ≠ 28) : (hX h r w ld sh).1 a = h.1 a := by funext j; simp [hX, h1, h2]
theorem hX_m {h : AH} {r sh : Nat → Int32} {w ld : Nat → UInt32} {a : Nat} (h1 : a ≠ 5) (h2 : a ≠ 27) : (hX h r w ld sh).2.1 a = h.2.1 a := by funext j; simp [hX, h1, h2]
theorem hX_setR {h : AH} {r sh r' : Nat → Int32} {w ld w' : Nat → UInt32} : setR (hX h r w ld sh) r' w' = hX h r' w' ld sh := by
  refine Prod.ext ?_ (Prod.ext ?_ rfl)
  · funext a j
    by_cases h1 : a = 1
    · simp [setR, hX, h1]
    · by_cases h2 : a = 28 <;> simp [setR, hX, h1, h2]
  · funext a j
    by_cases h1 : a = 5
    · simp [setR, hX, h1]
    · by_cases h2 : a = 27 <;> simp [setR, hX, h1, h2]
theorem hX_hFr {h : AH} {r sh : Nat → Int32} {w ld ld' : Nat → UInt32} : hFr (hX h r w ld sh) 27 ld' = hX h r w ld' sh := by
  refine Prod.ext rfl (Prod.ext ?_ rfl)
  funext a j
  by_cases h1 : a = 27 <;> simp [hFr, hX, h1]
theorem hX_hI {h : AH} {r sh : Nat → Int32} {w ld : Nat → UInt32} {i : Nat} {x : Int32} : hI (hX h r w ld sh) 28 i x = hX h r w ld (upd sh i x) := by
  refine Prod.ext ?_ rfl
  funext a j
  by_cases h1 : a = 28
  · subst h1
    by_cases h2 : j = i <;> simp [hI, hX, upd, h2]
  · simp [hI, hX, h1]
theorem hX_self {h : AH} : hX h (h.1 1) (h.2.1 5) (h.2.1 27) (h.1 28) = h := by
  obtain ⟨g, f, z⟩ := h
  refine Prod.ext ?_ (Prod.ext ?_ rfl)
  · funext a j
    by_cases h1 : a = 1
    · simp [hX, h1]
    · by_cases h2 : a = 28 <;> simp [hX, h1, h2]
  · funext a j
    by_cases h1 : a = 5
    · simp [hX, h1]
    · by_cases h2 : a = 27 <;> simp [hX, h1, h2]
/-- fewer blocks on the wall, those as they were -/
def Shr (r0 r : Nat → Int32) : Prop := WC r0 r ∧ ∀ b, b < CN r0 → ofB r b 2 = 1 → ∀ x, x < 8 → ofB r b x = ofB r0 b x
theorem Shr.rf {r : Nat → Int32} (h : Wel r) : Shr r r := ⟨WC.rf h, fun _ _ _ _ _ => rfl⟩
theorem Shr.tr {a b c : Nat → Int32} (h : Shr a b) (h2 : Shr b c) : Shr a c := ⟨h.1.tr h2.1, fun b hb hs x hx => by
  have e := h2.2 b (by rw [h.1.2.1]; exact hb) hs
  rw [e x hx]
  exact h.2 b hb (by rw [← e 2 (by decide)]; exact hs) x hx⟩
theorem Shr.goes {r0 r : Nat → Int32} {k : Nat} {y : Int32} (h : Shr r0 r) (hk : k < CN r0) : Shr r0 (goesR r k y) := by
  have hp := (h.1.1.2.2 k (by rw [h.1.2.1]; exact hk)).2
  refine ⟨h.1.goes hk, fun b hb hs x hx => ?_⟩
  by_cases e : b = k
  · subst e
    rw [(goesR_eq hp).2.2.1] at hs
    cases hs
  · rw [goesR_ne hp e (by decide)] at hs
    rw [goesR_ne hp e hx]
    exact h.2 b hb hs x hx
theorem remR_Shr {r0 r : Nat → Int32} {w : Nat → UInt32} (h : Shr r0 r) : ∀ n, n ≤ CN r0 → Shr r0 (remR w n r) :=
  iterN_inv (I := fun _ t => Shr r0 t) h (fun k t hk ht => by
    unfold remS
    split
    · exact ht.goes hk
    · exact ht)
theorem fallC_Shr {r0 r : Nat → Int32} {c : Nat} (h : Shr r0 r) : ∀ n, n ≤ CN r0 → Shr r0 (fallC c n r) :=
  iterN_inv (I := fun _ t => Shr r0 t) h (fun k t hk ht => by
    unfold fallS
    split
    · exact ht.goes hk
    · exact ht)
theorem fallI_Shr {r0 r : Nat → Int32} (h : Shr r0 r) : ∀ i, i ≤ 7 → Shr r0 (fallI i r) :=
  iterN_inv (I := fun _ t => Shr r0 t) h (fun k t hk ht => fallC_Shr ht _ (by rw [ht.1.2.1]; exact Nat.le_refl _))
theorem Shr.MasW {r0 r : Nat → Int32} {w : Nat → UInt32} (h : Shr r0 r) (hm : MasW r0 w) : MasW r w := fun b hb hs => by
  rw [h.1.2.1] at hb
  have e := h.2 b hb hs 2 (by decide)
  rw [hs] at e
  exact hm b hb e.symm
/-- behind the melting none on the wall is below 1 -/
theorem remR_not {r : Nat → Int32} {w : Nat → UInt32} (hw : Wel r) : ∀ n, n ≤ CN r → ∀ b, b < n → ofB (remR w n r) b 2 = 1 → ¬ lt1 (w b) = true := by
  intro n
  induction n with
  | zero => intro _ b hb; exact absurd hb (Nat.not_lt_zero b)
  | succ n ih =>
    intro hn b hb hs
    have hc := remR_WC (w := w) (WC.rf hw) n (by omega)
    have hp := (hc.1.2.2 n (by rw [hc.2.1]; omega)).2
    have es : remR w (n + 1) r = if (decide (ofB (remR w n r) n 2 = 1) && lt1 (w n)) = true then goesR (remR w n r) n 2 else remR w n r := rfl
    rw [es] at hs
    by_cases e : b = n
    · subst e
      intro hl
      by_cases h1 : ofB (remR w b r) b 2 = 1
      · rw [if_pos (by rw [decide_eq_true h1, hl]; rfl), (goesR_eq hp).2.2.1] at hs
        cases hs
      · rw [if_neg (by rw [decide_eq_false h1, Bool.false_and]; decide)] at hs
        exact h1 hs
    · refine ih (by omega) b (by omega) ?_
      split at hs
      · rwa [goesR_ne hp e (by decide)] at hs
      · exact hs
theorem cntP_mono {p q : Nat → Bool} {n : Nat} (h : ∀ k, k < n → p k = true → q k = true) : cntP p n ≤ cntP q n := by
  induction n with
  | zero => exact Nat.le_refl _
  | succ n ih =>
    have := ih (fun k hk => h k (by omega))
    have h2 := h n (by omega)
    unfold cntP
    by_cases hp : p n = true
    · rw [if_pos hp, if_pos (h2 hp)]; omega
    · rw [if_neg hp]
      split <;> omega
theorem cntP_lt {p q : Nat → Bool} {n b : Nat} (h : ∀ k, k < n → p k = true → q k = true) (hb : b < n) (h1 : q b = true) (h2 : ¬ p b = true) : cntP p n < cntP q n := by
  induction n with
  | zero => exact absurd hb (Nat.not_lt_zero b)
  | succ n ih =>
    have h3 := h n (by omega)
    by_cases e : b = n
    · subst e
      have := cntP_mono (p := p) (q := q) (n := b) (fun k hk => h k (by omega))
      unfold cntP
      rw [if_pos h1, if_neg h2]
      omega
    · have := ih (fun k hk => h k (by omega)) (by omega)
      unfold cntP
      by_cases hp : p n = true
      · rw [if_pos hp, if_pos (h3 hp)]; omega
      · rw [if_neg hp]
        split <;> omega
abbrev onN (r : Nat → Int32) : Nat := cntS r 1 (CN r)
theorem Shr.on_le {r0 r : Nat → Int32} (h : Shr r0 r) : onN r ≤ onN r0 := by
  unfold onN
  rw [h.1.2.1]
  refine cntP_mono (fun k hk hs => ?_)
  have hs := of_decide_eq_true hs
  have e := h.2 k hk hs 2 (by decide)
  exact decide_eq_true (by rw [← e]; exact hs)
theorem Shr.on_lt {r0 r : Nat → Int32} (h : Shr r0 r) {b : Nat} (hb : b < CN r0) (h1 : ofB r0 b 2 = 1) (h2 : ¬ ofB r b 2 = 1) : onN r < onN r0 := by
  unfold onN
  rw [h.1.2.1]
  refine cntP_lt (b := b) (fun k hk hs => ?_) hb (decide_eq_true h1) (fun q => h2 (of_decide_eq_true q))
  have hs := of_decide_eq_true hs
  have e := h.2 k hk hs 2 (by decide)
  exact decide_eq_true (by rw [← e]; exact hs)
theorem fstP_p {p : Nat → Bool} {n : Nat} : ∀ (m k : Nat), fstP p n m k < n → p (fstP p n m k) = true
  | 0, k, h => absurd h (Nat.lt_irrefl n)
  | m + 1, k, h => by
    unfold fstP at h ⊢
    split
    · next hp => exact hp
    · next hp => rw [if_neg hp] at h; exact fstP_p m (k + 1) h
theorem fstP_no {p : Nat → Bool} {n : Nat} : ∀ (m k : Nat), k + m = n → ¬ fstP p n m k < n → ∀ j, k ≤ j → j < n → ¬ p j = true
  | 0, k, e, h, j, h1, h2 => by omega
  | m + 1, k, e, h, j, h1, h2 => by
    unfold fstP at h
    split at h
    · omega
    · next hp =>
      by_cases ej : j = k
      · rw [ej]; exact hp
      · exact fstP_no m (k + 1) (by omega) h j (by omega) h2
/-- as long as one is overloaded it breaks, and what isn't supported falls -/
def brkR (w : Nat → UInt32) : Nat → (Nat → Int32) → Nat → Int32
  | 0, r => r
  | n + 1, r => if ovN r w < CN r then brkR w n (fallR (goesR r (ovN r w) 3)) else r
theorem ov_step {r : Nat → Int32} {w : Nat → UInt32} (hw : Wel r) (h : ovN r w < CN r) : Shr r (fallR (goesR r (ovN r w) 3)) ∧ onN (fallR (goesR r (ovN r w) 3)) < onN r ∧ Shr r (goesR r (ovN r w) 3) := by
  have h1 := fstP_p _ _ h
  unfold ovP at h1
  rw [Bool.and_eq_true] at h1
  have hs := of_decide_eq_true h1.1
  have hg := (Shr.rf hw).goes (y := 3) h
  have hf := hg.tr (fallI_Shr (Shr.rf hg.1.1) 7 (Nat.le_refl _))
  refine ⟨hf, hf.on_lt h hs (fun q => ?_), hg⟩
  have e := (fallI_Shr (Shr.rf hg.1.1) 7 (Nat.le_refl _)).2 (ovN r w) (by rw [goesR_CN]; exact h) q 2 (by decide)
  rw [q, (goesR_eq (hw.2.2 _ h).2).2.2.1] at e
  cases e
theorem brkR_Shr {w : Nat → UInt32} : ∀ (n : Nat) (r : Nat → Int32), Wel r → Shr r (brkR w n r)
  | 0, r, hw => Shr.rf hw
  | n + 1, r, hw => by
    unfold brkR
    split
    · next h =>
      obtain ⟨a, -, -⟩ := ov_step hw h
      exact a.tr (brkR_Shr n _ a.1.1)
    · exact Shr.rf hw
theorem onN_le {r : Nat → Int32} (hw : Wel r) : onN r ≤ 40 := Nat.le_trans (cntP_le _ _) hw.2.1
/-- the head's numbers -/
abbrev CK (r : Nat → Int32) : Nat := (r 0).toNatClampNeg
def HdW (B : Nat) (r : Nat → Int32) : Prop := (r 0 = nI (CK r) ∧ CK r ≤ B ∧ B < 2 ^ 30) ∧ (∃ n, n ≤ 50 ∧ r 3 = nI n) ∧ ∀ i, i < 24 → -30 ≤ r (5 + i) ∧ r (5 + i) ≤ 20
def hrOf (r : Nat → Int32) : Nat := CK r % 24
def tOf (r : Nat → Int32) : Int32 := r (5 + hrOf r)
def shB (r : Nat → Int32) (k : Nat) : Bool := decide (ofB r k 2 = 1) && shadR r k (nI (hrOf r))
def shOf (r : Nat → Int32) : Nat → Int32 := fun k => if shB r k = true then 1 else 0
def hourW (r : Nat → Int32) (w : Nat → UInt32) : Nat → UInt32 := meltW (freezeR (tOf r) r) (shOf r) (tOf r) (CN r) w
def hour1 (r : Nat → Int32) (w : Nat → UInt32) : Nat → Int32 := remR (hourW r w) (CN r) (freezeR (tOf r) r)
def hour2 (r : Nat → Int32) (w : Nat → UInt32) : Nat → Int32 := brkR (hourW r w) 40 (fallR (hour1 r w))
def hourR (r : Nat → Int32) (w : Nat → UInt32) : Nat → Int32 := upd (hour2 r w) 0 (hour2 r w 0 + 1)
theorem freeze_b {t : Int32} {r : Nat → Int32} {b x : Nat} (hx : x < 8) (h5 : x ≠ 5) : ofB (freezeR t r) b x = ofB r b x := by
  unfold freezeR
  rw [jointsR_b hx h5]
  exact upd_ne (by omega)
theorem freeze_hd {t : Int32} {r : Nat → Int32} {i : Nat} (hi : i < 125) (h1 : i ≠ 1) : freezeR t r i = r i := by
  unfold freezeR
  rw [jointsR_hd hi, upd_ne h1]
theorem hour_MasW {B : Nat} {r : Nat → Int32} {w : Nat → UInt32} (hw : Wel r) (hm : MasW r w) (hd : HdW B r) : MasW (hour1 r w) (hourW r w) := by
  intro b hb hs
  have hf := freezeR_Wel (t := tOf r) hw
  have hc : Shr (freezeR (tOf r) r) (hour1 r w) := remR_Shr (w := hourW r w) (Shr.rf hf) (CN r) (by rw [freezeR_CN]; exact Nat.le_refl _)
  have hb2 : b < CN r := by rw [hc.1.2.1, freezeR_CN] at hb; exact hb
  have h2 := hc.2 b (by rw [freezeR_CN]; exact hb2) hs 2 (by decide)
  rw [hs, freeze_b (by decide) (by decide)] at h2
  have hn := remR_not (w := hourW r w) hf (CN r) (by rw [freezeR_CN]; exact Nat.le_refl _) b hb2 hs
  have e : hourW r w b = warmA (meltA (w b) (decide (shOf r b ≠ 0)) (tOf r)) (ofB (freezeR (tOf r) r) b 4) (freezeR (tOf r) r 3) := by
    unfold hourW
    rw [meltW_lt hb2, if_pos (by rw [freeze_b (by decide) (by decide)]; exact h2.symm)]
  have ht : 0 < tOf r → tOf r ≤ 20 := fun _ => (hd.2.2 (hrOf r) (Nat.mod_lt _ (by decide))).2
  obtain ⟨-, m2⟩ := melt_ok (s := decide (shOf r b ≠ 0)) (hm b hb2 h2.symm) ht
  obtain ⟨-, -, v3, v4⟩ := warm_ok2 (cu := ofB (freezeR (tOf r) r) b 4) (v := freezeR (tOf r) r 3) m2 (by rw [freeze_hd (by decide) (by decide)]; exact hd.2.1)
  rw [e] at hn ⊢
  have h9 : 0 ≤ Op.cmpValue (FP.fcmp (warmA (meltA (w b) (decide (shOf r b ≠ 0)) (tOf r)) (ofB (freezeR (tOf r) r) b 4) (freezeR (tOf r) r 3)) 0x3f800000) .g := Decidable.not_not.mp (fun q => hn (decide_eq_true q))
  have := (lt1_iff v3).mp h9
  exact v4 this.1 this.2
end
