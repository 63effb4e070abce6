-- needs: 50
noncomputable section
/-- who is in a rack was in it: hours bring none there, and leave its mass -/
def K0 (r0 r : Nat → Int32) : Prop := WC r0 r ∧ ∀ b, b < CN r0 → ofB r b 2 = 0 → ofB r0 b 2 = 0
theorem K0.goes {r0 r : Nat → Int32} {k : Nat} {y : Int32} (h : K0 r0 r) (hk : k < CN r0) : K0 r0 (goesR r k y) := by
  have hp := (h.1.1.2.2 k (by rw [h.1.2.1]; exact hk)).2
  refine ⟨h.1.goes hk, fun b hb hs => ?_⟩
  by_cases e : b = k
  · subst e
    rw [(goesR_eq hp).2.2.1] at hs
    exact absurd hs (by decide)
  · rw [goesR_ne hp e (by decide)] at hs
    exact h.2 b hb hs
theorem K0.rem {r0 r : Nat → Int32} {w : Nat → UInt32} (h : K0 r0 r) : K0 r0 (remR w (CN r0) r) :=
  iterN_inv (n := CN r0) (I := fun _ t => K0 r0 t) h (fun k t hk ht => by
    unfold remS
    split
    · exact ht.goes hk
    · exact ht) (CN r0) (Nat.le_refl _)
theorem K0.fallC {r0 r : Nat → Int32} {c : Nat} (h : K0 r0 r) : K0 r0 (fallC c (CN r0) r) :=
  iterN_inv (n := CN r0) (I := fun _ t => K0 r0 t) h (fun k t hk ht => by
    unfold fallS
    split
    · exact ht.goes hk
    · exact ht) (CN r0) (Nat.le_refl _)
theorem K0.fall {r0 r : Nat → Int32} (h : K0 r0 r) : K0 r0 (fallR r) :=
  iterN_inv (n := 7) (I := fun _ t => K0 r0 t) h (fun k t hk ht => by
    rw [show CN t = CN r0 from ht.1.2.1]
    exact ht.fallC) 7 (Nat.le_refl _)
theorem K0.brk {r0 : Nat → Int32} {w : Nat → UInt32} : ∀ (n : Nat) (r : Nat → Int32), K0 r0 r → K0 r0 (brkR w n r)
  | 0, r, h => h
  | n + 1, r, h => by
    unfold brkR
    split
    · next hn =>
      exact K0.brk n _ (h.goes (by rw [← h.1.2.1]; exact hn)).fall
    · exact h
theorem K0.rf {r : Nat → Int32} (h : Wel r) : K0 r r := ⟨WC.rf h, fun _ _ q => q⟩
theorem hour_K {r : Nat → Int32} {w : Nat → UInt32} (hw : Wel r) : ∀ b, b < CN r → ofB (hourR r w) b 2 = 0 → ofB r b 2 = 0 := fun b hb hs => by
  have h1 := K0.rf (freezeR_Wel (t := tOf r) hw)
  have h2 := h1.rem (w := hourW r w)
  rw [freezeR_CN] at h2
  have h3 := K0.brk (w := hourW r w) 40 _ h2.fall
  have e : ofB (hourR r w) b 2 = ofB (hour2 r w) b 2 := by
    show upd (hour2 r w) 0 _ (125 + 8 * b + 2) = hour2 r w (125 + 8 * b + 2)
    exact upd_ne (by omega)
  rw [e] at hs
  have := h3.2 b (by rw [freezeR_CN]; exact hb) hs
  rw [freeze_b (by decide) (by decide)] at this
  exact this
theorem meltW_off {r sh : Nat → Int32} {t : Int32} {w : Nat → UInt32} {b : Nat} (hs : ¬ ofB r b 2 = 1) : ∀ n, meltW r sh t n w b = w b
  | 0 => rfl
  | n + 1 => by
    show meltS r sh t n (meltW r sh t n w) b = w b
    have IH := meltW_off (sh := sh) (t := t) (w := w) hs n
    unfold meltS
    split
    · next q =>
      have q := of_decide_eq_true q
      unfold vf_upd
      rw [if_neg (fun z => hs (by rw [z]; exact q))]
      exact IH
    · exact IH
def MasK (r : Nat → Int32) (w : Nat → UInt32) : Prop := ∀ b, b < CN r → ofB r b 2 = 0 → mOk (w b)
theorem hourR_CN {r : Nat → Int32} {w : Nat → UInt32} (hw : Wel r) : CN (hourR r w) = CN r := by
  have h1 := (hour1_Shr (w := w) hw).1.2.1
  have h2 := (hour2_Shr (w := w) hw).1.2.1
  rw [freezeR_CN] at h1
  rw [← h1, ← h2]
  show (upd (hour2 r w) 0 _ 4).toNatClampNeg = (hour2 r w 4).toNatClampNeg
  rw [upd_ne (by decide)]
theorem hour_MasK {r : Nat → Int32} {w : Nat → UInt32} (hw : Wel r) (h : MasK r w) : MasK (hourR r w) (hourW r w) := fun b hb hs => by
  rw [hourR_CN hw] at hb
  have hs2 := hour_K hw b hb hs
  unfold hourW
  rw [meltW_off (by rw [freeze_b (by decide) (by decide), hs2]; decide)]
  exact h b hb hs2
theorem hours_MasK : ∀ (n B : Nat) {r : Nat → Int32} {w : Nat → UInt32}, HS B r w → B + n < 2 ^ 30 → MasK r w → MasK (hoursR n r w) (hoursW n r w)
  | 0, B, r, w, _, _, h => h
  | n + 1, B, r, w, hS, hB, h => hours_MasK n (B + 1) (hour_HS hS (by omega)) (by omega) (hour_MasK hS.1 h)
theorem hours_CN : ∀ (n B : Nat) {r : Nat → Int32} {w : Nat → UInt32}, HS B r w → B + n < 2 ^ 30 → CN (hoursR n r w) = CN r
  | 0, B, r, w, _, _ => rfl
  | n + 1, B, r, w, hS, hB => (hours_CN n (B + 1) (hour_HS hS (by omega)) (by omega)).trans (hourR_CN hS.1)
theorem hours_s : ∀ (n : Nat) {r : Nat → Int32} {w : Nat → UInt32}, hoursR (n + 1) r w = hourR (hoursR n r w) (hoursW n r w) ∧ hoursW (n + 1) r w = hourW (hoursR n r w) (hoursW n r w)
  | 0, r, w => ⟨rfl, rfl⟩
  | n + 1, r, w => hours_s n (r := hourR r w) (w := hourW r w)
theorem hours_a : ∀ (n m : Nat) {r : Nat → Int32} {w : Nat → UInt32}, hoursR (n + m) r w = hoursR m (hoursR n r w) (hoursW n r w) ∧ hoursW (n + m) r w = hoursW m (hoursR n r w) (hoursW n r w)
  | 0, m, r, w => by rw [Nat.zero_add]; exact ⟨rfl, rfl⟩
  | n + 1, m, r, w => by
    rw [show n + 1 + m = (n + m) + 1 by omega]
    exact hours_a n m (r := hourR r w) (w := hourW r w)
/-- blocks on the wall grow fewer -/
theorem on_freeze {t : Int32} {r : Nat → Int32} : onN (freezeR t r) = onN r := by
  show cntS (freezeR t r) 1 (CN (freezeR t r)) = cntS r 1 (CN r)
  rw [freezeR_CN]
  exact cntP_congr (fun k hk => by rw [freeze_b (by decide) (by decide)])
theorem hour_on {r : Nat → Int32} {w : Nat → UInt32} (hw : Wel r) : onN (hourR r w) ≤ onN r := by
  have h1 := (hour1_Shr (w := w) hw).on_le
  rw [on_freeze] at h1
  have h2 := (hour2_Shr (w := w) hw).on_le
  have e : onN (hourR r w) = onN (hour2 r w) := by
    show cntS (hourR r w) 1 (CN (hourR r w)) = cntS (hour2 r w) 1 (CN (hour2 r w))
    rw [show CN (hourR r w) = CN (hour2 r w) by show (upd (hour2 r w) 0 _ 4).toNatClampNeg = (hour2 r w 4).toNatClampNeg; rw [upd_ne (by decide)]]
    exact cntP_congr (fun k hk => by rw [show ofB (hourR r w) k 2 = ofB (hour2 r w) k 2 from upd_ne (by omega)])
  rw [e]
  exact Nat.le_trans h2 h1
theorem hours_on : ∀ (n B : Nat) {r : Nat → Int32} {w : Nat → UInt32}, HS B r w → B + n < 2 ^ 30 → onN (hoursR n r w) ≤ onN r
  | 0, B, r, w, _, _ => Nat.le_refl _
  | n + 1, B, r, w, hS, hB => Nat.le_trans (hours_on n (B + 1) (hour_HS hS (by omega)) (by omega)) (hour_on hS.1)
end
