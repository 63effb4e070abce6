-- needs: 20
noncomputable section
theorem hour1_Shr {r : Nat → Int32} {w : Nat → UInt32} (hw : Wel r) : Shr (freezeR (tOf r) r) (hour1 r w) := remR_Shr (w := hourW r w) (Shr.rf (freezeR_Wel hw)) (CN r) (by rw [freezeR_CN]; exact Nat.le_refl _)
theorem hour2_Shr {r : Nat → Int32} {w : Nat → UInt32} (hw : Wel r) : Shr (hour1 r w) (hour2 r w) := by
  have h1 := (hour1_Shr (w := w) hw).1.1
  have h2 := fallI_Shr (Shr.rf h1) 7 (Nat.le_refl _)
  exact h2.tr (brkR_Shr 40 _ h2.1.1)
theorem hour2_hd {r : Nat → Int32} {w : Nat → UInt32} (hw : Wel r) {i : Nat} (hi : i < 29) (h1 : i ≠ 1) : hour2 r w i = r i := by
  rw [(hour2_Shr hw).1.2.2 i hi, (hour1_Shr hw).1.2.2 i hi, freeze_hd (by omega) h1]
theorem upd0_b {r : Nat → Int32} {x : Int32} {b y : Nat} : ofB (upd r 0 x) b y = ofB r b y := upd_ne (by omega)
theorem upd0_MasW {r : Nat → Int32} {w : Nat → UInt32} {x : Int32} (h : MasW r w) : MasW (upd r 0 x) w := fun b hb hs => h b (by rw [upd_CN (by decide)] at hb; exact hb) (by rw [upd0_b] at hs; exact hs)
/-- what the hours need of a row -/
def HS (B : Nat) (r : Nat → Int32) (w : Nat → UInt32) : Prop := Wel r ∧ MasW r w ∧ HdW B r
theorem hour_HS {B : Nat} {r : Nat → Int32} {w : Nat → UInt32} (h : HS B r w) (hB : B + 1 < 2 ^ 30) : HS (B + 1) (hourR r w) (hourW r w) := by
  obtain ⟨hw, hm, hd⟩ := h
  refine ⟨upd_Wel (hour2_Shr hw).1.1 (by decide) (by decide), upd0_MasW ((hour2_Shr hw).MasW (hour_MasW hw hm hd)), ?_, ?_, ?_⟩
  · obtain ⟨⟨c1, c2, c3⟩, -, -⟩ := hd
    have e : hourR r w 0 = nI (CK r + 1) := by
      show upd (hour2 r w) 0 (hour2 r w 0 + 1) 0 = _
      rw [upd_eq, hour2_hd hw (by decide) (by decide), c1, nI_1]
    have e2 : CK (hourR r w) = CK r + 1 := by
      show (hourR r w 0).toNatClampNeg = _
      rw [e, nI_clamp (by omega)]
    rw [e2]
    exact ⟨e, by omega, hB⟩
  · obtain ⟨n, h1, h2⟩ := hd.2.1
    refine ⟨n, h1, ?_⟩
    show upd (hour2 r w) 0 (hour2 r w 0 + 1) 3 = _
    rw [upd_ne (by decide), hour2_hd hw (by decide) (by decide)]
    exact h2
  · intro i hi
    have e : hourR r w (5 + i) = r (5 + i) := by
      show upd (hour2 r w) 0 (hour2 r w 0 + 1) (5 + i) = _
      rw [upd_ne (by omega), hour2_hd hw (by omega) (by omega)]
    rw [e]
    exact hd.2.2 i hi
def shI (r : Nat → Int32) (n : Nat) (sh : Nat → Int32) : Nat → Int32 := iterN (fun k sh => upd sh k (shOf r k)) n sh
theorem shI_lt {r sh : Nat → Int32} {n k : Nat} (h : k < n) : shI r n sh k = shOf r k := by
  induction n with
  | zero => exact absurd h (Nat.not_lt_zero k)
  | succ n ih =>
    show upd (shI r n sh) n (shOf r n) k = _
    by_cases e : k = n
    · subst e; exact upd_eq
    · rw [upd_ne e]; exact ih (by omega)
/-- n hours -/
def hoursR : Nat → (Nat → Int32) → (Nat → UInt32) → Nat → Int32
  | 0, r, _ => r
  | n + 1, r, w => hoursR n (hourR r w) (hourW r w)
def hoursW : Nat → (Nat → Int32) → (Nat → UInt32) → Nat → UInt32
  | 0, _, w => w
  | n + 1, r, w => hoursW n (hourR r w) (hourW r w)
theorem hours_HS : ∀ (n : Nat) {B : Nat} {r : Nat → Int32} {w : Nat → UInt32}, HS B r w → B + n < 2 ^ 30 → HS (B + n) (hoursR n r w) (hoursW n r w)
  | 0, B, r, w, h, _ => h
  | n + 1, B, r, w, h, hB => by
    have := hours_HS n (hour_HS h (by omega)) (by omega)
    rw [show B + 1 + n = B + (n + 1) by omega] at this
    exact this
end
