-- needs: 9962
noncomputable section
/-- hours take blocks from the wall, nowhere else -/
def J0 (r0 r : Nat → Int32) : Prop := WC r0 r ∧ ∀ b, b < CN r0 → ofB r b 2 = ofB r0 b 2 ∨ (ofB r0 b 2 = 1 ∧ ofB r b 2 = 2)
theorem J0.goes {r0 r : Nat → Int32} {k : Nat} {y : Int32} (h : J0 r0 r) (hk : k < CN r0) (h1 : ofB r k 2 = 1) : J0 r0 (goesR r k y) := by
  have hp := (h.1.1.2.2 k (by rw [h.1.2.1]; exact hk)).2
  refine ⟨h.1.goes hk, fun b hb => ?_⟩
  by_cases e : b = k
  · subst e
    rw [(goesR_eq hp).2.2.1]
    rcases h.2 b hb with z | ⟨z1, z2⟩
    · exact Or.inr ⟨z.symm.trans h1, rfl⟩
    · exact Or.inr ⟨z1, rfl⟩
  · rw [goesR_ne hp e (by decide)]
    exact h.2 b hb
theorem J0.rem {r0 r : Nat → Int32} {w : Nat → UInt32} (h : J0 r0 r) : J0 r0 (remR w (CN r0) r) :=
  iterN_inv (n := CN r0) (I := fun _ t => J0 r0 t) h (fun k t hk ht => by
    unfold remS
    split
    · next q =>
      rw [Bool.and_eq_true] at q
      exact ht.goes hk (of_decide_eq_true q.1)
    · exact ht) (CN r0) (Nat.le_refl _)
theorem J0.fallC {r0 r : Nat → Int32} {c : Nat} (h : J0 r0 r) : J0 r0 (fallC c (CN r0) r) :=
  iterN_inv (n := CN r0) (I := fun _ t => J0 r0 t) h (fun k t hk ht => by
    unfold fallS
    split
    · next q =>
      rw [Bool.and_eq_true, Bool.and_eq_true] at q
      exact ht.goes hk (of_decide_eq_true q.1.1)
    · exact ht) (CN r0) (Nat.le_refl _)
theorem J0.fall {r0 r : Nat → Int32} (h : J0 r0 r) : J0 r0 (fallR r) :=
  iterN_inv (n := 7) (I := fun _ t => J0 r0 t) h (fun k t hk ht => by
    rw [show CN t = CN r0 from ht.1.2.1]
    exact ht.fallC) 7 (Nat.le_refl _)
theorem J0.brk {r0 : Nat → Int32} {w : Nat → UInt32} : ∀ (n : Nat) (r : Nat → Int32), J0 r0 r → J0 r0 (brkR w n r)
  | 0, r, h => h
  | n + 1, r, h => by
    unfold brkR
    split
    · next hn =>
      have p := fstP_p (p := ovP r w) (n := CN r) (CN r) 0 hn
      unfold ovP at p
      rw [Bool.and_eq_true] at p
      exact J0.brk n _ (h.goes (by rw [← h.1.2.1]; exact hn) (of_decide_eq_true p.1)).fall
    · exact h
theorem J0.rf {r : Nat → Int32} (h : Wel r) : J0 r r := ⟨WC.rf h, fun _ _ => Or.inl rfl⟩
theorem hour_J {r : Nat → Int32} {w : Nat → UInt32} (hw : Wel r) : ∀ b, b < CN r → ofB (hourR r w) b 2 = ofB r b 2 ∨ (ofB r b 2 = 1 ∧ ofB (hourR r w) b 2 = 2) := fun b hb => by
  have h1 := J0.rf (freezeR_Wel (t := tOf r) hw)
  have h2 := h1.rem (w := hourW r w)
  rw [freezeR_CN] at h2
  have h3 := J0.brk (w := hourW r w) 40 _ h2.fall
  have e : ofB (hourR r w) b 2 = ofB (hour2 r w) b 2 := by
    show upd (hour2 r w) 0 _ (125 + 8 * b + 2) = hour2 r w (125 + 8 * b + 2)
    exact upd_ne (by omega)
  rw [e]
  have := h3.2 b (by rw [freezeR_CN]; exact hb)
  rw [freeze_b (by decide) (by decide)] at this
  exact this
theorem hours_J : ∀ (n B : Nat) {r : Nat → Int32} {w : Nat → UInt32}, HS B r w → B + n < 2 ^ 30 → ∀ b, b < CN r → ofB (hoursR n r w) b 2 = ofB r b 2 ∨ (ofB r b 2 = 1 ∧ ofB (hoursR n r w) b 2 = 2)
  | 0, B, r, w, _, _, b, hb => Or.inl rfl
  | n + 1, B, r, w, hS, hB, b, hb => by
    have a := hours_J n (B + 1) (hour_HS (w := w) hS (by omega)) (by omega) b (by rw [hourR_CN hS.1]; exact hb)
    have a2 := hour_J (w := w) hS.1 b hb
    show ofB (hoursR n (hourR r w) (hourW r w)) b 2 = _ ∨ (_ ∧ ofB (hoursR n (hourR r w) (hourW r w)) b 2 = 2)
    rcases a with a | ⟨a, a3⟩
    · rcases a2 with z | ⟨z, z3⟩
      · exact Or.inl (a.trans z)
      · exact Or.inr ⟨z, a.trans z3⟩
    · rcases a2 with z | ⟨z, z3⟩
      · exact Or.inr ⟨z.symm.trans a, a3⟩
      · exact Or.inr ⟨z, a3⟩
theorem cnt_J {r0 r : Nat → Int32} : ∀ m, (∀ b, b < m → ofB r b 2 = ofB r0 b 2 ∨ (ofB r0 b 2 = 1 ∧ ofB r b 2 = 2)) → cntS r 1 m + cntS r 2 m = cntS r0 1 m + cntS r0 2 m
  | 0, _ => rfl
  | m + 1, h => by
    have IH := cnt_J m (fun b hb => h b (by omega))
    have e : ∀ (s : Nat → Int32) (y : Int32), cntS s y (m + 1) = cntS s y m + (if ofB s m 2 = y then 1 else 0) := fun s y => by
      by_cases c : ofB s m 2 = y
      · rw [if_pos c]; exact congrArg (cntS s y m + ·) (if_pos (decide_eq_true c))
      · rw [if_neg c]; exact congrArg (cntS s y m + ·) (if_neg (fun z => c (of_decide_eq_true z)))
    rw [e, e, e, e]
    rcases h m (by omega) with z | ⟨z1, z2⟩
    · rw [z]; omega
    · rw [z1, z2, if_neg (by decide), if_pos rfl, if_pos rfl, if_neg (by decide)]; omega
theorem pass_v {r : Nat → Int32} {w : Nat → UInt32} {B : Nat} (I : Inv B r w) (hB : B + 48 < 2 ^ 30) {x : Int32} (hc : passC x = 0) : nI (goneN (passR r w x)) - nI (goneN r) = nI (onN r) - nI (onN (passR r w x)) := by
  unfold passR
  rw [if_pos hc]
  have c1 : 1 ≤ x ∧ x ≤ 48 := Decidable.not_not.mp (fun z => by unfold passC at hc; rw [if_pos z] at hc; exact absurd hc (by decide))
  obtain ⟨n, hn, e⟩ := nI_of2 (x := x) (M := 48) (n := 48) rfl (Int32.not_lt.mpr (Int32.le_trans (by decide) c1.1)) c1.2
  rw [e, nI_clamp (by omega)]
  have hS := I.2.1
  have J := cnt_J (CN r) (hours_J n B hS (by omega))
  have ec := hours_CN n B hS (w := w) (by omega)
  have o := hours_on n B (w := w) hS (by omega)
  have g : onN (hoursR n r w) + goneN (hoursR n r w) = onN r + goneN r := by
    show cntS _ 1 (CN (hoursR n r w)) + cntS _ 2 (CN (hoursR n r w)) = _
    rw [ec]; exact J
  have b1 : onN r ≤ 40 := onN_le hS.1
  have b2 : goneN r ≤ 40 := Nat.le_trans (cntP_le _ _) hS.1.2.1
  rw [nI_sub (by omega), nI_sub (by omega)]
  exact congrArg nI (by omega)
end
