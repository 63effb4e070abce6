-- needs: 54
noncomputable section
/-- reading the text: a place and whether it is wrong -/
abbrev TS : Type := Nat × Bool
def seeB (I : Nat → Int32) (L : Nat) (s : TS) (a b : Int32) : Bool := !s.2 && decide (s.1 < L) && decide (a ≤ I s.1 ∧ I s.1 ≤ b)
def mustS (I : Nat → Int32) (L : Nat) (s : TS) (c : Int32) : TS := if seeB I L s c c = true then (s.1 + 1, false) else (s.1, true)
def dgN (I : Nat → Int32) (a : Nat) : Nat := (I a).toNatClampNeg - 48
def numL (I : Nat → Int32) (L : Nat) : Nat → Nat → Nat → Nat × Nat
  | 0, v, a => (v, a)
  | n + 1, v, a => if seeB I L (a, false) 48 57 = true then numL I L n (10 * v + dgN I a) (a + 1) else (v, a)
def numS (I : Nat → Int32) (L n : Nat) (s : TS) : Nat × TS := if seeB I L s 48 57 = true then ((numL I L n 0 s.1).1, ((numL I L n 0 s.1).2, false)) else (0, (s.1, true))
theorem dg_nI {I : Nat → Int32} {a : Nat} (h1 : 48 ≤ I a) (h2 : I a ≤ 57) : I a = nI (48 + dgN I a) ∧ dgN I a ≤ 9 := by
  obtain ⟨n, hn, e⟩ := nI_of2 (x := I a) (M := 57) (n := 57) rfl (Int32.not_lt.mpr (Int32.le_trans (by decide) h1)) h2
  have h48 : 48 ≤ n := by
    have : ¬ n < 48 := fun q => nI_ge q (by decide) (by rw [← e]; exact h1)
    omega
  have ed : dgN I a = n - 48 := by unfold dgN; rw [e, nI_clamp (by omega)]
  rw [ed, e]
  exact ⟨congrArg nI (by omega), by omega⟩
/-- where the reader stands -/
def TxI (h : AH) (I : Nat → Int32) (L : Nat) (s : TS) : Prop := h.1 29 = I ∧ h.1 0 19 = nI L ∧ L ≤ 60 ∧ h.1 0 20 = nI s.1 ∧ s.1 ≤ 100 ∧ h.1 0 22 = bI (s.2 = true)
/-- what reading leaves alone -/
def FrT (h h' : AH) : Prop := (∀ j, j ≠ 20 → j ≠ 22 → j ≠ 23 → h'.1 0 j = h.1 0 j) ∧ (∀ a, a ≠ 0 → a ≠ 30 → h'.1 a = h.1 a) ∧ h'.2 = h.2
theorem FrT.rf {h : AH} : FrT h h := ⟨fun _ _ _ _ => rfl, fun _ _ _ => rfl, rfl⟩
theorem FrT.tr {a b c : AH} (h1 : FrT a b) (h2 : FrT b c) : FrT a c := ⟨fun j x y z => (h2.1 j x y z).trans (h1.1 j x y z), fun k x y => (h2.2.1 k x y).trans (h1.2.1 k x y), h2.2.2.trans h1.2.2⟩
theorem FrT.hI0 {h : AH} {i : Nat} {x : Int32} (hi : i = 20 ∨ i = 22 ∨ i = 23) : FrT h (hI h 0 i x) := ⟨fun j a b c => by rw [hI_at, upd_ne (by omega)], fun a x _ => hI_ne x, rfl⟩
theorem FrT.hI30 {h : AH} {i : Nat} {x : Int32} : FrT h (hI h 30 i x) := ⟨fun j a b c => by rw [hI_ne (by decide)], fun a _ y => hI_ne y, rfl⟩
theorem TxI.at {h : AH} {I : Nat → Int32} {L : Nat} {s : TS} (H : TxI h I L s) {a : Nat} (ha : a ≤ 100) : TxI (hI h 0 20 (nI a)) I L (a, s.2) := ⟨by rw [hI_ne (by decide)]; exact H.1, by rw [hI_at, upd_ne (by decide)]; exact H.2.1, H.2.2.1, by rw [hI_at, upd_eq], ha, by rw [hI_at, upd_ne (by decide)]; exact H.2.2.2.2.2⟩
theorem TxI.wr {h : AH} {I : Nat → Int32} {L : Nat} {s : TS} (H : TxI h I L s) {b : Bool} : TxI (hI h 0 22 (bI (b = true))) I L (s.1, b) := ⟨by rw [hI_ne (by decide)]; exact H.1, by rw [hI_at, upd_ne (by decide)]; exact H.2.1, H.2.2.1, by rw [hI_at, upd_ne (by decide)]; exact H.2.2.2.1, H.2.2.2.2.1, by rw [hI_at, upd_eq]⟩
theorem TxI.or {h : AH} {I : Nat → Int32} {L : Nat} {s : TS} (H : TxI h I L s) {x : Int32} : TxI (hI h 0 23 x) I L s := ⟨by rw [hI_ne (by decide)]; exact H.1, by rw [hI_at, upd_ne (by decide)]; exact H.2.1, H.2.2.1, by rw [hI_at, upd_ne (by decide)]; exact H.2.2.2.1, H.2.2.2.2.1, by rw [hI_at, upd_ne (by decide)]; exact H.2.2.2.2.2⟩
theorem TxI.told {h : AH} {I : Nat → Int32} {L : Nat} {s : TS} (H : TxI h I L s) {i : Nat} {x : Int32} : TxI (hI h 30 i x) I L s := ⟨by rw [hI_ne (by decide)]; exact H.1, by rw [hI_ne (by decide)]; exact H.2.1, H.2.2.1, by rw [hI_ne (by decide)]; exact H.2.2.2.1, H.2.2.2.2.1, by rw [hI_ne (by decide)]; exact H.2.2.2.2.2⟩
end
