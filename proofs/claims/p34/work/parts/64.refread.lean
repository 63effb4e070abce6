-- needs: 63
noncomputable section
/-- the orders carried out one after another, up to the first fault: fault, row, masses, reason and detail -/
abbrev CyS : Type := Int32 × (Nat → Int32) × (Nat → UInt32) × (Int32 × Int32)
def cyS (I : Nat → Int32) (L i : Nat) (c : CyS) : CyS := if c.1 = 0 then (stF (rdI I L i).2.1 c.2.1 (rdI I L i).2.2, stR (rdI I L i).2.1 c.2.1 c.2.2.1 (rdI I L i).2.2, stW (rdI I L i).2.1 c.2.1 c.2.2.1 (rdI I L i).2.2, stD (rdI I L i).2.1 c.2.1 (rdI I L i).2.2 c.2.2.2) else c
def cyN (I : Nat → Int32) (L : Nat) (c : CyS) (n : Nat) : CyS := iterN (cyS I L) n c
theorem cyN_stop {I : Nat → Int32} {L : Nat} {c : CyS} {i : Nat} (h : (cyN I L c i).1 ≠ 0) : ∀ m, cyN I L c (i + m) = cyN I L c i
  | 0 => rfl
  | m + 1 => by
    have IH := cyN_stop h m
    show cyS I L (i + m) (cyN I L c (i + m)) = _
    rw [IH]
    unfold cyS
    rw [if_neg h]
theorem cy_Inv {I : Nat → Int32} {L : Nat} {c : CyS} {B : Nat} (h : Inv B c.2.1 c.2.2.1) (hB : B + 3000 < 2 ^ 30) : ∀ n, n ≤ 61 → ∃ B', B' ≤ B + 48 * n ∧ Inv B' (cyN I L c n).2.1 (cyN I L c n).2.2.1
  | 0, _ => ⟨B, by omega, h⟩
  | n + 1, hn => by
    obtain ⟨B', b1, b2⟩ := cy_Inv h hB n (by omega)
    show ∃ B', _ ∧ Inv B' (cyS I L n (cyN I L c n)).2.1 (cyS I L n (cyN I L c n)).2.2.1
    unfold cyS
    split
    · obtain ⟨B2, c1, c2⟩ := b2.st (rdI I L n).2.1 (rdI I L n).2.2 (by omega)
      exact ⟨B2, by omega, c2⟩
    · exact ⟨B', by omega, b2⟩
theorem kn_w {I : Nat → Int32} {L : Nat} {s : TS} (h : (rdOrd I L s).1.2 = false) : s.2 = false ∧ KnO (rdOrd I L s).2.1 := by
  by_cases k : knB I L s = true
  · have e : rdOrd I L s = ((ordK I L (s.1 + 1, false) (I s.1)).1, I s.1, (ordK I L (s.1 + 1, false) (I s.1)).2) := if_pos k
    rw [e]
    unfold knB at k
    rw [Bool.or_eq_true, Bool.or_eq_true, Bool.or_eq_true, Bool.or_eq_true] at k
    rcases k with (((k | k) | k) | k) | k
    · exact ⟨(seeB_w k).1, Or.inl (see_I k)⟩
    · exact ⟨(seeB_w k).1, Or.inr (Or.inl (see_I k))⟩
    · exact ⟨(seeB_w k).1, Or.inr (Or.inr (Or.inl (see_I k)))⟩
    · exact ⟨(seeB_w k).1, Or.inr (Or.inr (Or.inr (Or.inl (see_I k))))⟩
    · exact ⟨(seeB_w k).1, Or.inr (Or.inr (Or.inr (Or.inr (see_I k))))⟩
  · have e : rdOrd I L s = ((s.1, true), 32, 0, 0, 0) := if_neg k
    rw [e] at h
    exact absurd (show true = false from h) (by decide)
theorem fstP_lt {p : Nat → Bool} {n : Nat} : ∀ (m k : Nat), k + m = n → ∀ j, k ≤ j → j < fstP p n m k → ¬ p j = true
  | 0, k, hk, j, h1, h2 => by
    have e : fstP p n 0 k = n := rfl
    omega
  | m + 1, k, hk, j, h1, h2 => by
    by_cases c : p k = true
    · rw [fstP_t c] at h2
      omega
    · rw [fstP_f c] at h2
      by_cases e : j = k
      · rw [e]; exact c
      · exact fstP_lt m (k + 1) (by omega) j (by omega) h2
theorem rd_ok {I : Nat → Int32} {L : Nat} (hs : stP9 I L (oN0 I L) = true) (hw : (rdI I L (oN0 I L)).1.2 = false) {i : Nat} (hi : i ≤ oN0 I L) (hN : oN0 I L ≤ 60) : (rdI I L i).1.2 = false ∧ (i < oN0 I L → (rdI I L i).1.1 < L ∧ oS I L (i + 1) = ((rdI I L i).1.1 + 1, false)) := by
  have np : ∀ j, j < oN0 I L → ¬ stP9 I L j = true := fun j hj z => by
    have := fstP_lt (p := stP9 I L) (n := 61) 61 0 rfl j (Nat.zero_le j) hj
    exact this z
  have ok : ∀ j, j ≤ oN0 I L → (rdI I L j).1.2 = false := fun j hj => by
    by_cases e : j = oN0 I L
    · rw [e]; exact hw
    · exact (stP9_f (np j (by omega))).1
  refine ⟨ok i hi, fun hlt => ⟨(stP9_f (np i hlt)).2, ?_⟩⟩
  have h2 := (kn_w (ok (i + 1) (by omega))).1
  show mustS I L (rdI I L i).1 59 = _
  have h2 : (mustS I L (rdI I L i).1 59).2 = false := h2
  by_cases z : seeB I L (rdI I L i).1 59 59 = true
  · exact mustS_t z
  · rw [mustS_f z] at h2
    exact absurd (show true = false from h2) (by decide)
/-- what the reader's loop keeps -/
def CyI (g0 g : AH) (I : Nat → Int32) (L K : Nat) (c : CyS) : Prop := g.1 1 = c.2.1 ∧ g.2.1 5 = c.2.2.1 ∧ g.1 0 12 = c.2.2.2.1 ∧ g.1 0 13 = c.2.2.2.2 ∧ g.1 0 15 = 1 ∧ g.1 0 11 = nI K ∧ HSame g0 g ∧ (∀ j, j ≠ 0 → (j < 11 ∨ 13 < j) → j ≠ 20 → j ≠ 22 → j ≠ 23 → g.1 0 j = g0.1 0 j) ∧ (∀ a, a = 2 ∨ a = 4 ∨ a = 29 → g.1 a = g0.1 a) ∧ (∀ a, a = 6 ∨ a = 8 → g.2.1 a = g0.2.1 a)
theorem CyI.T {g0 g g' : AH} {I : Nat → Int32} {L K : Nat} {c : CyS} (H : CyI g0 g I L K c) (F : FrT g g') : CyI g0 g' I L K c := by
  obtain ⟨a1, a2, a3, a4, a5, a6, a7, a8, a9, a10⟩ := H
  obtain ⟨f1, f2, f3⟩ := F
  exact ⟨by rw [f2 1 (by decide) (by decide)]; exact a1, by rw [f3]; exact a2, by rw [f1 12 (by decide) (by decide) (by decide)]; exact a3, by rw [f1 13 (by decide) (by decide) (by decide)]; exact a4, by rw [f1 15 (by decide) (by decide) (by decide)]; exact a5, by rw [f1 11 (by decide) (by decide) (by decide)]; exact a6, a7.tr ⟨f1 11 (by decide) (by decide) (by decide), fun i hi => ⟨f2 _ (by omega) (by omega), by rw [f3]⟩⟩, fun j b1 b2 b3 b4 b5 => (f1 j b3 b4 b5).trans (a8 j b1 b2 b3 b4 b5), fun a ha => (f2 a (by omega) (by omega)).trans (a9 a ha), fun a ha => (by rw [f3]; exact a10 a ha)⟩
theorem CyI.op {g0 g g' : AH} {I : Nat → Int32} {L K : Nat} {c : CyS} (H : CyI g0 g I L K c) {code re de f : Int32} {r' : Nat → Int32} {w' : Nat → UInt32} (O : OpP g g' code re de r' w' false K) : CyI g0 g' I L K (f, r', w', (re, de)) := by
  obtain ⟨a1, a2, a3, a4, a5, a6, a7, a8, a9, a10⟩ := H
  obtain ⟨o1, o2, o3, o4, o5, o6, o7⟩ := O
  have o6 : HSame g g' := o6
  exact ⟨o4, o5, o2, o3, by rw [o7.1 15 (by decide) (by decide)]; exact a5, by rw [o6.1]; exact a6, a7.tr o6, fun j b1 b2 b3 b4 b5 => (o7.1 j b1 b2).trans (a8 j b1 b2 b3 b4 b5), fun a ha => (o7.2.1 a (by omega) (by omega) (by omega) (by omega)).trans (a9 a ha), fun a ha => (o7.2.2.1 a (by omega) (by omega) (by omega)).trans (a10 a ha)⟩
theorem TxI.O {h h' : AH} {I : Nat → Int32} {L : Nat} {s : TS} (H : TxI h I L s) (F : FrO h h') : TxI h' I L s := ⟨by rw [F.2.1 29 (by decide) (by decide) (by decide) (by decide)]; exact H.1, by rw [F.1 19 (by decide) (by decide)]; exact H.2.1, H.2.2.1, by rw [F.1 20 (by decide) (by decide)]; exact H.2.2.2.1, H.2.2.2.2.1, by rw [F.1 22 (by decide) (by decide)]; exact H.2.2.2.2.2⟩
end
