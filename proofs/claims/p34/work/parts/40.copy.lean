-- needs: 39
noncomputable section
theorem er_aal {d mi pc nx r1 r2 r3 k n t u : Nat} {ts : List Nat} {lc : LC} {st : List Value} {h h' : AH} {v : Option Value} {w : Value} {i : Int32} (hc : cdT mi pc = some (3, .aaload, nx, r1, r2, r3, w)) (hl : layAt k = (t, n, ts)) (ht : t = 7) (hi : vp_in i n) (hu : ts[i.toNatClampNeg]? = some u) (K : EvR d mi nx lc (.ref u :: st) h v h') : EvR d mi pc lc (.int i :: .ref k :: st) h v h' := by
  refine er_s (pc' := nx) (lc' := lc) (st' := .ref u :: st) (h2 := h) ?_ K
  unfold stp
  subst ht
  simp only [hc, stH, hl]
  rw [if_neg hi]
  simp only [hu]
theorem ex_aal {d mi pc nx r1 r2 r3 k n t u : Nat} {ts : List Nat} {lc : LC} {st : List Value} {h : AH} {P : Option Value → AH → Prop} {w : Value} {i : Int32} (hc : cdT mi pc = some (3, .aaload, nx, r1, r2, r3, w)) (hl : layAt k = (t, n, ts)) (ht : t = 7) (hi : vp_in i n) (hu : ts[i.toNatClampNeg]? = some u) (K : WX d mi nx lc (.ref u :: st) h P) : WX d mi pc lc (.int i :: .ref k :: st) h P := by
  obtain ⟨v0, h0, k0, p0⟩ := K
  exact ⟨v0, h0, er_aal hc hl ht hi hu k0, p0⟩
theorem ex_al {d mi pc nx r1 r2 r3 k n t : Nat} {sl : List Nat} {lc : LC} {st : List Value} {h : AH} {P : Option Value → AH → Prop} {w : Value} (hc : cdT mi pc = some (3, .arraylength, nx, r1, r2, r3, w)) (hl : layAt k = (t, n, sl)) (ht : 1 ≤ t ∧ t ≤ 4) (K : WX d mi nx lc (.int (Int32.ofNat n) :: st) h P) (h3 : t ≠ 3 := by decide) : WX d mi pc lc (.ref k :: st) h P := by
  obtain ⟨v0, h0, k0, p0⟩ := K
  exact ⟨v0, h0, er_al hc hl ht k0 h3, p0⟩
/-- arraycopy of whole rows -/
theorem er_cpI {d mi pc nx r1 r2 a b n : Nat} {sa sb : List Nat} {lc : LC} {st : List Value} {h h' : AH} {v : Option Value} {w : Value} {ins : Instr} (hc : cdT mi pc = some (5, ins, nx, r1, r2, 6, w)) (ha : layAt a = (1, n, sa)) (hb : layAt b = (1, n, sb)) (hn : n < 2 ^ 31) (h8 : ((.ref a :: st).map fun v => v.category).sum ≤ 5) (K : EvR d mi nx lc st (hIr h b (va_cpy (h.1 a) (h.1 b) 0 0 n)) v h') : EvR d mi pc lc (.int (nI n) :: .int 0 :: .ref b :: .int 0 :: .ref a :: st) h v h' := by
  refine er_s (pc' := nx) (lc' := lc) (st' := st) (h2 := hIr h b (va_cpy (h.1 a) (h.1 b) 0 0 n)) ?_ K
  have e : (List.drop 2 (Value.int (nI n) :: .int 0 :: .ref b :: .int 0 :: .ref a :: st)).map (fun v => v.category) = [1, 1] ++ (.ref a :: st).map (fun v => v.category) := rfl
  have e2 : ((List.drop 2 (Value.int (nI n) :: .int 0 :: .ref b :: .int 0 :: .ref a :: st)).map fun v => v.category).sum ≤ 8 := by
    rw [e, List.sum_append]
    have : ([1, 1] : List Nat).sum = 2 := rfl
    omega
  unfold stp
  simp only [hc]
  rw [if_pos e2]
  simp only [stP]
  rw [if_neg (by have : ¬ nI n < 0 := nI_pos hn; simp [this])]
  simp only [ha, hb, nI_clamp hn]
  rw [if_pos (by simp [k0])]
  simp only [k0]
theorem er_cpF {d mi pc nx r1 r2 a b n : Nat} {sa sb : List Nat} {lc : LC} {st : List Value} {h h' : AH} {v : Option Value} {w : Value} {ins : Instr} (hc : cdT mi pc = some (5, ins, nx, r1, r2, 6, w)) (ha : layAt a = (4, n, sa)) (hb : layAt b = (4, n, sb)) (hn : n < 2 ^ 31) (h8 : ((.ref a :: st).map fun v => v.category).sum ≤ 5) (K : EvR d mi nx lc st (hFr h b (va_cpy (h.2.1 a) (h.2.1 b) 0 0 n)) v h') : EvR d mi pc lc (.int (nI n) :: .int 0 :: .ref b :: .int 0 :: .ref a :: st) h v h' := by
  refine er_s (pc' := nx) (lc' := lc) (st' := st) (h2 := hFr h b (va_cpy (h.2.1 a) (h.2.1 b) 0 0 n)) ?_ K
  have e : (List.drop 2 (Value.int (nI n) :: .int 0 :: .ref b :: .int 0 :: .ref a :: st)).map (fun v => v.category) = [1, 1] ++ (.ref a :: st).map (fun v => v.category) := rfl
  have e2 : ((List.drop 2 (Value.int (nI n) :: .int 0 :: .ref b :: .int 0 :: .ref a :: st)).map fun v => v.category).sum ≤ 8 := by
    rw [e, List.sum_append]
    have : ([1, 1] : List Nat).sum = 2 := rfl
    omega
  unfold stp
  simp only [hc]
  rw [if_pos e2]
  simp only [stP]
  rw [if_neg (by have : ¬ nI n < 0 := nI_pos hn; simp [this])]
  simp only [ha, hb, nI_clamp hn]
  rw [if_pos (by simp [k0])]
  simp only [k0]
theorem hFr_1 {h : AH} {k : Nat} {f : Nat → UInt32} : (hFr h k f).1 = h.1 := rfl
theorem cpy_at {α : Type} {f g : Nat → α} {n i : Nat} (hi : i < n) : va_cpy f g 0 0 n i = f i := by
  rw [pk_cpy_in (Nat.zero_le i) (by omega), Nat.zero_add, Nat.sub_zero]
theorem minS (n : Nat) (hn : n < 2 ^ 31) : (if Int32.ofNat n < Int32.ofNat n then Int32.ofNat n else Int32.ofNat n) = nI n := by
  split <;> rfl
theorem p_copyRow (d : Nat) {a b n : Nat} {sa sb : List Nat} (ha : layAt a = (1, n, sa)) (hb : layAt b = (1, n, sb)) (hn : n < 2 ^ 31) (h : AH) : EvM d mX8_copyRow [.ref a, .ref b] h none (hIr h b (va_cpy (h.1 a) (h.1 b) 0 0 n)) := by
  show EvR _ _ 0 [(0, _), (1, _)] [] _ _ _
  iterate 5 refine er_s rfl ?_
  refine er_al rfl ha ⟨by decide, by decide⟩ ?_
  refine er_s rfl ?_
  refine er_al rfl hb ⟨by decide, by decide⟩ ?_
  refine er_s rfl ?_
  rw [minS n hn]
  refine er_cpI rfl ha hb hn (Nat.le_of_ble_eq_true rfl) ?_
  refine er_q rfl ?_ ?_
  · rfl
  · rfl
def pLen (o : Nat) : Nat := if o = 1 then 24 else if o = 11 then 96 else if o = 12 then 10 else 40
theorem Pal_copy {h h' : AH} {k k2 : Nat} {r : Nat → Int32} {w : Nat → UInt32} (P : Pal h k2 r w) (hC : CN r ≤ 40) (E0 : ∀ i, i < 5 → h'.1 k i = h.1 k2 i) (E : ∀ o i, 1 ≤ o → o ≤ 12 → o ≠ 4 → i < pLen o → h'.1 (k + o) i = h.1 (k2 + o) i) (EF : ∀ i, i < 40 → h'.2.1 (k + 4) i = h.2.1 (k2 + 4) i) : Pal h' k r w := by
  refine ⟨fun i hi => (E0 i hi).trans (P.1 i hi), fun i hi => (E 1 i (by decide) (by decide) (by decide) hi).trans (P.2.1 i hi), fun b hb => ?_, fun b hb hb2 => ?_, fun i hi => (E 11 i (by decide) (by decide) (by decide) hi).trans (P.2.2.2.2.1 i hi), fun q p hq hp => (E 12 _ (by decide) (by decide) (by decide) (show q * 5 + p < 10 by omega)).trans (P.2.2.2.2.2 q p hq hp)⟩
  · obtain ⟨a1, a2, a3, a4⟩ := P.2.2.1 b hb
    refine ⟨(E 2 b (by decide) (by decide) (by decide) (show b < 40 by omega)).trans a1, (E 3 b (by decide) (by decide) (by decide) (show b < 40 by omega)).trans a2, (EF b (by omega)).trans a3, fun o h1 h2 => ?_⟩
    have := E (3 + o) b (by omega) (by omega) (by omega) (by unfold pLen; rw [if_neg (by omega), if_neg (by omega), if_neg (by omega)]; omega)
    rw [← Nat.add_assoc, ← Nat.add_assoc] at this
    exact this.trans (a4 o h1 h2)
  · obtain ⟨a1, a2, a3, a4, a5, a6⟩ := P.2.2.2.1 b hb hb2
    exact ⟨(E 5 b (by decide) (by decide) (by decide) hb2).trans a1, (E 6 b (by decide) (by decide) (by decide) hb2).trans a2, (E 7 b (by decide) (by decide) (by decide) hb2).trans a3, (E 8 b (by decide) (by decide) (by decide) hb2).trans a4, (E 9 b (by decide) (by decide) (by decide) hb2).trans a5, (E 10 b (by decide) (by decide) (by decide) hb2).trans a6⟩
theorem p_copyFrom (d : Nat) {k k2 : Nat} (hL : PalL k) (hM : PalL k2) (hk : k + 12 < k2 ∨ k2 + 12 < k) {h : AH} {r : Nat → Int32} {w : Nat → UInt32} (hC : CN r ≤ 40) (P : Pal h k2 r w) : WM (d + 1) mX8_copyFrom [.ref k, .ref k2] h (fun v h' => v = none ∧ Pal h' k r w ∧ FrP k h h') := by
  obtain ⟨L0, L1, L2, L3, L4, L5, L6, L7, L8, L9, L10, L11, L12⟩ := hL
  obtain ⟨M0, M1, M2, M3, M4, M5, M6, M7, M8, M9, M10, M11, M12⟩ := hM
  obtain ⟨a1, A1⟩ : ∃ g, g = hI h k 0 (h.1 k2 0) := ⟨_, rfl⟩
  obtain ⟨a2, A2⟩ : ∃ g, g = hI a1 k 1 (a1.1 k2 1) := ⟨_, rfl⟩
  obtain ⟨a3, A3⟩ : ∃ g, g = hI a2 k 2 (a2.1 k2 2) := ⟨_, rfl⟩
  obtain ⟨a4, A4⟩ : ∃ g, g = hI a3 k 3 (a3.1 k2 3) := ⟨_, rfl⟩
  obtain ⟨hA, A5⟩ : ∃ g, g = hI a4 k 4 (a4.1 k2 4) := ⟨_, rfl⟩
  obtain ⟨g1, G1⟩ : ∃ g, g = hIr hA (k + 1) (va_cpy (hA.1 (k2 + 1)) (hA.1 (k + 1)) 0 0 24) := ⟨_, rfl⟩
  obtain ⟨g2, G2⟩ : ∃ g, g = hIr g1 (k + 2) (va_cpy (g1.1 (k2 + 2)) (g1.1 (k + 2)) 0 0 40) := ⟨_, rfl⟩
  obtain ⟨g3, G3⟩ : ∃ g, g = hIr g2 (k + 3) (va_cpy (g2.1 (k2 + 3)) (g2.1 (k + 3)) 0 0 40) := ⟨_, rfl⟩
  obtain ⟨g4, G4⟩ : ∃ g, g = hFr g3 (k + 4) (va_cpy (g3.2.1 (k2 + 4)) (g3.2.1 (k + 4)) 0 0 40) := ⟨_, rfl⟩
  obtain ⟨g5, G5⟩ : ∃ g, g = hIr g4 (k + 5) (va_cpy (g4.1 (k2 + 5)) (g4.1 (k + 5)) 0 0 40) := ⟨_, rfl⟩
  obtain ⟨g6, G6⟩ : ∃ g, g = hIr g5 (k + 6) (va_cpy (g5.1 (k2 + 6)) (g5.1 (k + 6)) 0 0 40) := ⟨_, rfl⟩
  obtain ⟨g7, G7⟩ : ∃ g, g = hIr g6 (k + 7) (va_cpy (g6.1 (k2 + 7)) (g6.1 (k + 7)) 0 0 40) := ⟨_, rfl⟩
  obtain ⟨g8, G8⟩ : ∃ g, g = hIr g7 (k + 8) (va_cpy (g7.1 (k2 + 8)) (g7.1 (k + 8)) 0 0 40) := ⟨_, rfl⟩
  obtain ⟨g9, G9⟩ : ∃ g, g = hIr g8 (k + 9) (va_cpy (g8.1 (k2 + 9)) (g8.1 (k + 9)) 0 0 40) := ⟨_, rfl⟩
  obtain ⟨g10, G10⟩ : ∃ g, g = hIr g9 (k + 10) (va_cpy (g9.1 (k2 + 10)) (g9.1 (k + 10)) 0 0 40) := ⟨_, rfl⟩
  obtain ⟨g11, G11⟩ : ∃ g, g = hIr g10 (k + 11) (va_cpy (g10.1 (k2 + 11)) (g10.1 (k + 11)) 0 0 96) := ⟨_, rfl⟩
  obtain ⟨g12, G12⟩ : ∃ g, g = hIr g11 (k + 12) (va_cpy (g11.1 (k2 + 12)) (g11.1 (k + 12)) 0 0 10) := ⟨_, rfl⟩
  have C1 := p_copyRow d M1 L1 (by decide) hA
  have C2 := p_copyRow d M2 L2 (by decide) g1
  have C3 := p_copyRow d M3 L3 (by decide) g2
  have C5 := p_copyRow d M5 L5 (by decide) g4
  have C6 := p_copyRow d M6 L6 (by decide) g5
  have C7 := p_copyRow d M7 L7 (by decide) g6
  have C8 := p_copyRow d M8 L8 (by decide) g7
  have C9 := p_copyRow d M9 L9 (by decide) g8
  have C10 := p_copyRow d M10 L10 (by decide) g9
  have C11 := p_copyRow d M11 L11 (by decide) g10
  have C12 := p_copyRow d M12 L12 (by decide) g11
  rw [← G1] at C1
  rw [← G2] at C2
  rw [← G3] at C3
  rw [← G5] at C5
  rw [← G6] at C6
  rw [← G7] at C7
  rw [← G8] at C8
  rw [← G9] at C9
  rw [← G10] at C10
  rw [← G11] at C11
  rw [← G12] at C12
  have n1 : ∀ a, a ≠ k → a1.1 a = h.1 a := fun a ha => by rw [A1, hI_ne ha]
  have n2 : ∀ a, a ≠ k → a2.1 a = h.1 a := fun a ha => by rw [A2, hI_ne ha, n1 a ha]
  have n3 : ∀ a, a ≠ k → a3.1 a = h.1 a := fun a ha => by rw [A3, hI_ne ha, n2 a ha]
  have n4 : ∀ a, a ≠ k → a4.1 a = h.1 a := fun a ha => by rw [A4, hI_ne ha, n3 a ha]
  have N0 : ∀ a, a ≠ k → hA.1 a = h.1 a := fun a ha => by rw [A5, hI_ne ha, n4 a ha]
  have ne2 : k2 ≠ k := by omega
  have N1 : ∀ a, (a < k ∨ k + 12 < a) → g1.1 a = h.1 a := fun a ha => by rw [G1, hIr_ne (by omega), N0 a (by omega)]
  have N2 : ∀ a, (a < k ∨ k + 12 < a) → g2.1 a = h.1 a := fun a ha => by rw [G2, hIr_ne (by omega), N1 a ha]
  have N3 : ∀ a, (a < k ∨ k + 12 < a) → g3.1 a = h.1 a := fun a ha => by rw [G3, hIr_ne (by omega), N2 a ha]
  have N4 : ∀ a, (a < k ∨ k + 12 < a) → g4.1 a = h.1 a := fun a ha => by rw [G4]; exact N3 a ha
  have N5 : ∀ a, (a < k ∨ k + 12 < a) → g5.1 a = h.1 a := fun a ha => by rw [G5, hIr_ne (by omega), N4 a ha]
  have N6 : ∀ a, (a < k ∨ k + 12 < a) → g6.1 a = h.1 a := fun a ha => by rw [G6, hIr_ne (by omega), N5 a ha]
  have N7 : ∀ a, (a < k ∨ k + 12 < a) → g7.1 a = h.1 a := fun a ha => by rw [G7, hIr_ne (by omega), N6 a ha]
  have N8 : ∀ a, (a < k ∨ k + 12 < a) → g8.1 a = h.1 a := fun a ha => by rw [G8, hIr_ne (by omega), N7 a ha]
  have N9 : ∀ a, (a < k ∨ k + 12 < a) → g9.1 a = h.1 a := fun a ha => by rw [G9, hIr_ne (by omega), N8 a ha]
  have N10 : ∀ a, (a < k ∨ k + 12 < a) → g10.1 a = h.1 a := fun a ha => by rw [G10, hIr_ne (by omega), N9 a ha]
  have N11 : ∀ a, (a < k ∨ k + 12 < a) → g11.1 a = h.1 a := fun a ha => by rw [G11, hIr_ne (by omega), N10 a ha]
  have N12 : ∀ a, (a < k ∨ k + 12 < a) → g12.1 a = h.1 a := fun a ha => by rw [G12, hIr_ne (by omega), N11 a ha]
  have V1 : ∀ i, i < 24 → g12.1 (k + 1) i = h.1 (k2 + 1) i := fun i hi => by
    rw [G12, hIr_ne (by omega), G11, hIr_ne (by omega), G10, hIr_ne (by omega), G9, hIr_ne (by omega), G8, hIr_ne (by omega), G7, hIr_ne (by omega), G6, hIr_ne (by omega), G5, hIr_ne (by omega), G4, hFr_1, G3, hIr_ne (by omega), G2, hIr_ne (by omega), G1, hIr_at, cpy_at hi, N0 (k2 + 1) (by omega)]
  have V2 : ∀ i, i < 40 → g12.1 (k + 2) i = h.1 (k2 + 2) i := fun i hi => by
    rw [G12, hIr_ne (by omega), G11, hIr_ne (by omega), G10, hIr_ne (by omega), G9, hIr_ne (by omega), G8, hIr_ne (by omega), G7, hIr_ne (by omega), G6, hIr_ne (by omega), G5, hIr_ne (by omega), G4, hFr_1, G3, hIr_ne (by omega), G2, hIr_at, cpy_at hi, N1 (k2 + 2) (by omega)]
  have V3 : ∀ i, i < 40 → g12.1 (k + 3) i = h.1 (k2 + 3) i := fun i hi => by
    rw [G12, hIr_ne (by omega), G11, hIr_ne (by omega), G10, hIr_ne (by omega), G9, hIr_ne (by omega), G8, hIr_ne (by omega), G7, hIr_ne (by omega), G6, hIr_ne (by omega), G5, hIr_ne (by omega), G4, hFr_1, G3, hIr_at, cpy_at hi, N2 (k2 + 3) (by omega)]
  have V5 : ∀ i, i < 40 → g12.1 (k + 5) i = h.1 (k2 + 5) i := fun i hi => by
    rw [G12, hIr_ne (by omega), G11, hIr_ne (by omega), G10, hIr_ne (by omega), G9, hIr_ne (by omega), G8, hIr_ne (by omega), G7, hIr_ne (by omega), G6, hIr_ne (by omega), G5, hIr_at, cpy_at hi, N4 (k2 + 5) (by omega)]
  have V6 : ∀ i, i < 40 → g12.1 (k + 6) i = h.1 (k2 + 6) i := fun i hi => by
    rw [G12, hIr_ne (by omega), G11, hIr_ne (by omega), G10, hIr_ne (by omega), G9, hIr_ne (by omega), G8, hIr_ne (by omega), G7, hIr_ne (by omega), G6, hIr_at, cpy_at hi, N5 (k2 + 6) (by omega)]
  have V7 : ∀ i, i < 40 → g12.1 (k + 7) i = h.1 (k2 + 7) i := fun i hi => by
    rw [G12, hIr_ne (by omega), G11, hIr_ne (by omega), G10, hIr_ne (by omega), G9, hIr_ne (by omega), G8, hIr_ne (by omega), G7, hIr_at, cpy_at hi, N6 (k2 + 7) (by omega)]
  have V8 : ∀ i, i < 40 → g12.1 (k + 8) i = h.1 (k2 + 8) i := fun i hi => by
    rw [G12, hIr_ne (by omega), G11, hIr_ne (by omega), G10, hIr_ne (by omega), G9, hIr_ne (by omega), G8, hIr_at, cpy_at hi, N7 (k2 + 8) (by omega)]
  have V9 : ∀ i, i < 40 → g12.1 (k + 9) i = h.1 (k2 + 9) i := fun i hi => by
    rw [G12, hIr_ne (by omega), G11, hIr_ne (by omega), G10, hIr_ne (by omega), G9, hIr_at, cpy_at hi, N8 (k2 + 9) (by omega)]
  have V10 : ∀ i, i < 40 → g12.1 (k + 10) i = h.1 (k2 + 10) i := fun i hi => by
    rw [G12, hIr_ne (by omega), G11, hIr_ne (by omega), G10, hIr_at, cpy_at hi, N9 (k2 + 10) (by omega)]
  have V11 : ∀ i, i < 96 → g12.1 (k + 11) i = h.1 (k2 + 11) i := fun i hi => by
    rw [G12, hIr_ne (by omega), G11, hIr_at, cpy_at hi, N10 (k2 + 11) (by omega)]
  have V12 : ∀ i, i < 10 → g12.1 (k + 12) i = h.1 (k2 + 12) i := fun i hi => by
    rw [G12, hIr_at, cpy_at hi, N11 (k2 + 12) (by omega)]
  have H0 : g12.1 k = hA.1 k := by rw [G12, hIr_ne (by omega), G11, hIr_ne (by omega), G10, hIr_ne (by omega), G9, hIr_ne (by omega), G8, hIr_ne (by omega), G7, hIr_ne (by omega), G6, hIr_ne (by omega), G5, hIr_ne (by omega), G4, hFr_1, G3, hIr_ne (by omega), G2, hIr_ne (by omega), G1, hIr_ne (by omega)]
  have H1 : ∀ i, i < 5 → hA.1 k i = h.1 k2 i := fun i hi => by
    rw [A5, hI_at, n4 k2 ne2, A4, hI_at, n3 k2 ne2, A3, hI_at, n2 k2 ne2, A2, hI_at, n1 k2 ne2, A1, hI_at]
    rcases (by omega : i = 0 ∨ i = 1 ∨ i = 2 ∨ i = 3 ∨ i = 4) with rfl | rfl | rfl | rfl | rfl <;> simp [upd]
  have M3F : g3.2.1 = h.2.1 := by rw [G3, hIr_f, G2, hIr_f, G1, hIr_f, A5, hI_f, A4, hI_f, A3, hI_f, A2, hI_f, A1, hI_f]
  have M12 : g12.2 = g4.2 := by rw [G12, hIr_f, G11, hIr_f, G10, hIr_f, G9, hIr_f, G8, hIr_f, G7, hIr_f, G6, hIr_f, G5, hIr_f]
  refine ex_of (v := none) (h' := g12) ?_ ⟨rfl, ?_, ?_⟩
  · show EvR _ _ 0 [(0, _), (1, _)] [] _ _ _
    refine er_s rfl ?_
    refine er_g rfl rfl ?_
    iterate 2 refine er_s rfl ?_
    refine er_f rfl M0 rfl ?_
    refine er_p rfl L0 rfl rfl ?_
    rw [show hI h k 0 _ = a1 from A1.symm]
    iterate 2 refine er_s rfl ?_
    refine er_f rfl M0 rfl ?_
    refine er_p rfl L0 rfl rfl ?_
    rw [show hI a1 k 1 _ = a2 from A2.symm]
    iterate 2 refine er_s rfl ?_
    refine er_f rfl M0 rfl ?_
    refine er_p rfl L0 rfl rfl ?_
    rw [show hI a2 k 2 _ = a3 from A3.symm]
    iterate 2 refine er_s rfl ?_
    refine er_f rfl M0 rfl ?_
    refine er_p rfl L0 rfl rfl ?_
    rw [show hI a3 k 3 _ = a4 from A4.symm]
    iterate 2 refine er_s rfl ?_
    refine er_f rfl M0 rfl ?_
    refine er_p rfl L0 rfl rfl ?_
    rw [show hI a4 k 4 _ = hA from A5.symm]
    refine er_s rfl ?_
    refine er_f rfl M0 rfl ?_
    refine er_s rfl ?_
    refine er_f rfl L0 rfl ?_
    refine er_c rfl rfl ⟨Nat.le_of_ble_eq_true rfl, Nat.le_of_ble_eq_true rfl⟩ (C1) ?_
    refine er_s rfl ?_
    refine er_f rfl M0 rfl ?_
    refine er_s rfl ?_
    refine er_f rfl L0 rfl ?_
    refine er_c rfl rfl ⟨Nat.le_of_ble_eq_true rfl, Nat.le_of_ble_eq_true rfl⟩ (C2) ?_
    refine er_s rfl ?_
    refine er_f rfl M0 rfl ?_
    refine er_s rfl ?_
    refine er_f rfl L0 rfl ?_
    refine er_c rfl rfl ⟨Nat.le_of_ble_eq_true rfl, Nat.le_of_ble_eq_true rfl⟩ (C3) ?_
    refine er_s rfl ?_
    refine er_f rfl M0 rfl ?_
    iterate 2 refine er_s rfl ?_
    refine er_f rfl L0 rfl ?_
    iterate 2 refine er_s rfl ?_
    refine er_f rfl M0 rfl ?_
    refine er_al rfl M4 ⟨by decide, by decide⟩ ?_
    refine er_s rfl ?_
    refine er_f rfl L0 rfl ?_
    refine er_al rfl L4 ⟨by decide, by decide⟩ ?_
    refine er_s rfl ?_
    rw [minS 40 (by decide)]
    refine er_cpF rfl M4 L4 (by decide) (Nat.le_of_ble_eq_true rfl) ?_
    rw [← G4]
    refine er_s rfl ?_
    refine er_f rfl M0 rfl ?_
    refine er_s rfl ?_
    refine er_f rfl L0 rfl ?_
    refine er_c rfl rfl ⟨Nat.le_of_ble_eq_true rfl, Nat.le_of_ble_eq_true rfl⟩ (C5) ?_
    refine er_s rfl ?_
    refine er_f rfl M0 rfl ?_
    refine er_s rfl ?_
    refine er_f rfl L0 rfl ?_
    refine er_c rfl rfl ⟨Nat.le_of_ble_eq_true rfl, Nat.le_of_ble_eq_true rfl⟩ (C6) ?_
    refine er_s rfl ?_
    refine er_f rfl M0 rfl ?_
    refine er_s rfl ?_
    refine er_f rfl L0 rfl ?_
    refine er_c rfl rfl ⟨Nat.le_of_ble_eq_true rfl, Nat.le_of_ble_eq_true rfl⟩ (C7) ?_
    refine er_s rfl ?_
    refine er_f rfl M0 rfl ?_
    refine er_s rfl ?_
    refine er_f rfl L0 rfl ?_
    refine er_c rfl rfl ⟨Nat.le_of_ble_eq_true rfl, Nat.le_of_ble_eq_true rfl⟩ (C8) ?_
    refine er_s rfl ?_
    refine er_f rfl M0 rfl ?_
    refine er_s rfl ?_
    refine er_f rfl L0 rfl ?_
    refine er_c rfl rfl ⟨Nat.le_of_ble_eq_true rfl, Nat.le_of_ble_eq_true rfl⟩ (C9) ?_
    refine er_s rfl ?_
    refine er_f rfl M0 rfl ?_
    refine er_s rfl ?_
    refine er_f rfl L0 rfl ?_
    refine er_c rfl rfl ⟨Nat.le_of_ble_eq_true rfl, Nat.le_of_ble_eq_true rfl⟩ (C10) ?_
    refine er_s rfl ?_
    refine er_f rfl M0 rfl ?_
    refine er_s rfl ?_
    refine er_f rfl L0 rfl ?_
    refine er_c rfl rfl ⟨Nat.le_of_ble_eq_true rfl, Nat.le_of_ble_eq_true rfl⟩ (C11) ?_
    refine er_s rfl ?_
    refine er_f rfl M0 rfl ?_
    refine er_s rfl ?_
    refine er_f rfl L0 rfl ?_
    refine er_c rfl rfl ⟨Nat.le_of_ble_eq_true rfl, Nat.le_of_ble_eq_true rfl⟩ (C12) ?_
    refine er_q rfl ?_ ?_
    · rfl
    · rfl
  · refine Pal_copy P hC (fun i hi => by rw [H0]; exact H1 i hi) (fun o i h1 h2 h3 hi => ?_) (fun i hi => ?_)
    · rcases (by omega : o = 1 ∨ o = 2 ∨ o = 3 ∨ o = 5 ∨ o = 6 ∨ o = 7 ∨ o = 8 ∨ o = 9 ∨ o = 10 ∨ o = 11 ∨ o = 12) with rfl | rfl | rfl | rfl | rfl | rfl | rfl | rfl | rfl | rfl | rfl
      · exact V1 i hi
      · exact V2 i hi
      · exact V3 i hi
      · exact V5 i hi
      · exact V6 i hi
      · exact V7 i hi
      · exact V8 i hi
      · exact V9 i hi
      · exact V10 i hi
      · exact V11 i hi
      · exact V12 i hi
    · rw [M12, G4, hFr_at, cpy_at hi, M3F]
  · refine ⟨fun a ha => ⟨N12 a ha, ?_⟩, ?_⟩
    · rw [M12, G4, hFr_ne _ _ (by omega), M3F]
    · rw [M12, G4]
      show g3.2.2 = _
      rw [G3, hIr_f, G2, hIr_f, G1, hIr_f, A5, hI_f, A4, hI_f, A3, hI_f, A2, hI_f, A1, hI_f]
end
