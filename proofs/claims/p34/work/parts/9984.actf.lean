noncomputable section
section
variable {h : AH} {r : Nat → Int32} {w : Nat → UInt32} {S : Sv} {K : Hs} {q : Int32 × Int32} {T : Tx} {B : Nat}
/-- what an act leaves: all holds on, and what is refused has changed nothing -/
def AcQ (B : Nat) (r : Nat → Int32) (w : Nat → UInt32) : Option Value → AH → Prop := fun v h' => ∃ y, v = some (.int y) ∧ ∃ r' w' S' K' q' T', CS h' r' w' S' K' q' T' ∧ IS B r' w' S' K' ∧ (y = rfS → r' = r ∧ w' = w)
theorem op_inv (I : Inv B r w) (hB : B + 48 < 2 ^ 30) (o : Int32) (t : Int32 × Int32 × Int32) : ∃ B', B' ≤ B + 48 ∧ Inv B' (pfR o r w t) (pfW o r w t) := by
  by_cases e : o = 120
  · subst e
    rw [(pf_t (o := 120)).1, (pf_t (o := 120)).2]
    exact ⟨B, by omega, I.take9 _⟩
  · rw [(pf_o e).1, (pf_o e).2]
    exact I.st o t hB
theorem opq_ac (hK : K.1 ≤ 8) (J : IS B r w S K) (hB : B + 3000 < 2 ^ 30) {o : Int32} {t : Int32 × Int32 × Int32} (ha : clF o r t = 0 → pfA o r w t ≠ rfS) {v : Option Value} {h' : AH} (p : OpQ o t r w S K q T v h') : AcQ (B + 3000) r w v h' := by
  rcases p with ⟨g, rfl, C⟩ | ⟨g, rfl, q', C⟩
  · obtain ⟨B', b1, b2⟩ := op_inv J.1 (by omega) o t
    exact ⟨_, rfl, _, _, _, _, _, _, C, (J.le (by omega) hB).push hK (b2.le (by omega) hB), fun z => absurd z (ha g)⟩
  · exact ⟨_, rfl, _, _, _, _, _, _, C, J.le (by omega) hB, fun _ => ⟨rfl, rfl⟩⟩
theorem clampN_lt (x : Int32) : x.toNatClampNeg < 2 ^ 31 := by
  have := Int32.toInt_lt x
  show x.toInt.toNat < 2 ^ 31
  omega
theorem pa_115 (I : Inv B r w) {t : Int32 × Int32 × Int32} : pfA 115 r w t ≠ rfS := by
  have h40 := I.1.1.2.1
  rw [show pfA 115 r w t = nI (CN r) from if_pos rfl]
  exact nI_rf (by omega)
theorem pa_108 {t : Int32 × Int32 × Int32} : pfA 108 r w t ≠ rfS := by
  unfold pfA
  rw [if_neg (by decide), if_pos rfl]
  exact nI_rf (Nat.lt_of_le_of_lt (cntP_le _ _) (clampN_lt _))
theorem pa_116 (I : Inv B r w) {a b : Int32} (hc : clF 116 r (a, b, 0) = 0) : pfA 116 r w (a, b, 0) ≠ rfS := by
  unfold pfA
  rw [if_neg (by decide), if_neg (by decide), if_pos rfl]
  have hc : heatC a b = 0 := cl_116.symm.trans hc
  have ha : 0 ≤ a ∧ a ≤ 23 := by
    unfold heatC at hc
    by_cases z : 0 ≤ a ∧ a ≤ 23
    · exact z
    · rw [if_pos z] at hc
      exact absurd hc (by decide)
  obtain ⟨c, hc9, rfl⟩ := nI_of2 (M := 23) (n := 23) rfl (Int32.not_lt.mpr ha.1) ha.2
  show r (5 + (nI c).toNatClampNeg) ≠ rfS
  rw [cl c]
  have g := (I.2.1.2.2.2.2 c (by omega)).1
  intro z
  rw [z] at g
  exact absurd g (by decide)
theorem pa_118 (I : Inv B r w) {t : Int32 × Int32 × Int32} : pfA 118 r w t ≠ rfS := by
  unfold pfA
  rw [if_neg (by decide), if_neg (by decide), if_neg (by decide), if_pos rfl]
  obtain ⟨n, hn, e⟩ := I.2.1.2.2.2.1
  rw [e]
  exact nI_rf (by omega)
theorem pa_120 (I : Inv B r w) {a : Int32} (hc : clF 120 r (a, 0, 0) = 0) : pfA 120 r w (a, 0, 0) ≠ rfS := by
  have h40 := I.1.1.2.1
  unfold pfA
  rw [if_neg (by decide), if_neg (by decide), if_neg (by decide), if_neg (by decide), if_pos rfl]
  have hc : layK (takeC r a) = 0 := cl_120.1.symm.trans hc
  have ha : 0 ≤ a ∧ a ≤ r 4 - 1 := by
    by_cases z : 0 ≤ a ∧ a ≤ r 4 - 1
    · exact z
    · unfold takeC at hc
      rw [if_pos z] at hc
      exact absurd hc (by decide)
  by_cases c0 : CN r = 0
  · have e := I.1.1.1
    rw [c0] at e
    rw [e] at ha
    exact absurd (Int32.le_trans ha.1 ha.2) (by decide)
  · have e : r 4 - 1 = nI (CN r - 1) := by
      rw [I.1.1.1]
      exact nI_mod (by omega)
    rw [e] at ha
    obtain ⟨c, hc9, rfl⟩ := nI_of2 (x := a) (M := nI (CN r - 1)) (n := CN r - 1) (nI_toInt (by omega)) (Int32.not_lt.mpr ha.1) ha.2
    show ofB r (nI c).toNatClampNeg 1 ≠ rfS
    rw [cl c, ((I.1.1.2.2 c (by omega)).1).1]
    have := (I.1.1.2.2 c (by omega)).1.2.2
    exact nI_rf (by omega)
theorem pa_104 (I : Inv B r w) (hB : B + 48 < 2 ^ 30) {a : Int32} (hc : clF 104 r (a, 0, 0) = 0) : pfA 104 r w (a, 0, 0) ≠ rfS := by
  have hon := onN_le I.1.1
  unfold pfA
  rw [if_neg (by decide), if_neg (by decide), if_neg (by decide), if_neg (by decide), if_neg (by decide)]
  show nI (onN r) - nI (onN (passR r w a)) ≠ rfS
  have g : onN (passR r w a) ≤ onN r := by
    unfold passR
    split
    · next z =>
      unfold passC at z
      have ha : 1 ≤ a ∧ a ≤ 48 := by
        by_cases y : 1 ≤ a ∧ a ≤ 48
        · exact y
        · rw [if_pos y] at z
          exact absurd z (by decide)
      obtain ⟨c, hc9, rfl⟩ := nI_of2 (M := 48) (n := 48) rfl (Int32.not_lt.mpr (Int32.le_trans (by decide) ha.1)) ha.2
      rw [cl c]
      exact hours_on c B I.2.1 (by omega)
    · exact Nat.le_refl _
  rw [nI_sub g]
  exact nI_rf (by omega)
theorem cy_Inv2 {I : Nat → Int32} {L : Nat} {c : CyS} (h : Inv B c.2.1 c.2.2.1) (hB : B + 3000 < 2 ^ 30) (n : Nat) (hn : n ≤ 61) : Inv (B + 3000) (cyN I L c (n + 1)).2.1 (cyN I L c (n + 1)).2.2.1 := by
  obtain ⟨B', b1, b2⟩ := cy_Inv (I := I) (L := L) h hB n hn
  show Inv _ (cyS I L n (cyN I L c n)).2.1 (cyS I L n (cyN I L c n)).2.2.1
  unfold cyS
  split
  · obtain ⟨B2, c1, c2⟩ := b2.st (rdI I L n).2.1 (rdI I L n).2.2 (by omega)
    exact c2.le (by omega) hB
  · exact b2.le (by omega) hB
theorem rd_inv (I : Inv B r w) (hB : B + 3000 < 2 ^ 30) : Inv (B + 3000) (rdC T.2.2 T.1 r w q).2.1 (rdC T.2.2 T.1 r w q).2.2.1 := cy_Inv2 (c := (0, r, w, q)) I hB _ (fstP_le 61 0 rfl).1
theorem rdq_ac (hK : K.1 ≤ 8) (J : IS B r w S K) (hB : B + 3000 < 2 ^ 30) {v : Option Value} {h' : AH} (p : RdQ r w S K q T v h') : AcQ (B + 3000) r w v h' := by
  have g : oN0 T.2.2 T.1 ≤ 61 := (fstP_le 61 0 rfl).1
  rcases p with ⟨g1, rfl, q', C⟩ | ⟨g1, rfl, q', C⟩
  · exact ⟨_, rfl, _, _, _, _, _, _, C, (J.le (by omega) hB).push hK (rd_inv J.1 hB), fun z => absurd z (nI_rf (by omega))⟩
  · exact ⟨_, rfl, _, _, _, _, _, _, C, J.le (by omega) hB, fun _ => ⟨rfl, rfl⟩⟩
end
end
