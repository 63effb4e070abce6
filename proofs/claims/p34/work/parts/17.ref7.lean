-- needs: 16
noncomputable section
theorem k0 : Int32.toNatClampNeg 0 = 0 := rfl
theorem k1 : Int32.toNatClampNeg 1 = 1 := rfl
theorem k2 : Int32.toNatClampNeg 2 = 2 := rfl
theorem k3 : Int32.toNatClampNeg 3 = 3 := rfl
theorem k4 : Int32.toNatClampNeg 4 = 4 := rfl
theorem upd_ne {r : Nat → Int32} {i j : Nat} {x : Int32} (h : j ≠ i) : upd r i x j = r j := if_neg h
theorem upd_eq {r : Nat → Int32} {i : Nat} {x : Int32} : upd r i x i = x := if_pos rfl
/-- only joints of blocks and the head's other numbers are another: still walkable -/
theorem Wel_of {r r' : Nat → Int32} (hw : Wel r) (h4 : r' 4 = r 4) (hb : ∀ b x, b < CN r → x < 5 → ofB r' b x = ofB r b x) (hj : ∀ b, b < CN r → ofB r b 2 = 1 → ofB r' b 5 = nI (JT r' b) ∧ JT r' b ≤ 9) : Wel r' := by
  obtain ⟨h1, h2, h3⟩ := hw
  have ec : CN r' = CN r := by show (r' 4).toNatClampNeg = _; rw [h4]
  refine ⟨by rw [h4, ec]; exact h1, by rw [ec]; exact h2, fun b hb2 => ?_⟩
  rw [ec] at hb2
  obtain ⟨q1, q2⟩ := h3 b hb2
  constructor
  · show ofB r' b 1 = nI (ofB r' b 1).toNatClampNeg ∧ 1 ≤ (ofB r' b 1).toNatClampNeg ∧ (ofB r' b 1).toNatClampNeg ≤ 6
    rw [hb b 1 hb2 (by decide)]
    exact q1
  · intro hs
    rw [hb b 2 hb2 (by decide)] at hs
    obtain ⟨p1, p2, p3, p4, p5, p6⟩ := q2 hs
    obtain ⟨j1, j2⟩ := hj b hb2 hs
    refine ⟨?_, ?_, ?_, ?_, j1, j2⟩
    · show ofB r' b 3 = nI (ofB r' b 3).toNatClampNeg
      rw [hb b 3 hb2 (by decide)]; exact p1
    · show (ofB r' b 3).toNatClampNeg + (ofB r' b 1).toNatClampNeg ≤ 12
      rw [hb b 3 hb2 (by decide), hb b 1 hb2 (by decide)]; exact p2
    · show ofB r' b 4 = nI (ofB r' b 4).toNatClampNeg
      rw [hb b 4 hb2 (by decide)]; exact p3
    · show (ofB r' b 4).toNatClampNeg ≤ 7
      rw [hb b 4 hb2 (by decide)]; exact p4
/-- frost and thaw -/
def moreI (t : Int32) : Int32 := if t < 0 then (-t) / 5 else -(t / 5)
def clampI (x : Int32) : Int32 := if x < 0 then 0 else if 60 < x then 60 else x
def jointN (t : Int32) : Int32 := if t < 0 then 1 else if 5 < t then -1 else 0
def jointC (r : Nat → Int32) (j : Int32) (k : Nat) : Prop := ofB r k 2 = 1 ∧ (0 ≤ ofB r k 5 + j ∧ ofB r k 5 + j ≤ 9)
def jointSb (r : Nat → Int32) (j : Int32) (k : Nat) : Bool := decide (ofB r k 2 = 1) && decide (0 ≤ ofB r k 5 + j ∧ ofB r k 5 + j ≤ 9)
theorem jointSb_t {r : Nat → Int32} {j : Int32} {k : Nat} : jointSb r j k = true ↔ jointC r j k := by
  unfold jointSb jointC
  simp
def jointS (j : Int32) (k : Nat) (r : Nat → Int32) : Nat → Int32 := if jointSb r j k = true then upd r (125 + 8 * k + 5) (ofB r k 5 + j) else r
def jointsR (j : Int32) (n : Nat) (r : Nat → Int32) : Nat → Int32 := iterN (jointS j) n r
def freezeR (t : Int32) (r : Nat → Int32) : Nat → Int32 := jointsR (jointN t) (CN r) (upd r 1 (clampI (r 1 + moreI t)))
/-- what the joints' loop leaves alone -/
theorem jointsR_i {j : Int32} {r : Nat → Int32} : ∀ n i, (∀ k, k < n → i ≠ 125 + 8 * k + 5) → jointsR j n r i = r i
  | 0, i, _ => rfl
  | n + 1, i, h => by
    show jointS j n (jointsR j n r) i = r i
    unfold jointS
    split
    · rw [upd_ne (h n (by omega))]
      exact jointsR_i n i (fun k hk => h k (by omega))
    · exact jointsR_i n i (fun k hk => h k (by omega))
theorem jointsR_hd {j : Int32} {r : Nat → Int32} {n i : Nat} (hi : i < 125) : jointsR j n r i = r i := jointsR_i n i (fun k _ => by omega)
theorem jointsR_b {j : Int32} {r : Nat → Int32} {n b x : Nat} (hx : x < 8) (h5 : x ≠ 5) : ofB (jointsR j n r) b x = ofB r b x := jointsR_i n (125 + 8 * b + x) (fun k _ => by omega)
theorem jointsR_ge {j : Int32} {r : Nat → Int32} {n b : Nat} (hb : n ≤ b) : ofB (jointsR j n r) b 5 = ofB r b 5 := jointsR_i n (125 + 8 * b + 5) (fun k hk => by omega)
theorem jointsR_5 {j : Int32} {r : Nat → Int32} {n b : Nat} (hb : b < n) : ofB (jointsR j n r) b 5 = if jointSb r j b = true then ofB r b 5 + j else ofB r b 5 := by
  induction n with
  | zero => exact absurd hb (Nat.not_lt_zero b)
  | succ n ih =>
    show jointS j n (jointsR j n r) (125 + 8 * b + 5) = _
    by_cases h : b = n
    · subst h
      have e1 : jointSb (jointsR j b r) j b = jointSb r j b := by
        unfold jointSb
        rw [jointsR_b (by decide) (by decide), jointsR_ge (Nat.le_refl b)]
      unfold jointS
      rw [e1]
      split
      · rw [upd_eq, jointsR_ge (Nat.le_refl b)]
      · exact jointsR_ge (Nat.le_refl b)
    · have e2 : jointS j n (jointsR j n r) (125 + 8 * b + 5) = jointsR j n r (125 + 8 * b + 5) := by
        unfold jointS
        split
        · rw [upd_ne (by omega)]
        · rfl
      rw [e2]
      exact ih (by omega)
theorem j9_ok {x : Int32} (h1 : 0 ≤ x) (h2 : x ≤ 9) : x = nI x.toNatClampNeg ∧ x.toNatClampNeg ≤ 9 := by
  obtain ⟨j, j1, rfl⟩ := nI_of2 (M := 9) (n := 9) rfl (Int32.not_lt.mpr h1) h2
  rw [nI_clamp (by omega)]
  exact ⟨rfl, j1⟩
theorem jointsR_Wel {j : Int32} {r : Nat → Int32} (n : Nat) (hw : Wel r) : Wel (jointsR j n r) := by
  refine Wel_of hw (jointsR_hd (by decide)) (fun b x hb hx => jointsR_b (by omega) (by omega)) (fun b hb hs => ?_)
  obtain ⟨p1, p2, p3, p4, p5, p6⟩ := (hw.2.2 b hb).2 hs
  show ofB (jointsR j n r) b 5 = nI (ofB (jointsR j n r) b 5).toNatClampNeg ∧ (ofB (jointsR j n r) b 5).toNatClampNeg ≤ 9
  by_cases h : b < n
  · rw [jointsR_5 h]
    split
    · next hq =>
      obtain ⟨q1, q2, q3⟩ := jointSb_t.mp hq
      exact j9_ok q2 q3
    · exact ⟨p5, p6⟩
  · rw [jointsR_ge (by omega)]
    exact ⟨p5, p6⟩
theorem upd_Wel {r : Nat → Int32} {i : Nat} {x : Int32} (hw : Wel r) (hi : i < 125) (h4 : i ≠ 4) : Wel (upd r i x) := by
  refine Wel_of hw (upd_ne (Ne.symm h4)) (fun b x hb hx => upd_ne (by omega)) (fun b hb hs => ?_)
  obtain ⟨p1, p2, p3, p4, p5, p6⟩ := (hw.2.2 b hb).2 hs
  have e : ofB (upd r i x) b 5 = ofB r b 5 := upd_ne (by omega)
  show ofB (upd r i x) b 5 = nI (ofB (upd r i x) b 5).toNatClampNeg ∧ (ofB (upd r i x) b 5).toNatClampNeg ≤ 9
  rw [e]
  exact ⟨p5, p6⟩
theorem upd_CN {r : Nat → Int32} {i : Nat} {x : Int32} (h4 : i ≠ 4) : CN (upd r i x) = CN r := by
  show (upd r i x 4).toNatClampNeg = _
  rw [upd_ne (Ne.symm h4)]
theorem freezeR_Wel {t : Int32} {r : Nat → Int32} (hw : Wel r) : Wel (freezeR t r) := jointsR_Wel _ (upd_Wel hw (by decide) (by decide))
theorem freezeR_CN {t : Int32} {r : Nat → Int32} : CN (freezeR t r) = CN r := by
  show (freezeR t r 4).toNatClampNeg = _
  unfold freezeR
  rw [jointsR_hd (by decide), upd_ne (by decide)]
end
