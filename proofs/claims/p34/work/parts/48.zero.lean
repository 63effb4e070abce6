-- needs: 47
noncomputable section
/-- nothing stands behind a row's 445 numbers and behind 40 masses -/
def Z9 (r : Nat → Int32) : Prop := ∀ j, 445 ≤ j → r j = 0
def ZW (w : Nat → UInt32) : Prop := ∀ j, 40 ≤ j → w j = 0
theorem Z9.upd {r : Nat → Int32} (h : Z9 r) {i : Nat} {x : Int32} (hi : i < 445) : Z9 (upd r i x) := fun j hj => by rw [upd_ne (by omega)]; exact h j hj
theorem Z9.setB {r : Nat → Int32} (h : Z9 r) {b : Nat} (hb : b < 40) {s co cu jt pl wy : Int32} : Z9 (setB r b s co cu jt pl wy) := by
  unfold Jvm.Pilot.CSawnIceLaw_law_r1551_240e4f.setB
  exact (((((h.upd (by omega)).upd (by omega)).upd (by omega)).upd (by omega)).upd (by omega)).upd (by omega)
theorem Z9.fill {r : Nat → Int32} (h : Z9 r) {c j L : Nat} (hc : c < 8) (hj : j + L ≤ 12) {v : Int32} : Z9 (fillR r c j L v) := fun i hi => by
  unfold fillR
  rw [if_neg (by omega)]
  exact h i hi
theorem Z9.goes {r : Nat → Int32} (h : Z9 r) (hw : Wel r) {b : Nat} (hb : b < CN r) {y : Int32} : Z9 (goesR r b y) := by
  have h40 := hw.2.1
  unfold goesR
  split
  · next hs =>
    have ho := (hw.2.2 b hb).2 hs
    exact Z9.setB (h.fill (by have := ho.2.2.2.1; omega) ho.2.1) (by omega)
  · exact Z9.setB h (by omega)
theorem Z9.freeze {r : Nat → Int32} (h : Z9 r) (hw : Wel r) {t : Int32} : Z9 (freezeR t r) := fun i hi => by
  have h40 := hw.2.1
  unfold freezeR
  rw [jointsR_i _ _ (fun k hk => by omega), upd_ne (by omega)]
  exact h i hi
theorem Z9.rem {r : Nat → Int32} {w : Nat → UInt32} (h : Z9 r) (hw : Wel r) : Z9 (remR w (CN r) r) :=
  (iterN_inv (n := CN r) (I := fun _ t => WC r t ∧ Z9 t) ⟨WC.rf hw, h⟩ (fun k t hk ht => by
    unfold remS
    split
    · exact ⟨ht.1.goes hk, ht.2.goes ht.1.1 (by rw [ht.1.2.1]; exact hk)⟩
    · exact ht) (CN r) (Nat.le_refl _)).2
theorem fallC_Z {r0 r : Nat → Int32} {c : Nat} (h : WC r0 r ∧ Z9 r) : WC r0 (fallC c (CN r0) r) ∧ Z9 (fallC c (CN r0) r) :=
  iterN_inv (n := CN r0) (I := fun _ t => WC r0 t ∧ Z9 t) h (fun k t hk ht => by
    unfold fallS
    split
    · exact ⟨ht.1.goes hk, ht.2.goes ht.1.1 (by rw [ht.1.2.1]; exact hk)⟩
    · exact ht) (CN r0) (Nat.le_refl _)
theorem fallR_Z {r : Nat → Int32} (hw : Wel r) (h : Z9 r) : WC r (fallR r) ∧ Z9 (fallR r) :=
  iterN_inv (n := 7) (I := fun _ t => WC r t ∧ Z9 t) ⟨WC.rf hw, h⟩ (fun k t hk ht => by
    rw [show CN t = CN r from ht.1.2.1]
    exact fallC_Z ht) 7 (Nat.le_refl _)
theorem brkR_Z {w : Nat → UInt32} : ∀ (n : Nat) (r : Nat → Int32), Wel r → Z9 r → Z9 (brkR w n r)
  | 0, r, hw, h => h
  | n + 1, r, hw, h => by
    unfold brkR
    split
    · next hn =>
      obtain ⟨a, -, b⟩ := ov_step hw hn
      exact brkR_Z n _ a.1.1 (fallR_Z b.1.1 (h.goes hw hn)).2
    · exact h
theorem Z9.hour {r : Nat → Int32} {w : Nat → UInt32} (h : Z9 r) (hw : Wel r) : Z9 (hourR r w) := by
  have h1 := (h.freeze (t := tOf r) hw)
  have w1 := freezeR_Wel (t := tOf r) hw
  have h2 := h1.rem (w := hourW r w) w1
  rw [freezeR_CN] at h2
  have w2 := (hour1_Shr (w := w) hw).1.1
  have h3 := fallR_Z w2 h2
  exact Z9.upd (brkR_Z 40 _ h3.1.1 h3.2) (by decide)
theorem ZW.hour {r : Nat → Int32} {w : Nat → UInt32} (h : ZW w) (hw : Wel r) : ZW (hourW r w) := fun j hj => by
  unfold hourW
  rw [meltW_ge _ _ (Nat.le_trans hw.2.1 hj)]
  exact h j hj
theorem hour_Wel {r : Nat → Int32} {w : Nat → UInt32} {B : Nat} (h : HS B r w) (hB : B + 1 < 2 ^ 30) : Wel (hourR r w) := (hour_HS h hB).1
theorem hours_Z : ∀ (n B : Nat) {r : Nat → Int32} {w : Nat → UInt32}, HS B r w → B + n < 2 ^ 30 → Z9 r → ZW w → Z9 (hoursR n r w) ∧ ZW (hoursW n r w)
  | 0, B, r, w, _, _, h1, h2 => ⟨h1, h2⟩
  | n + 1, B, r, w, h, hB, h1, h2 => hours_Z n (B + 1) (hour_HS h (by omega)) (by omega) (h1.hour h.1) (h2.hour h.1)
theorem Z9.lay {r : Nat → Int32} (h : Z9 r) {b j c : Nat} (hb : b < 40) (hc : c < 8) (hj : j + LN r b ≤ 12) : Z9 (layR r b j c) := (h.setB hb).fill hc hj
theorem Z9.saw {r : Nat → Int32} (h : Z9 r) (hb : CN r < 40) {kind len place : Int32} : Z9 (sawR r kind len place) := (((((h.upd (by omega)).upd (by omega)).setB hb).upd (by decide)).upd (by decide))
theorem ZW.upd {w : Nat → UInt32} (h : ZW w) {i : Nat} {x : UInt32} (hi : i < 40) : ZW (vf_upd w i x) := fun j hj => by unfold vf_upd; rw [if_neg (by omega)]; exact h j hj
/-- copies of a row there and back -/
theorem cpI {r r' x : Nat → Int32} (h : Z9 r) (h' : Z9 r') : mapI (mapI r 445 x) 445 r' = r := by
  funext j
  by_cases q : j < 445
  · rw [mapI_lt q, mapI_lt q]
  · show (if j < 445 then _ else r' j) = r j
    rw [if_neg q, h j (by omega), h' j (by omega)]
theorem cpF {w w' x : Nat → UInt32} (h : ZW w) (h' : ZW w') : mapF (mapF w 40 x) 40 w' = w := by
  funext j
  by_cases q : j < 40
  · rw [mapF_lt q, mapF_lt q]
  · show (if j < 40 then _ else w' j) = w j
    rw [if_neg q, h j (by omega), h' j (by omega)]
theorem cpI1 {g r r' : Nat → Int32} (hg : ∀ j, j < 445 → g j = r j) (h : Z9 r) (h' : Z9 r') : mapI g 445 r' = r := by
  funext j
  by_cases q : j < 445
  · rw [mapI_lt q, hg j q]
  · show (if j < 445 then _ else r' j) = r j
    rw [if_neg q, h j (by omega), h' j (by omega)]
theorem cpF1 {g w w' : Nat → UInt32} (hg : ∀ j, j < 40 → g j = w j) (h : ZW w) (h' : ZW w') : mapF g 40 w' = w := by
  funext j
  by_cases q : j < 40
  · rw [mapF_lt q, hg j q]
  · show (if j < 40 then _ else w' j) = w j
    rw [if_neg q, h j (by omega), h' j (by omega)]
end
