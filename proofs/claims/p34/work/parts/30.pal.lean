-- needs: 21
noncomputable section
theorem er_al {d mi pc nx r1 r2 r3 k n t : Nat} {sl : List Nat} {lc : LC} {st : List Value} {h h' : AH} {v : Option Value} {w : Value} (hc : cdT mi pc = some (3, .arraylength, nx, r1, r2, r3, w)) (hl : layAt k = (t, n, sl)) (ht : 1 ≤ t ∧ t ≤ 4) (K : EvR d mi nx lc (.int (Int32.ofNat n) :: st) h v h') (h3 : t ≠ 3 := by decide) : EvR d mi pc lc (.ref k :: st) h v h' := by
  refine er_s (pc' := nx) (lc' := lc) (st' := .int (Int32.ofNat n) :: st) (h2 := h) ?_ K
  unfold stp
  simp only [hc, stH, hl]
  rw [if_pos (show t = 1 ∨ t = 2 ∨ t = 4 by omega)]
/-- the layout of a palace whose object is the cell k -/
abbrev palSl (k : Nat) : List Nat := [0, 0, 0, 0, 0, k + 4, k + 5, k + 6, k + 7, k + 8, k + 9, k + 10, k + 11, k + 12, k + 13, k + 14, k + 15]
def PalL (k : Nat) : Prop := layAt k = (0, 6, palSl k) ∧ layAt (k + 1) = (1, 24, []) ∧ layAt (k + 2) = (1, 40, []) ∧ layAt (k + 3) = (1, 40, []) ∧ layAt (k + 4) = (4, 40, []) ∧ layAt (k + 5) = (1, 40, []) ∧ layAt (k + 6) = (1, 40, []) ∧ layAt (k + 7) = (1, 40, []) ∧ layAt (k + 8) = (1, 40, []) ∧ layAt (k + 9) = (1, 40, []) ∧ layAt (k + 10) = (1, 40, []) ∧ layAt (k + 11) = (1, 96, []) ∧ layAt (k + 12) = (1, 10, [])
/-- the palace k holds the row r and the masses w -/
def Pal (h : AH) (k : Nat) (r : Nat → Int32) (w : Nat → UInt32) : Prop :=
  (∀ i, i < 5 → h.1 k i = r i) ∧ (∀ i, i < 24 → h.1 (k + 1) i = r (5 + i)) ∧
  (∀ b, b < CN r → h.1 (k + 2) b = ofB r b 0 ∧ h.1 (k + 3) b = ofB r b 1 ∧ h.2.1 (k + 4) b = w b ∧ ∀ o, 2 ≤ o → o < 8 → h.1 (k + 3 + o) b = ofB r b o) ∧
  (∀ b, CN r ≤ b → b < 40 → h.1 (k + 5) b = -1 ∧ h.1 (k + 6) b = -1 ∧ h.1 (k + 7) b = -1 ∧ h.1 (k + 8) b = 0 ∧ h.1 (k + 9) b = -1 ∧ h.1 (k + 10) b = 0) ∧
  (∀ i, i < 96 → h.1 (k + 11) i = r (29 + i)) ∧
  (∀ q p, q < 2 → p < 5 → h.1 (k + 12) (q * 5 + p) = orM (blkIn r (nI q) (nI p)) (CN r))
section
variable {h : AH} {k : Nat} {r : Nat → Int32} {w : Nat → UInt32} (P : Pal h k r w)
theorem Pal.hd (P : Pal h k r w) {i : Nat} (hi : i < 5) : h.1 k i = r i := P.1 i hi
theorem Pal.tm (P : Pal h k r w) {i : Nat} (hi : i < 24) : h.1 (k + 1) i = r (5 + i) := P.2.1 i hi
theorem Pal.kd (P : Pal h k r w) {b : Nat} (hb : b < CN r) : h.1 (k + 2) b = ofB r b 0 := (P.2.2.1 b hb).1
theorem Pal.ln (P : Pal h k r w) {b : Nat} (hb : b < CN r) : h.1 (k + 3) b = ofB r b 1 := (P.2.2.1 b hb).2.1
theorem Pal.ms (P : Pal h k r w) {b : Nat} (hb : b < CN r) : h.2.1 (k + 4) b = w b := (P.2.2.1 b hb).2.2.1
theorem Pal.st (P : Pal h k r w) {b : Nat} (hb : b < CN r) : h.1 (k + 5) b = ofB r b 2 := (P.2.2.1 b hb).2.2.2 2 (by decide) (by decide)
theorem Pal.co (P : Pal h k r w) {b : Nat} (hb : b < CN r) : h.1 (k + 6) b = ofB r b 3 := (P.2.2.1 b hb).2.2.2 3 (by decide) (by decide)
theorem Pal.cu (P : Pal h k r w) {b : Nat} (hb : b < CN r) : h.1 (k + 7) b = ofB r b 4 := (P.2.2.1 b hb).2.2.2 4 (by decide) (by decide)
theorem Pal.jt (P : Pal h k r w) {b : Nat} (hb : b < CN r) : h.1 (k + 8) b = ofB r b 5 := (P.2.2.1 b hb).2.2.2 5 (by decide) (by decide)
theorem Pal.pl (P : Pal h k r w) {b : Nat} (hb : b < CN r) : h.1 (k + 9) b = ofB r b 6 := (P.2.2.1 b hb).2.2.2 6 (by decide) (by decide)
theorem Pal.wy (P : Pal h k r w) {b : Nat} (hb : b < CN r) : h.1 (k + 10) b = ofB r b 7 := (P.2.2.1 b hb).2.2.2 7 (by decide) (by decide)
theorem Pal.gr (P : Pal h k r w) {c j : Nat} (hc : c < 8) (hj : j < 12) : h.1 (k + 11) (c * 12 + j) = gAt r c j := by
  rw [P.2.2.2.2.1 (c * 12 + j) (by omega)]
  show r _ = r _
  congr 1
  omega
theorem Pal.rk (P : Pal h k r w) {q p : Nat} (hq : q < 2) (hp : p < 5) : h.1 (k + 12) (q * 5 + p) = orM (blkIn r (nI q) (nI p)) (CN r) := P.2.2.2.2.2 q p hq hp
end
theorem cnt_f2 {p : Nat → Bool} {k : Nat} (h : ¬ p k = true) : nI (cntP p k) = nI (cntP p (k + 1)) := by
  have := cnt_f (p := p) (k := k) h
  rwa [Int32.add_zero] at this
theorem p_isColumn (d : Nat) (x : Int32) (h : AH) : EvM d mX8_isColumn [.int x] h (some (.int (bI (0 ≤ x ∧ x < 12)))) h := by
  show EvR _ _ 0 [(0, _)] [] _ _ _
  refine er_s rfl ?_
  refine er_b rfl rfl (fun c1 => ?_) (fun c1 => ?_)
  · refine er_s rfl ?_
    refine er_q rfl ?_ ?_
    · exact st_f (fun q => nlt q.1 c1)
    · rfl
  · iterate 2 refine er_s rfl ?_
    refine er_b rfl rfl (fun c7 => ?_) (fun c7 => ?_)
    · refine er_s rfl ?_
      refine er_q rfl ?_ ?_
      · exact st_f (fun q => nle q.2 c7)
      · rfl
    · refine er_s rfl ?_
      refine er_g rfl rfl ?_
      refine er_q rfl ?_ ?_
      · exact st_t ⟨le_of c1, lt_of c7⟩
      · rfl
theorem p_isCourse (d : Nat) (x : Int32) (h : AH) : EvM d mX8_isCourse [.int x] h (some (.int (bI (0 ≤ x ∧ x < 8)))) h := by
  show EvR _ _ 0 [(0, _)] [] _ _ _
  refine er_s rfl ?_
  refine er_b rfl rfl (fun c1 => ?_) (fun c1 => ?_)
  · refine er_s rfl ?_
    refine er_q rfl ?_ ?_
    · exact st_f (fun q => nlt q.1 c1)
    · rfl
  · iterate 2 refine er_s rfl ?_
    refine er_b rfl rfl (fun c7 => ?_) (fun c7 => ?_)
    · refine er_s rfl ?_
      refine er_q rfl ?_ ?_
      · exact st_f (fun q => nle q.2 c7)
      · rfl
    · refine er_s rfl ?_
      refine er_g rfl rfl ?_
      refine er_q rfl ?_ ?_
      · exact st_t ⟨le_of c1, lt_of c7⟩
      · rfl
theorem p_isHour (d : Nat) (x : Int32) (h : AH) : EvM d mX8_isHour [.int x] h (some (.int (bI (0 ≤ x ∧ x < 24)))) h := by
  show EvR _ _ 0 [(0, _)] [] _ _ _
  refine er_s rfl ?_
  refine er_b rfl rfl (fun c1 => ?_) (fun c1 => ?_)
  · refine er_s rfl ?_
    refine er_q rfl ?_ ?_
    · exact st_f (fun q => nlt q.1 c1)
    · rfl
  · iterate 2 refine er_s rfl ?_
    refine er_b rfl rfl (fun c7 => ?_) (fun c7 => ?_)
    · refine er_s rfl ?_
      refine er_q rfl ?_ ?_
      · exact st_f (fun q => nle q.2 c7)
      · rfl
    · refine er_s rfl ?_
      refine er_g rfl rfl ?_
      refine er_q rfl ?_ ?_
      · exact st_t ⟨le_of c1, lt_of c7⟩
      · rfl
theorem p_isRack (d : Nat) (x : Int32) (h : AH) : EvM d mX8_isRack [.int x] h (some (.int (bI (0 ≤ x ∧ x < 2)))) h := by
  show EvR _ _ 0 [(0, _)] [] _ _ _
  refine er_s rfl ?_
  refine er_b rfl rfl (fun c1 => ?_) (fun c1 => ?_)
  · refine er_s rfl ?_
    refine er_q rfl ?_ ?_
    · exact st_f (fun q => nlt q.1 c1)
    · rfl
  · iterate 2 refine er_s rfl ?_
    refine er_b rfl rfl (fun c6 => ?_) (fun c6 => ?_)
    · refine er_s rfl ?_
      refine er_q rfl ?_ ?_
      · exact st_f (fun q => nle q.2 c6)
      · rfl
    · refine er_s rfl ?_
      refine er_g rfl rfl ?_
      refine er_q rfl ?_ ?_
      · exact st_t ⟨le_of c1, lt_of c6⟩
      · rfl
theorem p_isSawn (d : Nat) {k : Nat} (hL : PalL k) (x : Int32) (h : AH) : EvM d mX8_isSawn [.ref k, .int x] h (some (.int (bI (0 ≤ x ∧ x < 40 ∧ x < h.1 k 4)))) h := by
  have L0 := hL.1
  show EvR _ _ 0 [(0, _), (1, _)] [] _ _ _
  refine er_s rfl ?_
  refine er_b rfl rfl (fun c1 => ?_) (fun c1 => ?_)
  · refine er_s rfl ?_
    refine er_q rfl ?_ ?_
    · exact st_f (fun q => nlt q.1 c1)
    · rfl
  · iterate 2 refine er_s rfl ?_
    refine er_b rfl rfl (fun c7 => ?_) (fun c7 => ?_)
    · refine er_s rfl ?_
      refine er_q rfl ?_ ?_
      · exact st_f (fun q => nle q.2.1 c7)
      · rfl
    · iterate 2 refine er_s rfl ?_
      refine er_f rfl L0 rfl ?_
      refine er_b rfl rfl (fun c15 => ?_) (fun c15 => ?_)
      · refine er_s rfl ?_
        refine er_q rfl ?_ ?_
        · exact st_f (fun q => nle q.2.2 c15)
        · rfl
      · refine er_s rfl ?_
        refine er_g rfl rfl ?_
        refine er_q rfl ?_ ?_
        · exact st_t ⟨le_of c1, lt_of c7, lt_of c15⟩
        · rfl
theorem p_isOnWall (d : Nat) {k : Nat} (hL : PalL k) {b : Nat} (hb : b < 40) (h : AH) : EvM d mX8_isOnWall [.ref k, .int (nI b)] h (some (.int (bI (h.1 (k + 5) b = 1)))) h := by
  obtain ⟨L0, L1, L2, L3, L4, L5, L6, L7, L8, L9, L10, L11, L12⟩ := hL
  show EvR _ _ 0 [(0, _), (1, _)] [] _ _ _
  refine er_s rfl ?_
  refine er_b rfl rfl (fun q => absurd q (nI_pos (by omega))) (fun _ => ?_)
  iterate 2 refine er_s rfl ?_
  refine er_b rfl rfl (fun q => absurd q (nI_ge (b := 40) hb (by decide))) (fun _ => ?_)
  refine er_s rfl ?_
  refine er_f rfl L0 rfl ?_
  refine er_s rfl ?_
  refine er_il rfl L5 (vi) ?_
  rw [cl b]
  refine er_s rfl ?_
  refine er_b rfl rfl (fun c17 => ?_) (fun c17 => ?_)
  · refine er_s rfl ?_
    refine er_q rfl ?_ ?_
    · exact st_f c17
    · rfl
  · refine er_s rfl ?_
    refine er_g rfl rfl ?_
    refine er_q rfl ?_ ?_
    · exact st_t (Decidable.not_not.mp c17)
    · rfl
theorem p_isInRack (d : Nat) {k : Nat} (hL : PalL k) {b : Nat} (hb : b < 40) (h : AH) : EvM d mX8_isInRack [.ref k, .int (nI b)] h (some (.int (bI (h.1 (k + 5) b = 0)))) h := by
  obtain ⟨L0, L1, L2, L3, L4, L5, L6, L7, L8, L9, L10, L11, L12⟩ := hL
  show EvR _ _ 0 [(0, _), (1, _)] [] _ _ _
  refine er_s rfl ?_
  refine er_b rfl rfl (fun q => absurd q (nI_pos (by omega))) (fun _ => ?_)
  iterate 2 refine er_s rfl ?_
  refine er_b rfl rfl (fun q => absurd q (nI_ge (b := 40) hb (by decide))) (fun _ => ?_)
  refine er_s rfl ?_
  refine er_f rfl L0 rfl ?_
  refine er_s rfl ?_
  refine er_il rfl L5 (vi) ?_
  rw [cl b]
  refine er_b rfl rfl (fun c16 => ?_) (fun c16 => ?_)
  · refine er_s rfl ?_
    refine er_q rfl ?_ ?_
    · exact st_f c16
    · rfl
  · refine er_s rfl ?_
    refine er_g rfl rfl ?_
    refine er_q rfl ?_ ?_
    · exact st_t (Decidable.not_not.mp c16)
    · rfl
theorem p_isGone (d : Nat) {k : Nat} (hL : PalL k) {b : Nat} (hb : b < 40) (h : AH) : EvM d mX8_isGone [.ref k, .int (nI b)] h (some (.int (bI (h.1 (k + 5) b = 2)))) h := by
  obtain ⟨L0, L1, L2, L3, L4, L5, L6, L7, L8, L9, L10, L11, L12⟩ := hL
  show EvR _ _ 0 [(0, _), (1, _)] [] _ _ _
  refine er_s rfl ?_
  refine er_b rfl rfl (fun q => absurd q (nI_pos (by omega))) (fun _ => ?_)
  iterate 2 refine er_s rfl ?_
  refine er_b rfl rfl (fun q => absurd q (nI_ge (b := 40) hb (by decide))) (fun _ => ?_)
  refine er_s rfl ?_
  refine er_f rfl L0 rfl ?_
  refine er_s rfl ?_
  refine er_il rfl L5 (vi) ?_
  rw [cl b]
  refine er_s rfl ?_
  refine er_b rfl rfl (fun c17 => ?_) (fun c17 => ?_)
  · refine er_s rfl ?_
    refine er_q rfl ?_ ?_
    · exact st_f c17
    · rfl
  · refine er_s rfl ?_
    refine er_g rfl rfl ?_
    refine er_q rfl ?_ ?_
    · exact st_t (Decidable.not_not.mp c17)
    · rfl
theorem p_massOf (d : Nat) {k : Nat} (hL : PalL k) {b : Nat} (hb : b < 40) (h : AH) : EvM d mX8_massOf [.ref k, .int (nI b)] h (some (.float (h.2.1 (k + 4) b))) h := by
  obtain ⟨L0, L1, L2, L3, L4, L5, L6, L7, L8, L9, L10, L11, L12⟩ := hL
  show EvR _ _ 0 [(0, _), (1, _)] [] _ _ _
  refine er_s rfl ?_
  refine er_b rfl rfl (fun q => absurd q (nI_pos (by omega))) (fun _ => ?_)
  iterate 2 refine er_s rfl ?_
  refine er_b rfl rfl (fun q => absurd q (nI_ge (b := 40) hb (by decide))) (fun _ => ?_)
  refine er_s rfl ?_
  refine er_f rfl L0 rfl ?_
  refine er_s rfl ?_
  refine er_fl rfl L4 (vi) ?_
  refine er_g rfl rfl ?_
  refine er_q rfl ?_ ?_
  · rw [cl b]
  · rfl
/-- floorMod -/
def fmodI (x y : Int32) : Int32 := if x ^^^ y < 0 ∧ x - x / y * y ≠ 0 then x - x / y * y + y else x - x / y * y
theorem p_floorMod (d : Nat) (x : Int32) (h : AH) : EvM d mJ9_floorMod_7cf53 [.int x, .int 24] h (some (.int (fmodI x 24))) h := by
  show EvR _ _ 0 [(0, _), (1, _)] [] _ _ _
  iterate 7 refine er_s rfl ?_
  refine er_b rfl rfl (fun c7 => ?_) (fun c7 => ?_)
  · refine er_s rfl ?_
    refine er_q rfl ?_ ?_
    · rw [show fmodI x 24 = x - x / 24 * 24 from if_neg (fun q => nlt c7 q.1)]
    · rfl
  · refine er_s rfl ?_
    refine er_b rfl rfl (fun c11 => ?_) (fun c11 => ?_)
    · refine er_s rfl ?_
      refine er_q rfl ?_ ?_
      · rw [show fmodI x 24 = x - x / 24 * 24 from if_neg (fun q => q.2 c11)]
      · rfl
    · iterate 3 refine er_s rfl ?_
      refine er_q rfl ?_ ?_
      · rw [show fmodI x 24 = x - x / 24 * 24 + 24 from if_pos ⟨lt_of c7, c11⟩]
      · rfl
theorem fmod_n {c : Nat} (hc : c < 2 ^ 30) : fmodI (nI c) 24 = nI (c % 24) := by
  have e : nI c - nI c / 24 * 24 = nI (c % 24) := pk_rem (d := 24) (by omega) (by decide) (by decide)
  unfold fmodI
  rw [if_neg, e]
  rintro ⟨q, -⟩
  have h1 : (nI c ^^^ 24).toBitVec.msb = true := by
    rw [BitVec.msb_eq_toInt]
    have : (nI c ^^^ 24).toBitVec.toInt < 0 := by
      have := Int32.lt_iff_toInt_lt.mp q
      exact this
    simpa using this
  rw [Int32.toBitVec_xor, BitVec.msb_xor] at h1
  have h2 : (nI c).toBitVec.msb = false := by
    rw [BitVec.msb_eq_toInt]
    have : (nI c).toBitVec.toInt = (c : Int) := nI_toInt (by omega)
    rw [this]
    simp
  rw [h2] at h1
  exact absurd h1 (by decide)
theorem fmod_noon : ∀ c ∈ List.range 24, fmodI (12 - nI c) 24 = nI ((36 - c) % 24) := by decide +kernel
theorem p_hourOfDay (d : Nat) {k : Nat} (hL : PalL k) (h : AH) {c : Nat} (hc : c < 2 ^ 30) (e : h.1 k 0 = nI c) : EvM (d + 1) mX8_hourOfDay [.ref k] h (some (.int (nI (c % 24)))) h := by
  have L0 := hL.1
  have F := p_floorMod d (nI c) h
  rw [fmod_n hc] at F
  show EvR _ _ 0 [(0, _)] [] _ _ _
  refine er_s rfl ?_
  refine er_f rfl L0 rfl ?_
  rw [show fv 0 (h.1 k 0) = Value.int (nI c) from congrArg Value.int e]
  refine er_s rfl ?_
  refine er_c rfl rfl ⟨Nat.le_of_ble_eq_true rfl, Nat.le_of_ble_eq_true rfl⟩ (F) ?_
  refine er_q rfl ?_ ?_
  · rfl
  · rfl
theorem p_temperatureAt (d : Nat) {k : Nat} (hL : PalL k) {i : Nat} (hi : i < 24) (h : AH) : EvM (d + 1) mX8_temperatureAt [.ref k, .int (nI i)] h (some (.int (h.1 (k + 1) i))) h := by
  obtain ⟨L0, L1, L2, L3, L4, L5, L6, L7, L8, L9, L10, L11, L12⟩ := hL
  show EvR _ _ 0 [(0, _), (1, _)] [] _ _ _
  refine er_s rfl ?_
  refine er_c rfl rfl ⟨Nat.le_of_ble_eq_true rfl, Nat.le_of_ble_eq_true rfl⟩ (p_isHour _ _ _) ?_
  refine er_b rfl rfl (fun q => absurd q (fun q => bI_eq.mp q ⟨nI_pos' (by omega), nI_lt (b := 24) hi (by decide)⟩)) (fun _ => ?_)
  refine er_s rfl ?_
  refine er_f rfl L0 rfl ?_
  refine er_s rfl ?_
  refine er_il rfl L1 (vi) ?_
  refine er_g rfl rfl ?_
  refine er_q rfl ?_ ?_
  · rw [cl i]
  · rfl
theorem p_blockAt (d : Nat) {k : Nat} (hL : PalL k) {c j : Nat} (hc : c < 8) (hj : j < 12) (h : AH) : EvM d mX8_blockAt [.ref k, .int (nI j), .int (nI c)] h (some (.int (h.1 (k + 11) (c * 12 + j)))) h := by
  obtain ⟨L0, L1, L2, L3, L4, L5, L6, L7, L8, L9, L10, L11, L12⟩ := hL
  show EvR _ _ 0 [(0, _), (1, _), (2, _)] [] _ _ _
  refine er_s rfl ?_
  refine er_b rfl rfl (fun q => absurd q (nI_pos (by omega))) (fun _ => ?_)
  iterate 2 refine er_s rfl ?_
  refine er_b rfl rfl (fun q => absurd q (nI_ge (b := 12) hj (by decide))) (fun _ => ?_)
  refine er_s rfl ?_
  refine er_b rfl rfl (fun q => absurd q (nI_pos (by omega))) (fun _ => ?_)
  iterate 2 refine er_s rfl ?_
  refine er_b rfl rfl (fun _ => ?_) (fun q => absurd (nI_lt (b := 8) hc (by decide)) q)
  refine er_s rfl ?_
  refine er_f rfl L0 rfl ?_
  iterate 5 refine er_s rfl ?_
  rw [show (12 : Int32) = nI 12 from rfl, pk_mul, nI_add]
  refine er_il rfl L11 (vi) ?_
  refine er_q rfl ?_ ?_
  · rw [cl _]
  · rfl
theorem p_blockAt8 (d : Nat) {k : Nat} {j : Nat} (hj : j < 12) (h : AH) : EvM d mX8_blockAt [.ref k, .int (nI j), .int (nI 8)] h (some (.int (-1))) h := by
  show EvR _ _ 0 [(0, _), (1, _), (2, _)] [] _ _ _
  refine er_s rfl ?_
  refine er_b rfl rfl (fun q => absurd q (nI_pos (by omega))) (fun _ => ?_)
  iterate 2 refine er_s rfl ?_
  refine er_b rfl rfl (fun q => absurd q (nI_ge (b := 12) hj (by decide))) (fun _ => ?_)
  refine er_s rfl ?_
  refine er_b rfl rfl (fun q => absurd q (nI_pos (by omega))) (fun _ => ?_)
  iterate 2 refine er_s rfl ?_
  refine er_b rfl rfl (fun q => absurd q (by decide)) (fun _ => ?_)
  refine er_s rfl ?_
  refine er_q rfl ?_ ?_
  · rfl
  · rfl
theorem p_blockInRack (d : Nat) {k : Nat} (hL : PalL k) {q p : Nat} (hq : q < 2) (hp : p < 5) (h : AH) : EvM (d + 1) mX8_blockInRack [.ref k, .int (nI q), .int (nI p)] h (some (.int (h.1 (k + 12) (q * 5 + p)))) h := by
  obtain ⟨L0, L1, L2, L3, L4, L5, L6, L7, L8, L9, L10, L11, L12⟩ := hL
  show EvR _ _ 0 [(0, _), (1, _), (2, _)] [] _ _ _
  refine er_s rfl ?_
  refine er_c rfl rfl ⟨Nat.le_of_ble_eq_true rfl, Nat.le_of_ble_eq_true rfl⟩ (p_isRack _ _ _) ?_
  refine er_b rfl rfl (fun q => absurd q (fun z => bI_eq.mp z ⟨nI_pos' (by omega), nI_lt (b := 2) hq (by decide)⟩)) (fun _ => ?_)
  refine er_s rfl ?_
  refine er_b rfl rfl (fun q => absurd q (nI_pos (by omega))) (fun _ => ?_)
  iterate 2 refine er_s rfl ?_
  refine er_b rfl rfl (fun q => absurd q (nI_ge (b := 5) hp (by decide))) (fun _ => ?_)
  refine er_s rfl ?_
  refine er_f rfl L0 rfl ?_
  iterate 5 refine er_s rfl ?_
  rw [show (5 : Int32) = nI 5 from rfl, pk_mul, nI_add]
  refine er_il rfl L12 (vi) ?_
  refine er_g rfl rfl ?_
  refine er_q rfl ?_ ?_
  · rw [cl _]
  · rfl
abbrev frC (h : AH) (k q : Nat) : Nat → Bool := fun p => decide (h.1 (k + 12) (q * 5 + p) < 0)
theorem p_freePlace (d : Nat) {k : Nat} (hL : PalL k) {q : Nat} (hq : q < 2) (h : AH) : EvM (d + 1) mX8_freePlace [.ref k, .int (nI q)] h (some (.int (orM (fstP (frC h k q) 5 5 0) 5))) h := by
  obtain ⟨L0, L1, L2, L3, L4, L5, L6, L7, L8, L9, L10, L11, L12⟩ := hL
  have hr : 0 ≤ nI q ∧ nI q < 2 := ⟨nI_pos' (by omega), nI_lt (b := 2) hq (by decide)⟩
  have L : ∀ (m p : Nat), p + m = 5 → EvR (d + 1) mX8_freePlace 2 [(0, .ref k), (1, .int (nI q)), (2, .int (nI p))] [] h (some (.int (orM (fstP (frC h k q) 5 m p) 5))) h := by
    intro m
    induction m with
    | zero =>
      intro p hp
      have hp : p = 5 := by omega
      subst hp
      iterate 2 refine er_s rfl ?_
      refine er_b rfl rfl (fun _ => ?_) (fun q => absurd (Int32.le_refl _) q)
      refine er_s rfl ?_
      refine er_q rfl ?_ ?_
      · rfl
      · rfl
    | succ m ih =>
      intro p hp
      have IH := ih (p + 1) (by omega)
      iterate 2 refine er_s rfl ?_
      refine er_b rfl rfl (fun q => absurd q (nI_ge (b := 5) (by omega) (by decide))) (fun _ => ?_)
      refine er_s rfl ?_
      refine er_c rfl rfl ⟨Nat.le_of_ble_eq_true rfl, Nat.le_of_ble_eq_true rfl⟩ (p_isRack _ _ _) ?_
      refine er_b rfl rfl (fun q => absurd q (fun z => bI_eq.mp z hr)) (fun _ => ?_)
      refine er_s rfl ?_
      refine er_f rfl L0 rfl ?_
      iterate 5 refine er_s rfl ?_
      rw [show (5 : Int32) = nI 5 from rfl, pk_mul, nI_add]
      refine er_il rfl L12 (vi) ?_
      rw [cl _]
      refine er_b rfl rfl (fun c24 => ?_) (fun c24 => ?_)
      · refine er_s rfl ?_
        refine er_g rfl rfl ?_
        rw [fstP_f (fun z => nle (of_decide_eq_true z) c24), nI_1]
        exact er_sub (sub3 rfl rfl rfl) IH
      · refine er_s rfl ?_
        refine er_q rfl ?_ ?_
        · rw [fstP_t (decide_eq_true (lt_of c24)), orM_t (by omega)]
        · rfl
  have Z := L 5 0 rfl
  show EvR _ _ 0 [(0, _), (1, _)] [] _ _ _
  iterate 2 refine er_s rfl ?_
  exact er_sub (sub3 rfl rfl rfl) Z
theorem p_supCols (d : Nat) {k : Nat} (hL : PalL k) {h : AH} {r : Nat → Int32} {w : Nat → UInt32} (P : Pal h k r w) {c j L : Nat} (hc : c < 8) (hj : j + L ≤ 12) : EvM (d + 1) mX8_supportedColumns [.ref k, .int (nI j), .int (nI L), .int (nI c)] h (some (.int (nI (cntP (supP r c j) L)))) h := by
  have L0 := hL.1
  by_cases h0 : c = 0
  · subst h0
    have e : cntP (supP r 0 j) L = L := by
      have : ∀ n, cntP (supP r 0 j) n = n := fun n => by
        induction n with
        | zero => rfl
        | succ n ih =>
          show cntP (supP r 0 j) n + (if supP r 0 j n = true then 1 else 0) = n + 1
          rw [ih, if_pos (show supP r 0 j n = true from decide_eq_true (Or.inl rfl))]
      exact this L
    rw [e]
    show EvR _ _ 0 [(0, _), (1, _), (2, _), (3, _)] [] _ _ _
    refine er_s rfl ?_
    refine er_b rfl rfl (fun q => absurd q (fun q => q rfl)) (fun _ => ?_)
    refine er_s rfl ?_
    refine er_q rfl ?_ ?_
    · rfl
    · rfl
  · have Lp : ∀ (m i : Nat), i + m = L → EvR (d + 1) mX8_supportedColumns 12 [(0, .ref k), (1, .int (nI j)), (2, .int (nI L)), (3, .int (nI c)), (4, .int (nI (cntP (supP r c j) i))), (5, .int (nI i))] [] h (some (.int (nI (cntP (supP r c j) L)))) h := by
      intro m
      induction m with
      | zero =>
        intro i hi
        have hi : i = L := by omega
        subst hi
        iterate 2 refine er_s rfl ?_
        refine er_b rfl rfl (fun _ => ?_) (fun q => absurd (Int32.le_refl _) q)
        refine er_s rfl ?_
        refine er_q rfl ?_ ?_
        · rfl
        · rfl
      | succ m ih =>
        intro i hi
        have IH := ih (i + 1) (by omega)
        have B := p_blockAt d hL (c := c - 1) (j := j + i) (by omega) (by omega) h
        rw [P.gr (by omega) (by omega)] at B
        iterate 2 refine er_s rfl ?_
        refine er_b rfl rfl (fun q => absurd q (nI_ge (by omega) (by omega))) (fun _ => ?_)
        iterate 7 refine er_s rfl ?_
        rw [nI_add, nI_mod (by omega)]
        refine er_v2 rfl L0 rfl ⟨Nat.le_of_ble_eq_true rfl, Nat.le_of_ble_eq_true rfl⟩ (B) ?_
        refine er_b rfl rfl (fun c29 => ?_) (fun c29 => ?_)
        · refine er_s rfl ?_
          refine er_g rfl rfl ?_
          rw [cnt_f2 (p := supP r c j) (fun q => (of_decide_eq_true q).elim (fun z => h0 z) (fun z => nlt z c29)), nI_1]
          exact er_sub (sub6 rfl rfl rfl rfl rfl rfl) IH
        · iterate 2 refine er_s rfl ?_
          refine er_g rfl rfl ?_
          rw [cnt_t (p := supP r c j) (decide_eq_true (Or.inr (le_of c29))), nI_1]
          exact er_sub (sub6 rfl rfl rfl rfl rfl rfl) IH
    have Z := Lp L 0 (by omega)
    show EvR _ _ 0 [(0, _), (1, _), (2, _), (3, _)] [] _ _ _
    refine er_s rfl ?_
    refine er_b rfl rfl (fun _ => ?_) (fun q => absurd (fun q => h0 ((nI_z (by omega)).mp q)) q)
    iterate 4 refine er_s rfl ?_
    exact er_sub (sub6 rfl rfl rfl rfl rfl rfl) Z
theorem p_supportOf (d : Nat) {k : Nat} (hL : PalL k) {h : AH} {r : Nat → Int32} {w : Nat → UInt32} (P : Pal h k r w) (hw : Wel r) {b : Nat} (hb : b < CN r) (hs : ofB r b 2 = 1) : EvM (d + 2) mX8_supportOf [.ref k, .int (nI b)] h (some (.int (nI (supN r b)))) h := by
  have h40 := hw.2.1
  obtain ⟨⟨l1, l2, l3⟩, pb⟩ := hw.2.2 b hb
  obtain ⟨p1, p2, p3, p4, p5, p6⟩ := pb hs
  have S := p_supCols d hL P (c := CU r b) (j := CO r b) (L := LN r b) (by omega) (by omega)
  have W := p_isOnWall (d + 1) hL (b := b) (by omega) h
  obtain ⟨L0, L1, L2, L3, L4, L5, L6, L7, L8, L9, L10, L11, L12⟩ := hL
  rw [P.st hb] at W
  show EvR _ _ 0 [(0, _), (1, _)] [] _ _ _
  iterate 2 refine er_s rfl ?_
  refine er_v1 rfl L0 rfl ⟨Nat.le_of_ble_eq_true rfl, Nat.le_of_ble_eq_true rfl⟩ (W) ?_
  refine er_b rfl rfl (fun q => absurd q (fun q => bI_eq.mp q hs)) (fun _ => ?_)
  iterate 2 refine er_s rfl ?_
  refine er_f rfl L0 rfl ?_
  refine er_s rfl ?_
  refine er_il rfl L6 (vi) ?_
  refine er_s rfl ?_
  refine er_f rfl L0 rfl ?_
  refine er_s rfl ?_
  refine er_il rfl L3 (vi) ?_
  refine er_s rfl ?_
  refine er_f rfl L0 rfl ?_
  refine er_s rfl ?_
  refine er_il rfl L7 (vi) ?_
  rw [cl b, P.co hb, P.ln hb, P.cu hb, p1, p3, l1]
  refine er_v3 rfl L0 rfl ⟨Nat.le_of_ble_eq_true rfl, Nat.le_of_ble_eq_true rfl⟩ (S) ?_
  refine er_g rfl rfl ?_
  refine er_q rfl ?_ ?_
  · rfl
  · rfl
theorem p_isSupported (d : Nat) {k : Nat} (hL : PalL k) {h : AH} {r : Nat → Int32} {w : Nat → UInt32} (P : Pal h k r w) (hw : Wel r) {b : Nat} (hb : b < CN r) : EvM (d + 2) mX8_isSupported [.ref k, .int (nI b)] h (some (.int (bI (ofB r b 2 = 1 ∧ LN r b ≤ 2 * supN r b)))) h := by
  have h40 := hw.2.1
  obtain ⟨lb, pb⟩ := hw.2.2 b hb
  have hl := supN_le lb
  obtain ⟨l1, l2, l3⟩ := lb
  by_cases hs : ofB r b 2 = 1
  · obtain ⟨p1, p2, p3, p4, p5, p6⟩ := pb hs
    have S := p_supCols d hL P (c := CU r b) (j := CO r b) (L := LN r b) (by omega) (by omega)
    obtain ⟨L0, L1, L2, L3, L4, L5, L6, L7, L8, L9, L10, L11, L12⟩ := hL
    show EvR _ _ 0 [(0, _), (1, _)] [] _ _ _
    refine er_s rfl ?_
    refine er_b rfl rfl (fun q => absurd q (nI_pos (by omega))) (fun _ => ?_)
    iterate 2 refine er_s rfl ?_
    refine er_b rfl rfl (fun q => absurd q (nI_ge (b := 40) (by omega) (by decide))) (fun _ => ?_)
    refine er_s rfl ?_
    refine er_f rfl L0 rfl ?_
    refine er_s rfl ?_
    refine er_il rfl L5 (vi) ?_
    refine er_s rfl ?_
    refine er_b rfl rfl (fun q => absurd q (fun q => q (by rw [cl b, P.st hb]; exact hs))) (fun _ => ?_)
    iterate 2 refine er_s rfl ?_
    refine er_f rfl L0 rfl ?_
    refine er_s rfl ?_
    refine er_il rfl L6 (vi) ?_
    refine er_s rfl ?_
    refine er_f rfl L0 rfl ?_
    refine er_s rfl ?_
    refine er_il rfl L3 (vi) ?_
    refine er_s rfl ?_
    refine er_f rfl L0 rfl ?_
    refine er_s rfl ?_
    refine er_il rfl L7 (vi) ?_
    rw [cl b, P.co hb, P.ln hb, P.cu hb, p1, p3, l1]
    refine er_v3 rfl L0 rfl ⟨Nat.le_of_ble_eq_true rfl, Nat.le_of_ble_eq_true rfl⟩ (S) ?_
    iterate 3 refine er_s rfl ?_
    refine er_f rfl L0 rfl ?_
    refine er_s rfl ?_
    refine er_il rfl L3 (vi) ?_
    rw [show (2 : Int32) = nI 2 from rfl, pk_mul, Nat.mul_comm _ 2, cl b, P.ln hb, l1]
    refine er_b rfl rfl (fun c50 => ?_) (fun c50 => ?_)
    · refine er_s rfl ?_
      refine er_q rfl ?_ ?_
      · exact st_f (fun q => nlt (nI_le q.2 (by have : supN r b < 7 := hl; omega)) c50)
      · rfl
    · refine er_s rfl ?_
      refine er_g rfl rfl ?_
      refine er_q rfl ?_ ?_
      · exact st_t ⟨hs, Nat.not_lt.mp (fun q => c50 (nI_lt q (by omega)))⟩
      · rfl
  · obtain ⟨L0, L1, L2, L3, L4, L5, L6, L7, L8, L9, L10, L11, L12⟩ := hL
    show EvR _ _ 0 [(0, _), (1, _)] [] _ _ _
    refine er_s rfl ?_
    refine er_b rfl rfl (fun q => absurd q (nI_pos (by omega))) (fun _ => ?_)
    iterate 2 refine er_s rfl ?_
    refine er_b rfl rfl (fun q => absurd q (nI_ge (b := 40) (by omega) (by decide))) (fun _ => ?_)
    refine er_s rfl ?_
    refine er_f rfl L0 rfl ?_
    refine er_s rfl ?_
    refine er_il rfl L5 (vi) ?_
    refine er_s rfl ?_
    refine er_b rfl rfl (fun _ => ?_) (fun q => absurd (by rw [cl b, P.st hb]; exact hs) q)
    refine er_s rfl ?_
    refine er_q rfl ?_ ?_
    · exact st_f (fun q => hs q.1)
    · rfl
end
