-- needs: 99
noncomputable section
theorem p_sumOfMasses (d : Nat) {h : AH} {r : Nat → Int32} {w : Nat → UInt32} (P : Pal h 32 r w) (hw : Wel r) (hm : MasW r w) : EvM d mX8_sumOfMasses [.ref 32] h (some (.double (sumD r w (CN r)))) h := by
  have h40 := hw.2.1
  have Lp : ∀ (n i : Nat), i + n = 40 → EvR d mX8_sumOfMasses 4 [(0, .ref 32), (1, .double (sumD r w (min i (CN r)))), (3, .int (nI i))] [] h (some (.double (sumD r w (CN r)))) h := by
    intro n
    induction n with
    | zero =>
      intro i hi
      have hi : i = 40 := by omega
      subst hi
      rw [show min 40 (CN r) = CN r by omega]
      iterate 2 refine er_s rfl ?_
      refine er_b rfl rfl (fun _ => ?_) (fun q => absurd (Int32.le_refl _) q)
      refine er_s rfl ?_
      refine er_q rfl ?_ ?_
      · rfl
      · rfl
    | succ n ih =>
      intro i hi
      have IH := ih (i + 1) (by omega)
      by_cases c1 : i < CN r
      · rw [show min i (CN r) = i by omega]
        rw [show min (i + 1) (CN r) = i + 1 by omega] at IH
        have es : h.1 37 i = ofB r i 2 := P.st c1
        have em : h.2.1 36 i = w i := P.ms c1
        by_cases c : ofB r i 2 = 1
        · rw [show sumD r w (i + 1) = FP.dadd (sumD r w i) (FP.f2d (w i)) from if_pos c] at IH
          obtain ⟨m1, m2, m3⟩ := f2d_m (hm i c1 c)
          obtain ⟨a0, a1, a2, a3⟩ := sum_ok hw hm i (by omega)
          have k9 := dadd_k (by omega) a3 a1 a2 m3 m1 m2
          iterate 2 refine er_s rfl ?_
          refine er_b rfl rfl (fun q => absurd q (nI_ge (b := 40) (by omega) (by decide))) (fun _ => ?_)
          iterate 3 refine er_s rfl ?_
          refine er_il rfl rfl (vi) ?_
          rw [cl i, es]
          refine er_s rfl ?_
          refine er_b rfl rfl (fun q => absurd q (fun z => z c)) (fun _ => ?_)
          iterate 4 refine er_s rfl ?_
          refine er_fl rfl rfl (vi) ?_
          rw [cl i, em]
          refine er_f2d rfl (d_nn (Nat.le_of_lt m3)) ?_
          refine er_dadd rfl (d_nn (Nat.le_of_lt k9.2.2)) ?_
          iterate 2 refine er_s rfl ?_
          refine er_g rfl rfl ?_
          rw [nI_1]
          exact er_sub (sub3 rfl rfl rfl) IH
        · rw [show sumD r w (i + 1) = sumD r w i from if_neg c] at IH
          iterate 2 refine er_s rfl ?_
          refine er_b rfl rfl (fun q => absurd q (nI_ge (b := 40) (by omega) (by decide))) (fun _ => ?_)
          iterate 3 refine er_s rfl ?_
          refine er_il rfl rfl (vi) ?_
          rw [cl i, es]
          refine er_s rfl ?_
          refine er_b rfl rfl (fun _ => ?_) (fun q => absurd c q)
          refine er_s rfl ?_
          refine er_g rfl rfl ?_
          rw [nI_1]
          exact er_sub (sub3 rfl rfl rfl) IH
      · rw [show min i (CN r) = CN r by omega]
        rw [show min (i + 1) (CN r) = CN r by omega] at IH
        have es : h.1 37 i = -1 := (P.2.2.2.1 i (by omega) (by omega)).1
        iterate 2 refine er_s rfl ?_
        refine er_b rfl rfl (fun q => absurd q (nI_ge (b := 40) (by omega) (by decide))) (fun _ => ?_)
        iterate 3 refine er_s rfl ?_
        refine er_il rfl rfl (vi) ?_
        rw [cl i, es]
        refine er_s rfl ?_
        refine er_b rfl rfl (fun _ => ?_) (fun q => absurd (by decide) q)
        refine er_s rfl ?_
        refine er_g rfl rfl ?_
        rw [nI_1]
        exact er_sub (sub3 rfl rfl rfl) IH
  have Z := Lp 40 0 rfl
  rw [show min 0 (CN r) = 0 by omega] at Z
  show EvR _ _ 0 [(0, _)] [] _ _ _
  iterate 4 refine er_s rfl ?_
  exact er_sub (sub3 rfl rfl rfl) Z
theorem bits_orL {E m : Nat} (hm : m < 2 ^ 52) (hE : E < 2048) : (Int64.ofNat E <<< 52) ||| Int64.ofNat m = Int64.ofNat (E * 2 ^ 52 + m) := by
  apply Int64.toBitVec_inj.mp
  apply BitVec.eq_of_toNat_eq
  have e1 : (Int64.ofNat m).toBitVec.toNat = m := by
    rw [Int64.toBitVec_ofNat', BitVec.toNat_ofNat]
    exact Nat.mod_eq_of_lt (by omega)
  have e2 : (Int64.ofNat E).toBitVec.toNat = E := by
    rw [Int64.toBitVec_ofNat', BitVec.toNat_ofNat]
    exact Nat.mod_eq_of_lt (by omega)
  have e3 : (Int64.ofNat (E * 2 ^ 52 + m)).toBitVec.toNat = E * 2 ^ 52 + m := by
    rw [Int64.toBitVec_ofNat', BitVec.toNat_ofNat]
    exact Nat.mod_eq_of_lt (by omega)
  have e5 : (Int64.toBitVec 52).smod 64 = 52#64 := by decide
  rw [Int64.toBitVec_or, Int64.toBitVec_shiftLeft, BitVec.toNat_or, e1, e3, e5, BitVec.shiftLeft_eq', BitVec.toNat_shiftLeft, e2, BitVec.toNat_ofNat, Nat.shiftLeft_eq]
  rw [show 52 % 2 ^ 64 = 52 from rfl, Nat.mod_eq_of_lt (by omega), ← Nat.shiftLeft_eq, ← Nat.shiftLeft_add_eq_or_of_lt hm]
theorem p_od3 (d : Nat) {h : AH} {m E : Nat} (hm : m < 2 ^ 52) (hE : E < 2047) {y : UInt64} (hy : y.toNat = 1023 * 2 ^ 52 + m) : EvR d mX2_ofDouble 52 [(2, .double y), (4, .long (Int64.ofNat E))] [] h (some (.long (Int64.ofNat (E * 2 ^ 52 + m)))) h := by
  obtain ⟨a1, a2, a3⟩ := d_man (x := y) (by omega) (by omega)
  have a4 : FP.d2l (FP.dmul (FP.dsub y 0x3ff0000000000000) 0x4330000000000000) = Int64.ofNat m := by
    rw [a3, show y.toNat - 0x3ff0000000000000 = m by rw [hy]; omega]
  have B := bits_orL (E := E) hm (by omega)
  iterate 5 refine er_s rfl ?_
  refine er_dsub rfl (d_nn (Nat.le_of_lt a1)) ?_
  refine er_s rfl ?_
  refine er_dmul rfl (d_nn (Nat.le_of_lt a2)) ?_
  iterate 2 refine er_s rfl ?_
  refine er_q rfl ?_ ?_
  · (show some (Value.long ((Int64.ofNat E <<< (52 : Int64)) ||| FP.d2l (FP.dmul (FP.dsub y 0x3ff0000000000000) 0x4330000000000000))) = _)
    rw [a4]
    exact congrArg (fun x => some (Value.long x)) B
  · rfl
theorem p_od1 (d : Nat) {h : AH} {m E : Nat} (hm : m < 2 ^ 52) (hE : E < 2047) : ∀ (n i e : Nat) (y : UInt64), e = 1023 + i → e + n = E → y.toNat = (1023 + n) * 2 ^ 52 + m → EvR d mX2_ofDouble 18 [(2, .double y), (4, .long (Int64.ofNat e)), (6, .int (nI i))] [] h (some (.long (Int64.ofNat (E * 2 ^ 52 + m)))) h := by
  intro n
  induction n with
  | zero =>
    intro i e y e1 e2 e3
    have e2 : e = E := by omega
    subst e2
    have K1 := p_od3 d (h := h) (y := y) hm hE (by rw [e3])
    have c : Op.cmpValue (FP.dcmp y 4611686018427387904) .l < 0 := (cmp_d (by omega) (by decide)).1.mpr (by show _ < 4611686018427387904; omega)
    iterate 2 refine er_s rfl ?_
    refine er_b rfl rfl (fun c23 => ?_) (fun c23 => ?_)
    · exact er_sub (sub2 rfl rfl) K1
    · iterate 3 refine er_s rfl ?_
      refine er_b rfl rfl (fun _ => ?_) (fun q => absurd c q)
      exact er_sub (sub2 rfl rfl) K1
  | succ n ih =>
    intro i e y e1 e2 e3
    have g1 : 0x4000000000000000 ≤ y.toNat := by omega
    have g2 : y.toNat < 9218868437227405312 := by omega
    have c : ¬ Op.cmpValue (FP.dcmp y 4611686018427387904) .l < 0 := fun q => by
      have := (cmp_d (by omega) (by decide)).1.mp q
      have : y.toNat < 4611686018427387904 := this
      omega
    have f := d_half g1 g2
    have IH := ih (i + 1) (e + 1) (FP.dmul y 0x3fe0000000000000) (by omega) (by omega) (by rw [f]; omega)
    have el : Int64.ofNat e + 1 = Int64.ofNat (e + 1) := (Int64.ofNat_add e 1).symm
    iterate 2 refine er_s rfl ?_
    refine er_b rfl rfl (fun q => absurd q (nI_ge (b := 1023) (by omega) (by decide))) (fun _ => ?_)
    iterate 3 refine er_s rfl ?_
    refine er_b rfl rfl (fun q => absurd q c) (fun _ => ?_)
    iterate 2 refine er_s rfl ?_
    refine er_dmul rfl (d_nn (by rw [f]; omega)) ?_
    iterate 6 refine er_s rfl ?_
    refine er_g rfl rfl ?_
    rw [nI_1, el]
    exact er_sub (sub3 rfl rfl rfl) IH
theorem p_ofDouble (d : Nat) (h : AH) {x : UInt64} (hx : 0x3ff0000000000000 ≤ x.toNat) (hx2 : x.toNat < 9218868437227405312) : EvM d mX2_ofDouble [.double x] h (some (.long x.toInt64)) h := by
  have c : 0 ≤ Op.cmpValue (FP.dcmp x 4607182418800017408) .l := (cmp_d (by omega) (by decide)).2.1.mpr (by show 4607182418800017408 ≤ _; omega)
  obtain ⟨n, m, e1, e2⟩ : ∃ n m, m < 2 ^ 52 ∧ x.toNat = (1023 + n) * 2 ^ 52 + m := ⟨x.toNat / 2 ^ 52 - 1023, x.toNat % 2 ^ 52, Nat.mod_lt _ (by decide), by omega⟩
  have ex : x.toInt64 = Int64.ofNat ((1023 + n) * 2 ^ 52 + m) := by
    rw [← e2]
    apply Int64.toBitVec_inj.mp
    apply BitVec.eq_of_toNat_eq
    rw [Int64.toBitVec_ofNat', BitVec.toNat_ofNat]
    show x.toNat = _
    omega
  rw [ex]
  have L1 := p_od1 d (h := h) (E := 1023 + n) e1 (by omega) n 0 1023 x (Nat.add_zero 1023).symm rfl e2
  show EvR _ _ 0 [(0, _)] [] _ _ _
  iterate 3 refine er_s rfl ?_
  refine er_b rfl rfl (fun _ => ?_) (fun q => absurd c q)
  iterate 6 refine er_s rfl ?_
  exact er_sub (sub3 rfl rfl rfl) L1
theorem f_dNaN (d : Nat) {x : UInt64} (hx : x.toNat ≤ 9218868437227405312) (h : AH) : EvM d mJxe99ae_isNaN_b9ae7 [.double x] h (some (.int 0)) h := by
  have e : Op.cmpValue (FP.dcmp x x) .l = 0 := (cmp_d hx hx).2.2.mpr rfl
  show EvR _ _ 0 [(0, _)] [] _ _ _
  iterate 3 refine er_s rfl ?_
  refine er_b rfl rfl (fun _ => ?_) (fun q => absurd e q)
  refine er_s rfl ?_
  refine er_q rfl ?_ ?_
  · rfl
  · rfl
theorem f_dbits (d : Nat) {x : UInt64} (hx : x.toNat ≤ 9218868437227405312) (h : AH) : EvM (d + 1) mJxe99ae_doubleToLongBits_ccdee [.double x] h (some (.long x.toInt64)) h := by
  have N := f_dNaN d hx h
  show EvR _ _ 0 [(0, _)] [] _ _ _
  refine er_s rfl ?_
  refine er_c rfl rfl ⟨Nat.le_of_ble_eq_true rfl, Nat.le_of_ble_eq_true rfl⟩ (N) ?_
  refine er_b rfl rfl (fun q => absurd q (fun q => q rfl)) (fun _ => ?_)
  iterate 2 refine er_s rfl ?_
  refine er_q rfl ?_ ?_
  · rfl
  · rfl
def meanC (r : Nat → Int32) : Int32 := if cntS r 1 (CN r) = 0 then 1 else 0
end
