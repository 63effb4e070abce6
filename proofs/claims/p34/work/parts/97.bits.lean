-- needs: 96
noncomputable section
theorem cmp_f {x y : UInt32} {op : CmpOp} (hx : x.toNat ≤ 2139095040) (hy : y.toNat ≤ 2139095040) : (Op.cmpValue (FP.fcmp x y) op < 0 ↔ x.toNat < y.toNat) ∧ (0 < Op.cmpValue (FP.fcmp x y) op ↔ y.toNat < x.toNat) ∧ (0 ≤ Op.cmpValue (FP.fcmp x y) op ↔ y.toNat ≤ x.toNat) := by
  rw [fcmp_b hx hy, Nat.compare_eq_ite_lt]
  by_cases c1 : x.toNat < y.toNat
  · rw [if_pos c1]
    cases op <;> exact ⟨⟨fun _ => c1, fun _ => by decide⟩, ⟨fun q => absurd q (by decide), fun q => by omega⟩, ⟨fun q => absurd q (by decide), fun q => by omega⟩⟩
  · rw [if_neg c1]
    by_cases c2 : y.toNat < x.toNat
    · rw [if_pos c2]
      cases op <;> exact ⟨⟨fun q => absurd q (by decide), fun q => by omega⟩, ⟨fun _ => c2, fun _ => by decide⟩, ⟨fun _ => by omega, fun _ => by decide⟩⟩
    · rw [if_neg c2]
      cases op <;> exact ⟨⟨fun q => absurd q (by decide), fun q => by omega⟩, ⟨fun q => absurd q (by decide), fun q => by omega⟩, ⟨fun _ => by omega, fun _ => by decide⟩⟩
theorem p_of1 (d : Nat) {h : AH} {x0 : UInt32} {m E : Nat} (hm : m < 2 ^ 23) (hE : E < 255) {v : Option Value} {h' : AH} (K : ∀ y : UInt32, y.toNat = 127 * 2 ^ 23 + m → EvR d mX2_ofFloat 41 [(0, .float x0), (1, .float y), (2, .int (nI E))] [] h v h') : ∀ (n i e : Nat) (y : UInt32), e = 127 + i → e + n = E → y.toNat = (127 + n) * 2 ^ 23 + m → EvR d mX2_ofFloat 15 [(0, .float x0), (1, .float y), (2, .int (nI e)), (3, .int (nI i))] [] h v h' := by
  intro n
  induction n with
  | zero =>
    intro i e y e1 e2 e3
    have e2 : e = E := by omega
    subst e2
    have K1 := K y (by omega)
    have c : Op.cmpValue (FP.fcmp y 1073741824) .l < 0 := (cmp_f (by omega) (by decide)).1.mpr (by show _ < 1073741824; omega)
    iterate 2 refine er_s rfl ?_
    refine er_b rfl rfl (fun c18 => ?_) (fun c18 => ?_)
    · exact er_sub (sub3 rfl rfl rfl) K1
    · iterate 3 refine er_s rfl ?_
      refine er_b rfl rfl (fun _ => ?_) (fun q => absurd c q)
      exact er_sub (sub3 rfl rfl rfl) K1
  | succ n ih =>
    intro i e y e1 e2 e3
    have g1 : 0x40000000 ≤ y.toNat := by omega
    have g2 : y.toNat < 2139095040 := by omega
    have c : ¬ Op.cmpValue (FP.fcmp y 1073741824) .l < 0 := fun q => by
      have := (cmp_f (by omega) (by decide)).1.mp q
      have : y.toNat < 1073741824 := this
      omega
    have f := f_half g1 g2
    have IH := ih (i + 1) (e + 1) (FP.fmul y 0x3f000000) (by omega) (by omega) (by rw [f]; omega)
    iterate 2 refine er_s rfl ?_
    refine er_b rfl rfl (fun q => absurd q (nI_ge (b := 127) (by omega) (by decide))) (fun _ => ?_)
    iterate 3 refine er_s rfl ?_
    refine er_b rfl rfl (fun q => absurd q c) (fun _ => ?_)
    iterate 2 refine er_s rfl ?_
    refine er_fmul rfl (f_nn (by rw [f]; omega)) ?_
    iterate 3 refine er_s rfl ?_
    refine er_g rfl rfl ?_
    rw [nI_1, nI_1]
    exact er_sub (sub4 rfl rfl rfl rfl) IH
theorem p_of2 (d : Nat) {h : AH} {x0 : UInt32} {m E : Nat} (hm : m < 2 ^ 23) (hE0 : 1 ≤ E) (hE : E < 255) {v : Option Value} {h' : AH} (K : ∀ y : UInt32, y.toNat = 127 * 2 ^ 23 + m → EvR d mX2_ofFloat 68 [(0, .float x0), (1, .float y), (2, .int (nI E))] [] h v h') : ∀ (n i e : Nat) (y : UInt32), (n = 0 ∨ e + i = 127) → e = E + n → i + n < 127 → y.toNat = (127 - n) * 2 ^ 23 + m → n < 127 → EvR d mX2_ofFloat 43 [(0, .float x0), (1, .float y), (2, .int (nI e)), (3, .int (nI i))] [] h v h' := by
  intro n
  induction n with
  | zero =>
    intro i e y e1 e2 e4 e3 _
    have e2 : e = E := by omega
    subst e2
    have K1 := K y (by omega)
    have c : 0 ≤ Op.cmpValue (FP.fcmp y 1065353216) .g := (cmp_f (by omega) (by decide)).2.2.mpr (by show 1065353216 ≤ _; omega)
    iterate 2 refine er_s rfl ?_
    refine er_b rfl rfl (fun c46 => ?_) (fun c46 => ?_)
    · exact er_sub (sub3 rfl rfl rfl) K1
    · iterate 3 refine er_s rfl ?_
      refine er_b rfl rfl (fun _ => ?_) (fun q => absurd c q)
      exact er_sub (sub3 rfl rfl rfl) K1
  | succ n ih =>
    intro i e y e1 e2 e4 e3 e5
    have g1 : 2 ^ 23 ≤ y.toNat := by omega
    have g2 : y.toNat < 0x7f000000 := by omega
    have c : ¬ 0 ≤ Op.cmpValue (FP.fcmp y 1065353216) .g := fun q => by
      have := (cmp_f (by omega) (by decide)).2.2.mp q
      have : 1065353216 ≤ y.toNat := this
      omega
    have f := f_dbl g1 g2
    have em : nI e + -1 = nI (e - 1) := by
      have z := nI_m1 (c := e) (by omega)
      rw [Int32.sub_eq_add_neg] at z
      exact z
    have IH := ih (i + 1) (e - 1) (FP.fmul y 0x40000000) (by omega) (by omega) (by omega) (by rw [f]; omega) (by omega)
    iterate 2 refine er_s rfl ?_
    refine er_b rfl rfl (fun q => absurd q (nI_ge (b := 126) (by omega) (by decide))) (fun _ => ?_)
    iterate 3 refine er_s rfl ?_
    refine er_b rfl rfl (fun q => absurd q c) (fun _ => ?_)
    iterate 2 refine er_s rfl ?_
    refine er_fmul rfl (f_nn (by rw [f]; omega)) ?_
    iterate 3 refine er_s rfl ?_
    refine er_g rfl rfl ?_
    rw [nI_1, em]
    exact er_sub (sub4 rfl rfl rfl rfl) IH
theorem p_of3 (d : Nat) {h : AH} {x0 : UInt32} {m E : Nat} (hm : m < 2 ^ 23) (hE : E < 255) {y : UInt32} (hy : y.toNat = 127 * 2 ^ 23 + m) : EvR d mX2_ofFloat 68 [(0, .float x0), (1, .float y), (2, .int (nI E))] [] h (some (.int (Int32.ofNat (E * 2 ^ 23 + m)))) h := by
  obtain ⟨a1, a2, a3⟩ := f_man (x := y) (by omega) (by omega)
  have a4 : FP.f2i (FP.fmul (FP.fsub y 0x3f800000) 0x4b000000) = Int32.ofNat m := by
    rw [a3, show y.toNat - 0x3f800000 = m by rw [hy]; omega]
  have B := bits_or (E := E) hm (by omega)
  iterate 5 refine er_s rfl ?_
  refine er_fsub rfl (f_nn (Nat.le_of_lt a1)) ?_
  refine er_s rfl ?_
  refine er_fmul rfl (f_nn (Nat.le_of_lt a2)) ?_
  iterate 2 refine er_s rfl ?_
  refine er_q rfl ?_ ?_
  · (show some (Value.int ((nI E <<< (23 &&& 31)) ||| FP.f2i (FP.fmul (FP.fsub y 0x3f800000) 0x4b000000))) = _)
    rw [a4]
    exact congrArg (fun x => some (Value.int x)) B
  · rfl
/-- the bits of a number, found by arithmetic -/
theorem p_ofFloat (d : Nat) (h : AH) {x : UInt32} (hx : x.toNat = 0 ∨ 2 ^ 23 ≤ x.toNat) (hx2 : x.toNat < 2139095040) : EvM d mX2_ofFloat [.float x] h (some (.int x.toInt32)) h := by
  rcases hx with h0 | h1
  · have e0 : x = 0 := UInt32.toNat_inj.mp h0
    subst e0
    have c : ¬ 0 < Op.cmpValue (FP.fcmp 0 0) .l := fun q => by
      have := (cmp_f (x := 0) (y := 0) (by decide) (by decide)).2.1.mp q
      exact absurd this (by decide)
    show EvR _ _ 0 [(0, _)] [] _ _ _
    iterate 3 refine er_s rfl ?_
    refine er_b rfl rfl (fun q => absurd q c) (fun _ => ?_)
    refine er_s rfl ?_
    refine er_q rfl ?_ ?_
    · rfl
    · rfl
  · have c : 0 < Op.cmpValue (FP.fcmp x 0) .l := (cmp_f (by omega) (by decide)).2.1.mpr (by show 0 < _; omega)
    obtain ⟨E, m, e1, e2⟩ : ∃ E m, m < 2 ^ 23 ∧ x.toNat = E * 2 ^ 23 + m := ⟨x.toNat / 2 ^ 23, x.toNat % 2 ^ 23, Nat.mod_lt _ (by decide), by omega⟩
    have hE1 : 1 ≤ E := by omega
    have hE2 : E < 255 := by omega
    have ex : x.toInt32 = Int32.ofNat (E * 2 ^ 23 + m) := by
      rw [← e2]
      apply Int32.toBitVec_inj.mp
      apply BitVec.eq_of_toNat_eq
      rw [Int32.toBitVec_ofNat', BitVec.toNat_ofNat]
      show x.toNat = _
      omega
    rw [ex]
    have K3 := fun y hy => p_of3 d (h := h) (x0 := x) (y := y) e1 hE2 hy
    have K1 : ∀ y : UInt32, y.toNat = 127 * 2 ^ 23 + m → EvR d mX2_ofFloat 41 [(0, .float x), (1, .float y), (2, .int (nI E))] [] h (some (.int (Int32.ofNat (E * 2 ^ 23 + m)))) h := fun y hy => by
      have L2 := p_of2 d (h := h) (x0 := x) e1 hE1 hE2 K3 0 0 E y (Or.inl rfl) rfl (by decide) (by omega) (by decide)
      iterate 2 refine er_s rfl ?_
      exact er_sub (sub4 rfl rfl rfl rfl) L2
    by_cases cE : 127 ≤ E
    · obtain ⟨n, hn⟩ : ∃ n, E = 127 + n := ⟨E - 127, by omega⟩
      have L1 := p_of1 d (h := h) (x0 := x) e1 hE2 K1 n 0 127 x (Nat.add_zero 127).symm hn.symm (by rw [e2, hn])
      show EvR _ _ 0 [(0, _)] [] _ _ _
      iterate 3 refine er_s rfl ?_
      refine er_b rfl rfl (fun _ => ?_) (fun q => absurd c q)
      iterate 6 refine er_s rfl ?_
      exact er_sub (sub4 rfl rfl rfl rfl) L1
    · obtain ⟨n, hn, hn2⟩ : ∃ n, 127 = E + n ∧ 127 - n = E := ⟨127 - E, by omega, by omega⟩
      have L2 := p_of2 d (h := h) (x0 := x) e1 hE1 hE2 K3 n 0 127 x (Or.inr (Nat.add_zero 127)) hn (by omega) (by rw [e2, hn2]) (by omega)
      have c2 : Op.cmpValue (FP.fcmp x 1073741824) .l < 0 := (cmp_f (by omega) (by decide)).1.mpr (by show _ < 1073741824; omega)
      show EvR _ _ 0 [(0, _)] [] _ _ _
      iterate 3 refine er_s rfl ?_
      refine er_b rfl rfl (fun _ => ?_) (fun q => absurd c q)
      iterate 8 refine er_s rfl ?_
      refine er_b rfl rfl (fun q => absurd q (by decide)) (fun _ => ?_)
      iterate 3 refine er_s rfl ?_
      refine er_b rfl rfl (fun _ => ?_) (fun q => absurd c2 q)
      iterate 2 refine er_s rfl ?_
      exact er_sub (sub4 rfl rfl rfl rfl) L2
end
