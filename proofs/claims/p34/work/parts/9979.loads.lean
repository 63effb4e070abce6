noncomputable section
theorem ti_ti (x : UInt32) : x.toInt32.toUInt32 = x := rfl
theorem sni_ok {x : UInt32} (hx : x.toNat ≤ 2139095040) : vn_sni2f x.toInt32 = false := by
  have z : x &&& 0x7fffffff ≤ 0x7f800000 := f_nn hx
  unfold vn_sni2f
  rw [ti_ti]
  have g : ¬ (x &&& 0x7fffffff > 0x7f800000) := UInt32.not_lt.mpr z
  rw [show decide (x &&& 0x7fffffff > 0x7f800000) = false from decide_eq_false g, Bool.false_and]
section
variable {r : Nat → Int32} {w : Nat → UInt32} {B : Nat}
theorem load_0 {k : Nat} (h : k < 2 ^ 31) : loadV r w (nI k) 0 = LDw r w k := by
  unfold loadV
  rw [if_pos rfl, cl k]
theorem load_1 {k : Nat} (h : k < 2 ^ 31) : loadV r w (nI k) 1 = bornR r w k := by
  unfold loadV
  rw [if_neg (by decide), cl k]
theorem qt_le (hw : Wel r) (hm : MasW r w) {b : Nat} (hb : b < CN r) (hs : ofB r b 2 = 1) : (qtF r w b).toNat ≤ 2139095040 := by
  have h1 := LDw_ok hw hm hb
  have ho := (hw.2.2 b hb).2 hs
  have h2 := born_ok (kd := KD r b) (hm b hb hs) (show JT r b < 10 by have := ho.2.2.2.2.2; omega)
  exact (fdiv_b h1.1 h2.2.1 (Nat.lt_of_lt_of_le (by decide) h2.2.2.1)).1
theorem wst_max (hw : Wel r) (hm : MasW r w) : ∀ n, n ≤ CN r → ∀ b, wstN r w n = some b → ∀ k, k < n → ofB r k 2 = 1 → (qtF r w k).toNat ≤ (qtF r w b).toNat ∧ (k < b → (qtF r w k).toNat < (qtF r w b).toNat)
  | 0, _, b, h, _, _, _ => nomatch h
  | n + 1, hn, b, h, k, hk, hks => by
    have e : wstN r w (n + 1) = wstS r w n (wstN r w n) := rfl
    rw [e] at h
    unfold wstS at h
    by_cases c1 : ofB r n 2 = 1
    · rw [if_pos c1] at h
      cases hs : wstN r w n with
      | none =>
        rw [hs] at h
        cases h
        by_cases ek : k = n
        · subst ek
          exact ⟨Nat.le_refl _, fun z => absurd z (Nat.lt_irrefl _)⟩
        · exact absurd hks (wst_none n hs k (by omega))
      | some b0 =>
        rw [hs] at h
        obtain ⟨b1, b2⟩ := wstN_ok n b0 hs
        have IH := wst_max hw hm n (by omega) b0 hs
        have qn := qt_le hw hm (b := n) (by omega) c1
        have qb := qt_le hw hm (b := b0) (by omega) b2
        have cc := (cmp_f (op := .l) qn qb).2.1
        dsimp at h
        split at h
        · next z =>
          cases h
          have z := cc.mp z
          by_cases ek : k = n
          · subst ek
            exact ⟨Nat.le_refl _, fun z => absurd z (Nat.lt_irrefl _)⟩
          · have := (IH k (by omega) hks).1
            exact ⟨by omega, fun _ => by omega⟩
        · next z =>
          cases h
          have z : ¬ _ := fun y => z (cc.mpr y)
          by_cases ek : k = n
          · subst ek
            exact ⟨by omega, fun y => by omega⟩
          · exact IH k (by omega) hks
    · rw [if_neg c1] at h
      have hb := wstN_ok n b h
      by_cases ek : k = n
      · subst ek
        exact absurd hks c1
      · exact wst_max hw hm n (by omega) b h k (by omega) hks
theorem born_2 {x : UInt32} {kd j : Nat} (hw : mOk x) (hj : j < 10) : (FP.fmul 0x40000000 x).toNat < 2139095040 ∧ (FP.fmul 0x40000000 x).toNat ≤ (bornF x kd j).toNat := by
  obtain ⟨-, j1, j2⟩ := joint_ok j (List.mem_range.mpr hj)
  obtain ⟨b1, -⟩ := born_ok (kd := kd) hw hj
  have h1 : 1065353216 ≤ x.toNat := hw.1
  have h2 : x.toNat ≤ 1135869952 := hw.2
  have e1 : fU (0x40000000 : UInt32).toNat = 2 ^ 150 := fU_2 (K := 128) (by decide)
  have e3 : fU (0x40800000 : UInt32).toNat = 2 ^ 151 := fU_2 (K := 129) (by decide)
  have e2 : fU (x.toNat + 2 ^ 23) = 2 * fU x.toNat := fU_s (by omega)
  have u : (FP.fmul 0x40000000 x).toNat ≤ x.toNat + 2 ^ 23 := (fmul_b (x := 0x40000000) (y := x) (by decide) (by omega)).2.1 _ (by rw [e1, e2]; omega)
  have lo : x.toNat + 2 ^ 23 ≤ (FP.fmul x (if kd = 0 then 0x40800000 else 0x40000000)).toNat := by
    split
    · exact (fmul_b (x := x) (y := 0x40800000) (by omega) (by decide)).2.2 _ (by omega) (by rw [e3, e2]; omega)
    · exact (fmul_b (x := x) (y := 0x40000000) (by omega) (by decide)).2.2 _ (by omega) (by rw [e1, e2]; omega)
  have b3 := f_mul2 b1 j1 (Nat.lt_of_le_of_lt j2 (by decide))
  exact ⟨by omega, Nat.le_trans u (Nat.le_trans lo b3)⟩
theorem hgt_ge {c j : Nat} (h : 0 ≤ gAt r c j) : ∀ n, c < n → c + 1 ≤ hgtN r j n
  | 0, hc => absurd hc (by omega)
  | n + 1, hc => by
    show c + 1 ≤ if 0 ≤ gAt r n j then n + 1 else hgtN r j n
    split
    · omega
    · next z =>
      by_cases e : c = n
      · exact absurd (e ▸ h) z
      · exact hgt_ge h n (by omega)
theorem shad_0 {k : Nat} : shadR r k 0 = true := rfl
theorem shad_18 {k : Nat} : shadR r k 18 = true := rfl
theorem shad_611 {k : Nat} : shadR r k 6 = shadR r k 11 := rfl
theorem wm_dbits (d : Nat) {x : UInt64} (hx : x.toNat ≤ 9218868437227405312) (h : AH) : WM (d + 1) mJxe99ae_doubleToLongBits_ccdee [.double x] h (fun v h' => v = some (.long x.toInt64) ∧ h' = h) := ⟨_, _, f_dbits d hx h, rfl, rfl⟩
end
section
variable {p : Program} {l : Launch} {e : Env} {R : Room} {s : State} {m : MethodId} {args : Array Value} {below : List Frame} {meth : Method} {c : Code} {Q : State → Prop} {mi dR KC : Nat} {D : va_G} {ca : Nat → ClassId} {ad0 ad : Nat → Nat} {A : Nat → Prop} {E : EX} {G : Nat → Nat → Int32} {kc pc pc' nx r1 r2 r3 : Nat} {lc lc' : LC} {st st' : List Value} {h h2 : AH} {ins : Instr} {w : Value}
theorem wl_fdiv {x y : UInt32} (hc : cdT mi pc = some (0, .fdiv, nx, r1, r2, r3, w)) (hn : nn (FP.fdiv x y)) (K : WL p l e R s m args below meth c Q mi dR KC D ca ad0 A ad E G kc nx lc (.float (FP.fdiv x y) :: st) h) : WL p l e R s m args below meth c Q mi dR KC D ca ad0 A ad E G kc pc lc (.float y :: .float x :: st) h := by
  refine wl_s (pc' := nx) (lc' := lc) (st' := .float (FP.fdiv x y) :: st) ?_ (by rw [hc]; rfl) K
  unfold stp
  simp only [hc, stA]
  rw [if_pos hn]
theorem wl_fmul {x y : UInt32} (hc : cdT mi pc = some (0, .fmul, nx, r1, r2, r3, w)) (hn : nn (FP.fmul x y)) (K : WL p l e R s m args below meth c Q mi dR KC D ca ad0 A ad E G kc nx lc (.float (FP.fmul x y) :: st) h) : WL p l e R s m args below meth c Q mi dR KC D ca ad0 A ad E G kc pc lc (.float y :: .float x :: st) h := by
  refine wl_s (pc' := nx) (lc' := lc) (st' := .float (FP.fmul x y) :: st) ?_ (by rw [hc]; rfl) K
  unfold stp
  simp only [hc, stA]
  rw [if_pos hn]
theorem wl_f2d {x : UInt32} (hc : cdT mi pc = some (0, .f2d, nx, r1, r2, r3, w)) (hn : nnD (FP.f2d x)) (K : WL p l e R s m args below meth c Q mi dR KC D ca ad0 A ad E G kc nx lc (.double (FP.f2d x) :: st) h) : WL p l e R s m args below meth c Q mi dR KC D ca ad0 A ad E G kc pc lc (.float x :: st) h := by
  refine wl_s (pc' := nx) (lc' := lc) (st' := .double (FP.f2d x) :: st) ?_ (by rw [hc]; rfl) K
  unfold stp
  simp only [hc, stA]
  rw [if_pos hn]
theorem wl_dadd {x y : UInt64} (hc : cdT mi pc = some (0, .dadd, nx, r1, r2, r3, w)) (hn : nnD (FP.dadd x y)) (K : WL p l e R s m args below meth c Q mi dR KC D ca ad0 A ad E G kc nx lc (.double (FP.dadd x y) :: st) h) : WL p l e R s m args below meth c Q mi dR KC D ca ad0 A ad E G kc pc lc (.double y :: .double x :: st) h := by
  refine wl_s (pc' := nx) (lc' := lc) (st' := .double (FP.dadd x y) :: st) ?_ (by rw [hc]; rfl) K
  unfold stp
  simp only [hc, stA]
  rw [if_pos hn]
theorem wl_ddiv {x y : UInt64} (hc : cdT mi pc = some (0, .ddiv, nx, r1, r2, r3, w)) (hn : nnD (FP.ddiv x y)) (K : WL p l e R s m args below meth c Q mi dR KC D ca ad0 A ad E G kc nx lc (.double (FP.ddiv x y) :: st) h) : WL p l e R s m args below meth c Q mi dR KC D ca ad0 A ad E G kc pc lc (.double y :: .double x :: st) h := by
  refine wl_s (pc' := nx) (lc' := lc) (st' := .double (FP.ddiv x y) :: st) ?_ (by rw [hc]; rfl) K
  unfold stp
  simp only [hc, stA]
  rw [if_pos hn]
end
end
