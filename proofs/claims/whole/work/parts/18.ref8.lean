-- needs: 17
noncomputable section
/-- a mass in the hour: at most 360, or below 0 -/
def hOk (x : UInt32) : Prop := x.toNat < 2139095040 ∨ 2 ^ 31 ≤ x.toNat ∧ x.toNat ≤ 2 ^ 31 + 2139095040
def sunF (s : Bool) (t : Int32) : UInt32 := FP.fsub 0x3f800000 (FP.fmul (if s = true then 0x3ba3d70a else 0x3c23d70a) (FP.i2f t))
def meltA (x : UInt32) (s : Bool) (t : Int32) : UInt32 := if 0 < t then FP.fmul x (sunF s t) else x
def warmA (x : UInt32) (cu v : Int32) : UInt32 := if cu < 2 then FP.fsub x (FP.fmul 0x3dcccccd (FP.i2f v)) else x
theorem melt_ok {x : UInt32} {s : Bool} {t : Int32} (hx : mOk x) (ht : 0 < t → t ≤ 20) : (0 < t → nn (FP.fmul (if s = true then 0x3ba3d70a else 0x3c23d70a) (FP.i2f t)) ∧ nn (sunF s t) ∧ nn (FP.fmul x (sunF s t))) ∧ (meltA x s t).toNat ≤ 0x43b40000 := by
  unfold meltA
  by_cases h0 : 0 < t
  · obtain ⟨n, hn, rfl⟩ := nI_of2 (M := 20) (n := 20) rfl (fun q => Int32.lt_irrefl (Int32.lt_trans q h0)) (ht h0)
    obtain ⟨a1, a2, a3, a4⟩ := sun_ok n (List.mem_range.mpr (by omega))
    have b : (FP.fmul (if s = true then 0x3ba3d70a else 0x3c23d70a) (FP.i2f (nI n))).toNat < 2139095040 ∧ (sunF s (nI n)).toNat ≤ 0x3f800000 := by
      unfold sunF
      cases s
      · exact ⟨a1, a3⟩
      · exact ⟨a2, a4⟩
    have c := f_mul1 (f := sunF s (nI n)) hx.fin b.2
    have c2 := hx.2
    rw [if_pos h0]
    exact ⟨fun _ => ⟨nn_of b.1, nn_of (Nat.lt_of_le_of_lt b.2 (by decide)), nn_of (Nat.lt_of_le_of_lt c hx.fin)⟩, Nat.le_trans c c2⟩
  · rw [if_neg h0]
    exact ⟨fun q => absurd q h0, hx.2⟩
theorem nn_2 {x : UInt32} (h : hOk x) : nn x := by
  rcases h with h | ⟨h1, h2⟩
  · exact nn_of h
  · exact f_nn2 h1 h2
theorem warm_ok2 {x : UInt32} {cu v : Int32} (hx : x.toNat ≤ 0x43b40000) (hv : ∃ n, n ≤ 50 ∧ v = nI n) : nn (FP.fmul 0x3dcccccd (FP.i2f v)) ∧ nn (FP.fsub x (FP.fmul 0x3dcccccd (FP.i2f v))) ∧ hOk (warmA x cu v) ∧ (0x3f800000 ≤ (warmA x cu v).toNat → (warmA x cu v).toNat < 2139095040 → mOk (warmA x cu v)) := by
  obtain ⟨n, hn, rfl⟩ := hv
  have a : (FP.fmul 0x3dcccccd (FP.i2f (nI n))).toNat < 2139095040 := warm_ok n (List.mem_range.mpr (by omega))
  have hx9 : x.toNat < 2139095040 := Nat.lt_of_le_of_lt hx (by decide)
  have b : hOk (FP.fsub x (FP.fmul 0x3dcccccd (FP.i2f (nI n)))) ∧ ((FP.fsub x (FP.fmul 0x3dcccccd (FP.i2f (nI n)))).toNat < 2139095040 → (FP.fsub x (FP.fmul 0x3dcccccd (FP.i2f (nI n)))).toNat ≤ x.toNat) := by
    by_cases h : (FP.fmul 0x3dcccccd (FP.i2f (nI n))).toNat ≤ x.toNat
    · have := (fsub_b hx9 a h).1 x.toNat (Nat.sub_le _ _)
      exact ⟨Or.inl (by omega), fun _ => this⟩
    · have := fsub_n hx9 a (by omega)
      exact ⟨Or.inr this, fun q => by omega⟩
  refine ⟨nn_of a, nn_2 b.1, ?_, fun q1 q2 => ⟨q1, ?_⟩⟩
  · unfold warmA
    split
    · exact b.1
    · exact Or.inl hx9
  · unfold warmA at q2 ⊢
    split
    · next h => rw [if_pos h] at q2; exact Nat.le_trans (b.2 q2) hx
    · exact hx
def meltS (r : Nat → Int32) (sh : Nat → Int32) (t : Int32) (k : Nat) (w : Nat → UInt32) : Nat → UInt32 := if decide (ofB r k 2 = 1) = true then vf_upd w k (warmA (meltA (w k) (decide (sh k ≠ 0)) t) (ofB r k 4) (r 3)) else w
def meltW (r : Nat → Int32) (sh : Nat → Int32) (t : Int32) (n : Nat) (w : Nat → UInt32) : Nat → UInt32 := iterN (meltS r sh t) n w
theorem meltW_ge {r sh : Nat → Int32} {t : Int32} {w : Nat → UInt32} : ∀ n k, n ≤ k → meltW r sh t n w k = w k
  | 0, k, _ => rfl
  | n + 1, k, h => by
    show meltS r sh t n (meltW r sh t n w) k = w k
    unfold meltS
    split
    · show (if k = n then _ else _) = _
      rw [if_neg (by omega)]
      exact meltW_ge n k (by omega)
    · exact meltW_ge n k (by omega)
theorem meltW_lt {r sh : Nat → Int32} {t : Int32} {w : Nat → UInt32} {n k : Nat} (h : k < n) : meltW r sh t n w k = if ofB r k 2 = 1 then warmA (meltA (w k) (decide (sh k ≠ 0)) t) (ofB r k 4) (r 3) else w k := by
  induction n with
  | zero => exact absurd h (Nat.not_lt_zero k)
  | succ n ih =>
    show meltS r sh t n (meltW r sh t n w) k = _
    by_cases hk : k = n
    · subst hk
      unfold meltS
      by_cases hs : ofB r k 2 = 1
      · rw [if_pos (decide_eq_true hs), if_pos hs, meltW_ge k k (Nat.le_refl k)]
        exact if_pos rfl
      · rw [if_neg (fun q => hs (of_decide_eq_true q)), if_neg hs, meltW_ge k k (Nat.le_refl k)]
    · have e : meltS r sh t n (meltW r sh t n w) k = meltW r sh t n w k := by
        unfold meltS
        split
        · exact if_neg hk
        · rfl
      rw [e]
      exact ih (by omega)
/-- below 1 -/
def lt1 (x : UInt32) : Bool := decide (¬ 0 ≤ Op.cmpValue (FP.fcmp x 0x3f800000) .g)
def remS (w : Nat → UInt32) (k : Nat) (r : Nat → Int32) : Nat → Int32 := if (decide (ofB r k 2 = 1) && lt1 (w k)) = true then goesR r k 2 else r
def remR (w : Nat → UInt32) (n : Nat) (r : Nat → Int32) : Nat → Int32 := iterN (remS w) n r
def WC (r0 r : Nat → Int32) : Prop := Wel r ∧ CN r = CN r0 ∧ ∀ i, i < 29 → r i = r0 i
theorem WC.goes {r0 r : Nat → Int32} {k : Nat} {y : Int32} (h : WC r0 r) (hk : k < CN r0) : WC r0 (goesR r k y) := ⟨goesR_Wel h.1 (by rw [h.2.1]; exact hk), by rw [goesR_CN]; exact h.2.1, fun i hi => by rw [goesR_hd hi]; exact h.2.2 i hi⟩
theorem remR_WC {r0 r : Nat → Int32} {w : Nat → UInt32} (h : WC r0 r) : ∀ n, n ≤ CN r0 → WC r0 (remR w n r) :=
  iterN_inv (I := fun _ t => WC r0 t) h (fun k t hk ht => by
    unfold remS
    split
    · exact ht.goes hk
    · exact ht)
theorem WC.rf {r : Nat → Int32} (h : Wel r) : WC r r := ⟨h, rfl, fun _ _ => rfl⟩
theorem WC.tr {a b c : Nat → Int32} (h : WC a b) (h2 : WC b c) : WC a c := ⟨h2.1, h2.2.1.trans h.2.1, fun i hi => (h2.2.2 i hi).trans (h.2.2 i hi)⟩
theorem f_melt2 (d : Nat) (t : Int32) (h : AH) (w : Nat → UInt32) (r : Nat → Int32) (hw : Wel r) : ∀ (m k : Nat), k + m = CN r → EvR (d + 3) mX11_melt 117 [(0, .ref 0), (1, .int t), (2, .int (nI k))] [] (setR h (remR w k r) w) none (setR h (remR w (CN r) r) w)
  | 0, k, hk => by
    have hk : k = CN r := by omega
    have h40 := hw.2.1
    have hc := remR_WC (w := w) (WC.rf hw) (CN r) (Nat.le_refl _)
    subst hk
    iterate 4 refine er_s rfl ?_
    refine er_il rfl rfl (vi (k := 4)) ?_
    rw [k4, setR_1, hc.1.1, hc.2.1]
    refine er_b rfl rfl (fun _ => ?_) (fun q => absurd (Int32.le_refl _) q)
    refine er_q rfl ?_ ?_
    · rfl
    · rfl
  | m + 1, k, hk => by
    have h40 := hw.2.1
    have IH := f_melt2 d t h w r hw m (k + 1) (by omega)
    have es : remR w (k + 1) r = if (decide (ofB (remR w k r) k 2 = 1) && lt1 (w k)) = true then goesR (remR w k r) k 2 else remR w k r := rfl
    rw [es] at IH
    have hc := remR_WC (w := w) (WC.rf hw) k (by omega)
    obtain ⟨lk, pk⟩ := hc.1.2.2 k (by rw [hc.2.1]; omega)
    have G := f_goes (d + 0) (b := k) (by omega) 2 (setR h (remR w k r) w) (by rw [setR_1]; exact lk) (by rw [setR_1]; exact pk)
    rw [setR_1, setR_5, setR_R] at G
    by_cases hs : ofB (remR w k r) k 2 = 1
    · by_cases hl : lt1 (w k) = true
      · rw [if_pos (by rw [decide_eq_true hs, hl]; rfl)] at IH
        iterate 4 refine er_s rfl ?_
        refine er_il rfl rfl (vi (k := 4)) ?_
        rw [k4, setR_1, hc.1.1, hc.2.1]
        refine er_b rfl rfl (fun q => absurd q (nI_ge (by omega) (by omega))) (fun _ => ?_)
        iterate 2 refine er_s rfl ?_
        refine er_c rfl rfl ⟨Nat.le_of_ble_eq_true rfl, Nat.le_of_ble_eq_true rfl⟩ (f_isOnWall _ (b := k) (by omega) _) ?_
        refine er_b rfl rfl (fun q => absurd q (fun q => absurd (bI_eq.mp q) (fun z => z (by rw [setR_1]; exact hs)))) (fun _ => ?_)
        iterate 3 refine er_s rfl ?_
        refine er_fl rfl rfl (vi) ?_
        rw [setR_5, cl k]
        iterate 2 refine er_s rfl ?_
        refine er_b rfl rfl (fun q => absurd q (of_decide_eq_true hl)) (fun _ => ?_)
        iterate 3 refine er_s rfl ?_
        refine er_c rfl rfl ⟨Nat.le_of_ble_eq_true rfl, Nat.le_of_ble_eq_true rfl⟩ (G) ?_
        refine er_s rfl ?_
        refine er_g rfl rfl ?_
        rw [nI_1]
        exact er_sub (sub3 rfl rfl rfl) IH
      · rw [if_neg (by rw [Bool.eq_false_iff.mpr hl, Bool.and_false]; decide)] at IH
        iterate 4 refine er_s rfl ?_
        refine er_il rfl rfl (vi (k := 4)) ?_
        rw [k4, setR_1, hc.1.1, hc.2.1]
        refine er_b rfl rfl (fun q => absurd q (nI_ge (by omega) (by omega))) (fun _ => ?_)
        iterate 2 refine er_s rfl ?_
        refine er_c rfl rfl ⟨Nat.le_of_ble_eq_true rfl, Nat.le_of_ble_eq_true rfl⟩ (f_isOnWall _ (b := k) (by omega) _) ?_
        refine er_b rfl rfl (fun q => absurd q (fun q => absurd (bI_eq.mp q) (fun z => z (by rw [setR_1]; exact hs)))) (fun _ => ?_)
        iterate 3 refine er_s rfl ?_
        refine er_fl rfl rfl (vi) ?_
        rw [setR_5, cl k]
        iterate 2 refine er_s rfl ?_
        refine er_b rfl rfl (fun _ => ?_) (fun q => absurd (Decidable.not_not.mp (fun q => hl (decide_eq_true q))) q)
        refine er_s rfl ?_
        refine er_g rfl rfl ?_
        rw [nI_1]
        exact er_sub (sub3 rfl rfl rfl) IH
    · rw [if_neg (by rw [decide_eq_false hs, Bool.false_and]; decide)] at IH
      iterate 4 refine er_s rfl ?_
      refine er_il rfl rfl (vi (k := 4)) ?_
      rw [k4, setR_1, hc.1.1, hc.2.1]
      refine er_b rfl rfl (fun q => absurd q (nI_ge (by omega) (by omega))) (fun _ => ?_)
      iterate 2 refine er_s rfl ?_
      refine er_c rfl rfl ⟨Nat.le_of_ble_eq_true rfl, Nat.le_of_ble_eq_true rfl⟩ (f_isOnWall _ (b := k) (by omega) _) ?_
      refine er_b rfl rfl (fun _ => ?_) (fun q => absurd (bI_eq.mpr (by rw [setR_1]; exact hs)) q)
      refine er_s rfl ?_
      refine er_g rfl rfl ?_
      rw [nI_1]
      exact er_sub (sub3 rfl rfl rfl) IH
theorem hF_5 (h : AH) (r : Nat → Int32) (w : Nat → UInt32) (k : Nat) (x : UInt32) : hF (setR h r w) 5 k x = setR h r (vf_upd w k x) := by rw [hF_R, setR_1, setR_5, setR_R]
theorem vfu_2 {w : Nat → UInt32} {k : Nat} {x y : UInt32} : vf_upd (vf_upd w k x) k y = vf_upd w k y := by
  funext j
  unfold vf_upd
  by_cases h : j = k
  · rw [if_pos h, if_pos h]
  · rw [if_neg h, if_neg h, if_neg h]
theorem vfu_e {w : Nat → UInt32} {k : Nat} {x : UInt32} : vf_upd w k x k = x := if_pos rfl
theorem vfu_s {w : Nat → UInt32} {k : Nat} : vf_upd w k (w k) = w := by
  funext j
  unfold vf_upd
  by_cases h : j = k
  · rw [if_pos h, h]
  · rw [if_neg h]
theorem f_melt1 (d : Nat) (t : Int32) (h : AH) (hw : Wel (h.1 1)) (hm : MasW (h.1 1) (h.2.1 5)) (ht : 0 < t → t ≤ 20) (hv : ∃ n, n ≤ 50 ∧ h.1 1 3 = nI n) {h' : AH} (K : EvR (d + 3) mX11_melt 115 [(0, .ref 0), (1, .int t)] [] (setR h (h.1 1) (meltW (h.1 1) (h.1 28) t (CN (h.1 1)) (h.2.1 5))) none h') : ∀ (m k : Nat), k + m = CN (h.1 1) → EvR (d + 3) mX11_melt 2 [(0, .ref 0), (1, .int t), (2, .int (nI k))] [] (setR h (h.1 1) (meltW (h.1 1) (h.1 28) t k (h.2.1 5))) none h'
  | 0, k, hk => by
    have hk : k = CN (h.1 1) := by omega
    have h40 := hw.2.1
    subst hk
    iterate 4 refine er_s rfl ?_
    refine er_il rfl rfl (vi (k := 4)) ?_
    rw [k4, setR_1, hw.1]
    refine er_b rfl rfl (fun _ => ?_) (fun q => absurd (Int32.le_refl _) q)
    exact er_sub (sub2 rfl rfl) K
  | m + 1, k, hk => by
    have h40 := hw.2.1
    have IH := f_melt1 d t h hw hm ht hv K m (k + 1) (by omega)
    have es : meltW (h.1 1) (h.1 28) t (k + 1) (h.2.1 5) = if decide (ofB (h.1 1) k 2 = 1) = true then vf_upd (meltW (h.1 1) (h.1 28) t k (h.2.1 5)) k (warmA (meltA (meltW (h.1 1) (h.1 28) t k (h.2.1 5) k) (decide (h.1 28 k ≠ 0)) t) (ofB (h.1 1) k 4) (h.1 1 3)) else meltW (h.1 1) (h.1 28) t k (h.2.1 5) := rfl
    rw [es] at IH
    by_cases hs : ofB (h.1 1) k 2 = 1
    · rw [if_pos (decide_eq_true hs)] at IH
      have hx := hm k (by omega) hs
      have ek := meltW_ge (r := h.1 1) (sh := h.1 28) (t := t) (w := h.2.1 5) k k (Nat.le_refl k)
      obtain ⟨m1, m2⟩ := melt_ok (s := decide (h.1 28 k ≠ 0)) hx ht
      obtain ⟨v1, v2, -, -⟩ := warm_ok2 (cu := ofB (h.1 1) k 4) m2 hv
      generalize hW : meltW (h.1 1) (h.1 28) t k (h.2.1 5) = W at IH ek ⊢
      rw [ek] at IH
      have C : ∀ x : UInt32, x = meltA (h.2.1 5 k) (decide (h.1 28 k ≠ 0)) t → EvR (d + 3) mX11_melt 67 [(0, .ref 0), (1, .int t), (2, .int (nI k))] [] (setR h (h.1 1) (vf_upd W k x)) none h' := by
        intro x hx
        rw [← hx] at IH v2
        unfold warmA at IH
        by_cases hc : ofB (h.1 1) k 4 < 2
        · rw [if_pos hc] at IH
          iterate 6 refine er_s rfl ?_
          refine er_c rfl rfl ⟨Nat.le_of_ble_eq_true rfl, Nat.le_of_ble_eq_true rfl⟩ (f_of _ (b := k) (by omega) (x := 4) (by omega) _) ?_
          refine er_s rfl ?_
          refine er_b rfl rfl (fun q => absurd q (fun q => absurd hc (Int32.not_lt.mpr (by rw [setR_1] at q; exact q)))) (fun _ => ?_)
          iterate 3 refine er_s rfl ?_
          refine er_fl rfl rfl (vi) ?_
          rw [setR_5, cl k, vfu_e]
          iterate 4 refine er_s rfl ?_
          refine er_il rfl rfl (vi (k := 3)) ?_
          rw [k3, setR_1]
          refine er_s rfl ?_
          refine er_fmul rfl v1 ?_
          refine er_fsub rfl v2 ?_
          refine er_g rfl rfl ?_
          refine er_fs rfl rfl (vi) ?_
          refine er_s rfl ?_
          refine er_g rfl rfl ?_
          rw [nI_1, cl k, hF_5, vfu_2]
          exact er_sub (sub3 rfl rfl rfl) IH
        · rw [if_neg hc] at IH
          iterate 6 refine er_s rfl ?_
          refine er_c rfl rfl ⟨Nat.le_of_ble_eq_true rfl, Nat.le_of_ble_eq_true rfl⟩ (f_of _ (b := k) (by omega) (x := 4) (by omega) _) ?_
          refine er_s rfl ?_
          refine er_b rfl rfl (fun _ => ?_) (fun q => absurd (by rw [setR_1]; exact Int32.not_lt.mp hc) q)
          iterate 3 refine er_s rfl ?_
          refine er_fl rfl rfl (vi) ?_
          rw [setR_5, cl k, vfu_e]
          refine er_fs rfl rfl (vi) ?_
          refine er_s rfl ?_
          refine er_g rfl rfl ?_
          rw [nI_1, cl k, hF_5, vfu_2]
          exact er_sub (sub3 rfl rfl rfl) IH
      unfold meltA at C
      by_cases h0 : 0 < t
      · rw [if_pos h0] at C
        obtain ⟨n1, n2, n3⟩ := m1 h0
        unfold sunF at n2 n3 C
        by_cases hz : h.1 28 k = 0
        · rw [decide_eq_false (fun q => q hz), if_neg (by decide)] at n1 n2 n3 C
          iterate 4 refine er_s rfl ?_
          refine er_il rfl rfl (vi (k := 4)) ?_
          rw [k4, setR_1, hw.1]
          refine er_b rfl rfl (fun q => absurd q (nI_ge (by omega) (by omega))) (fun _ => ?_)
          iterate 2 refine er_s rfl ?_
          refine er_c rfl rfl ⟨Nat.le_of_ble_eq_true rfl, Nat.le_of_ble_eq_true rfl⟩ (f_isOnWall _ (b := k) (by omega) _) ?_
          refine er_b rfl rfl (fun q => absurd q (fun q => absurd (bI_eq.mp q) (fun z => z (by rw [setR_1]; exact hs)))) (fun _ => ?_)
          iterate 4 refine er_s rfl ?_
          refine er_b rfl rfl (fun q => absurd q (Int32.not_le.mpr h0)) (fun _ => ?_)
          iterate 3 refine er_s rfl ?_
          refine er_fl rfl rfl (vi) ?_
          rw [setR_5, cl k, ek]
          iterate 4 refine er_s rfl ?_
          refine er_zl rfl rfl (vi) ?_
          rw [setR_n _ _ _ (show (28 : Nat) ≠ 1 by decide), cl k]
          refine er_b rfl rfl (fun _ => ?_) (fun q => absurd hz q)
          iterate 3 refine er_s rfl ?_
          refine er_fmul rfl n1 ?_
          refine er_fsub rfl n2 ?_
          refine er_fmul rfl n3 ?_
          refine er_g rfl rfl ?_
          refine er_fs rfl rfl (vi) ?_
          rw [cl k, hF_5]
          exact er_sub (sub3 rfl rfl rfl) (C _ rfl)
        · rw [decide_eq_true hz, if_pos rfl] at n1 n2 n3 C
          iterate 4 refine er_s rfl ?_
          refine er_il rfl rfl (vi (k := 4)) ?_
          rw [k4, setR_1, hw.1]
          refine er_b rfl rfl (fun q => absurd q (nI_ge (by omega) (by omega))) (fun _ => ?_)
          iterate 2 refine er_s rfl ?_
          refine er_c rfl rfl ⟨Nat.le_of_ble_eq_true rfl, Nat.le_of_ble_eq_true rfl⟩ (f_isOnWall _ (b := k) (by omega) _) ?_
          refine er_b rfl rfl (fun q => absurd q (fun q => absurd (bI_eq.mp q) (fun z => z (by rw [setR_1]; exact hs)))) (fun _ => ?_)
          iterate 4 refine er_s rfl ?_
          refine er_b rfl rfl (fun q => absurd q (Int32.not_le.mpr h0)) (fun _ => ?_)
          iterate 3 refine er_s rfl ?_
          refine er_fl rfl rfl (vi) ?_
          rw [setR_5, cl k, ek]
          iterate 4 refine er_s rfl ?_
          refine er_zl rfl rfl (vi) ?_
          rw [setR_n _ _ _ (show (28 : Nat) ≠ 1 by decide), cl k]
          refine er_b rfl rfl (fun q => absurd q (fun q => hz q)) (fun _ => ?_)
          refine er_s rfl ?_
          refine er_g rfl rfl ?_
          iterate 2 refine er_s rfl ?_
          refine er_fmul rfl n1 ?_
          refine er_fsub rfl n2 ?_
          refine er_fmul rfl n3 ?_
          refine er_g rfl rfl ?_
          refine er_fs rfl rfl (vi) ?_
          rw [cl k, hF_5]
          exact er_sub (sub3 rfl rfl rfl) (C _ rfl)
      · rw [if_neg h0] at C
        iterate 4 refine er_s rfl ?_
        refine er_il rfl rfl (vi (k := 4)) ?_
        rw [k4, setR_1, hw.1]
        refine er_b rfl rfl (fun q => absurd q (nI_ge (by omega) (by omega))) (fun _ => ?_)
        iterate 2 refine er_s rfl ?_
        refine er_c rfl rfl ⟨Nat.le_of_ble_eq_true rfl, Nat.le_of_ble_eq_true rfl⟩ (f_isOnWall _ (b := k) (by omega) _) ?_
        refine er_b rfl rfl (fun q => absurd q (fun q => absurd (bI_eq.mp q) (fun z => z (by rw [setR_1]; exact hs)))) (fun _ => ?_)
        iterate 4 refine er_s rfl ?_
        refine er_b rfl rfl (fun _ => ?_) (fun q => absurd (Int32.not_lt.mp h0) q)
        iterate 3 refine er_s rfl ?_
        refine er_fl rfl rfl (vi) ?_
        rw [setR_5, cl k, ek]
        refine er_fs rfl rfl (vi) ?_
        rw [cl k, hF_5]
        exact er_sub (sub3 rfl rfl rfl) (C _ rfl)
    · rw [if_neg (fun q => hs (of_decide_eq_true q))] at IH
      iterate 4 refine er_s rfl ?_
      refine er_il rfl rfl (vi (k := 4)) ?_
      rw [k4, setR_1, hw.1]
      refine er_b rfl rfl (fun q => absurd q (nI_ge (by omega) (by omega))) (fun _ => ?_)
      iterate 2 refine er_s rfl ?_
      refine er_c rfl rfl ⟨Nat.le_of_ble_eq_true rfl, Nat.le_of_ble_eq_true rfl⟩ (f_isOnWall _ (b := k) (by omega) _) ?_
      refine er_b rfl rfl (fun _ => ?_) (fun q => absurd (bI_eq.mpr (by rw [setR_1]; exact hs)) q)
      refine er_s rfl ?_
      refine er_g rfl rfl ?_
      rw [nI_1]
      exact er_sub (sub3 rfl rfl rfl) IH
theorem f_melt (d : Nat) (t : Int32) (h : AH) (hw : Wel (h.1 1)) (hm : MasW (h.1 1) (h.2.1 5)) (ht : 0 < t → t ≤ 20) (hv : ∃ n, n ≤ 50 ∧ h.1 1 3 = nI n) : EvM (d + 3) mX11_melt [.ref 0, .int t] h none (setR h (remR (meltW (h.1 1) (h.1 28) t (CN (h.1 1)) (h.2.1 5)) (CN (h.1 1)) (h.1 1)) (meltW (h.1 1) (h.1 28) t (CN (h.1 1)) (h.2.1 5))) := by
  have A := f_melt2 d t h (meltW (h.1 1) (h.1 28) t (CN (h.1 1)) (h.2.1 5)) (h.1 1) hw (CN (h.1 1)) 0 (by omega)
  have B : EvR (d + 3) mX11_melt 115 [(0, .ref 0), (1, .int t)] [] (setR h (h.1 1) (meltW (h.1 1) (h.1 28) t (CN (h.1 1)) (h.2.1 5))) none (setR h (remR (meltW (h.1 1) (h.1 28) t (CN (h.1 1)) (h.2.1 5)) (CN (h.1 1)) (h.1 1)) (meltW (h.1 1) (h.1 28) t (CN (h.1 1)) (h.2.1 5))) := by
    iterate 2 refine er_s rfl ?_
    exact er_sub (sub3 rfl rfl rfl) A
  have C := f_melt1 d t h hw hm ht hv B (CN (h.1 1)) 0 (by omega)
  rw [show meltW (h.1 1) (h.1 28) t 0 (h.2.1 5) = h.2.1 5 from rfl, setR_self] at C
  show EvR _ _ 0 [(0, _), (1, _)] [] _ _ _
  iterate 2 refine er_s rfl ?_
  exact er_sub (sub3 rfl rfl rfl) C
end
