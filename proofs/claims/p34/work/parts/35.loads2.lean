-- needs: 34
noncomputable section
theorem ldInv_nn {r : Nat → Int32} {w S : Nat → UInt32} {i k : Nat} (hw : Wel r) (hm : MasW r w) (hi : i < 7) (hk : k < CN r) (h : ldInv r w i k S) (hs : ofB r k 2 = 1) (hc : ofB r k 4 = nI (7 - i)) : nn (FP.fadd (w k) (S k)) := by
  have pk := (hw.2.2 k hk).2 hs
  have ck := CU_nI pk (by omega) hc
  have e := ((h k hk).1 hs).1 (by omega)
  rw [e]
  have l := LDw_ok hw hm hk (r := r) (w := w)
  obtain ⟨l1, l2, l3⟩ := l
  have hx := hm k hk hs
  have hwU := Nat.le_trans (fU_le.mpr hx.2) fU_360
  refine nn_of (f_add3 (a := 86) hx.fin l1 ?_ (by decide)).1
  have : (2 : Nat) ^ (86 + 149) = 128 * 2 ^ 228 := by decide
  have h9 : (2 : Nat) ^ 158 ≤ 2 ^ 228 := by decide
  omega
theorem p_sU_in (d : Nat) {k m : Nat} (hL : PalL k) (hM : LodL m) (hkm : m + 1 ≠ k + 4) {h : AH} {r : Nat → Int32} {w : Nat → UInt32} (P : Pal h k r w) (hS : Str r) (hm : MasW r w) {i : Nat} (hi : i < 7) {v : Option Value} {h' : AH} (K : EvR (d + 3) mX5_sumUp 67 [(0, .ref m), (1, .ref k), (2, .int (nI (7 - i)))] [] (hFr h (m + 1) (courseS r w (7 - i) (CN r) (h.2.1 (m + 1)))) v h') (hI0 : ldInv r w i 0 (h.2.1 (m + 1))) : ∀ (n j : Nat), j + n = CN r → EvR (d + 3) mX5_sumUp 31 [(0, .ref m), (1, .ref k), (2, .int (nI (7 - i))), (3, .int (nI j))] [] (hFr h (m + 1) (courseS r w (7 - i) j (h.2.1 (m + 1)))) v h'
  | 0, j, hj => by
    have hj : j = CN r := by omega
    have h40 := hS.1.2.1
    subst hj
    have P2 := P.fr (f := courseS r w (7 - i) (CN r) (h.2.1 (m + 1))) hkm
    have hL2 := hL
    obtain ⟨L0, L1, L2, L3, L4, L5, L6, L7, L8, L9, L10, L11, L12⟩ := hL2
    obtain ⟨N0, N1⟩ := hM
    by_cases h4 : CN r < 40
    · iterate 2 refine er_s rfl ?_
      refine er_b rfl rfl (fun q => absurd q (nI_ge (b := 40) h4 (by decide))) (fun _ => ?_)
      iterate 2 refine er_s rfl ?_
      refine er_f rfl L0 rfl ?_
      refine er_b rfl rfl (fun _ => ?_) (fun q => absurd (by rw [P2.hd (by decide), hS.1.1]; exact Int32.le_refl _) q)
      exact er_sub (sub3 rfl rfl rfl) K
    · iterate 2 refine er_s rfl ?_
      refine er_b rfl rfl (fun _ => ?_) (fun q => absurd (nI_le (a := 40) (by omega) (by omega)) q)
      exact er_sub (sub3 rfl rfl rfl) K
  | n + 1, j, hj => by
    have h40 := hS.1.2.1
    have IH := p_sU_in d hL hM hkm P hS hm hi K hI0 n (j + 1) (by omega)
    have hjC : j < CN r := by omega
    have hc := ldInv_c hS.1 hm hi hI0 j (by omega)
    obtain ⟨g1, g2⟩ := ldInv_s hS.1 hm hi (k := j) hjC hc
    have es : courseS r w (7 - i) (j + 1) (h.2.1 (m + 1)) = if ofB r j 2 = 1 ∧ ofB r j 4 = nI (7 - i) then giveR r w (courseS r w (7 - i) j (h.2.1 (m + 1))) j (CN r) else courseS r w (7 - i) j (h.2.1 (m + 1)) := rfl
    rw [es] at IH
    have P2 := P.fr (f := courseS r w (7 - i) j (h.2.1 (m + 1))) hkm
    have hL2 := hL
    have hM2 := hM
    obtain ⟨L0, L1, L2, L3, L4, L5, L6, L7, L8, L9, L10, L11, L12⟩ := hL2
    obtain ⟨N0, N1⟩ := hM2
    by_cases hq : ofB r j 2 = 1 ∧ ofB r j 4 = nI (7 - i)
    · rw [if_pos hq] at IH
      obtain ⟨g3, g4⟩ := g2 hq
      have C := p_hand d hL hM hkm P2 hS hjC hq.1 g4 (by rw [hFr_at]; exact g3) (by rw [hFr_at]; exact ldInv_nn hS.1 hm hi hjC hc hq.1 hq.2)
      rw [hFr_at, hFr_hFr] at C
      iterate 2 refine er_s rfl ?_
      refine er_b rfl rfl (fun q => absurd q (nI_ge (b := 40) (by omega) (by decide))) (fun _ => ?_)
      iterate 2 refine er_s rfl ?_
      refine er_f rfl L0 rfl ?_
      refine er_b rfl rfl (fun q => absurd q (by rw [P2.hd (by decide), hS.1.1]; exact nI_ge hjC (by omega))) (fun _ => ?_)
      refine er_s rfl ?_
      refine er_f rfl L0 rfl ?_
      refine er_s rfl ?_
      refine er_il rfl L7 (vi) ?_
      refine er_s rfl ?_
      refine er_b rfl rfl (fun q => absurd q (fun q => q (by rw [cl j, P2.cu hjC]; exact hq.2))) (fun _ => ?_)
      iterate 3 refine er_s rfl ?_
      refine er_v2 rfl N0 rfl ⟨Nat.le_of_ble_eq_true rfl, Nat.le_of_ble_eq_true rfl⟩ (C) ?_
      refine er_s rfl ?_
      refine er_g rfl rfl ?_
      rw [nI_1]
      exact er_sub (sub4 rfl rfl rfl rfl) IH
    · rw [if_neg hq] at IH
      have hn : ¬ ofB r j 4 = nI (7 - i) := fun q => by
        by_cases hs : ofB r j 2 = 1
        · exact hq ⟨hs, q⟩
        · rw [hS.cu hjC hs] at q
          exact absurd (nI_pos' (n := 7 - i) (by omega)) (by rw [← q]; decide)
      iterate 2 refine er_s rfl ?_
      refine er_b rfl rfl (fun q => absurd q (nI_ge (b := 40) (by omega) (by decide))) (fun _ => ?_)
      iterate 2 refine er_s rfl ?_
      refine er_f rfl L0 rfl ?_
      refine er_b rfl rfl (fun q => absurd q (by rw [P2.hd (by decide), hS.1.1]; exact nI_ge hjC (by omega))) (fun _ => ?_)
      refine er_s rfl ?_
      refine er_f rfl L0 rfl ?_
      refine er_s rfl ?_
      refine er_il rfl L7 (vi) ?_
      refine er_s rfl ?_
      refine er_b rfl rfl (fun _ => ?_) (fun q => absurd (by rw [cl j, P2.cu hjC]; exact hn) q)
      refine er_s rfl ?_
      refine er_g rfl rfl ?_
      rw [nI_1]
      exact er_sub (sub4 rfl rfl rfl rfl) IH
theorem p_sU_out (d : Nat) {k m : Nat} (hL : PalL k) (hM : LodL m) (hkm : m + 1 ≠ k + 4) {h : AH} {r : Nat → Int32} {w : Nat → UInt32} (P : Pal h k r w) (hS : Str r) (hm : MasW r w) (ld : Nat → UInt32) : ∀ (n i : Nat), i + n = 7 → EvR (d + 3) mX5_sumUp 24 [(0, .ref m), (1, .ref k), (2, .int (nI (7 - i)))] [] (hFr h (m + 1) (loadsI r w (zeroF ld) i)) none (hFr h (m + 1) (loadsR r w ld))
  | 0, i, hi => by
    have hi : i = 7 := by omega
    subst hi
    iterate 2 refine er_s rfl ?_
    refine er_b rfl rfl (fun _ => ?_) (fun q => absurd (by decide) q)
    refine er_q rfl ?_ ?_
    · rfl
    · rfl
  | n + 1, i, hi => by
    have IH := p_sU_out d hL hM hkm P hS hm ld n (i + 1) (by omega)
    have e1 : nI (7 - i) - 1 = nI (7 - (i + 1)) := (nI_mod (c := 7 - i) (by omega)).trans (congrArg nI (by omega))
    have e2 : nI (7 - i) + -1 = nI (7 - (i + 1)) := by rw [← Int32.sub_eq_add_neg]; exact e1
    have K : EvR (d + 3) mX5_sumUp 67 [(0, .ref m), (1, .ref k), (2, .int (nI (7 - i)))] [] (hFr h (m + 1) (courseS r w (7 - i) (CN r) (loadsI r w (zeroF ld) i))) none (hFr h (m + 1) (loadsR r w ld)) := by
      refine er_s rfl ?_
      refine er_g rfl rfl ?_
      rw [e2]
      exact er_sub (sub3 rfl rfl rfl) IH
    have P2 := P.fr (f := loadsI r w (zeroF ld) i) hkm
    have L := p_sU_in d hL hM hkm P2 hS hm (i := i) (by omega) (v := none) (h' := hFr h (m + 1) (loadsR r w ld)) (by rw [hFr_at, hFr_hFr]; exact K) (by rw [hFr_at]; exact ldInv_i hS.1 hm i (by omega)) (CN r) 0 (by omega)
    rw [hFr_at, hFr_hFr] at L
    iterate 2 refine er_s rfl ?_
    refine er_b rfl rfl (fun q => absurd q (nI_nlt (b := 1) (by omega) (by omega))) (fun _ => ?_)
    iterate 2 refine er_s rfl ?_
    exact er_sub (sub4 rfl rfl rfl rfl) L
theorem p_sU_z (d : Nat) {k m : Nat} (hM : LodL m) (h : AH) {v : Option Value} {h' : AH} (ld : Nat → UInt32) (K : EvR (d + 3) mX5_sumUp 21 [(0, .ref m), (1, .ref k)] [] (hFr h (m + 1) (zeroTo 40 ld)) v h') : ∀ (n i : Nat), i + n = 40 → EvR (d + 3) mX5_sumUp 2 [(0, .ref m), (1, .ref k), (2, .int (nI i))] [] (hFr h (m + 1) (zeroTo i ld)) v h'
  | 0, i, hi => by
    have hi : i = 40 := by omega
    subst hi
    iterate 2 refine er_s rfl ?_
    refine er_b rfl rfl (fun _ => ?_) (fun q => absurd (Int32.le_refl _) q)
    exact er_sub (sub2 rfl rfl) K
  | n + 1, i, hi => by
    have IH := p_sU_z d hM h ld K n (i + 1) (by omega)
    obtain ⟨N0, N1⟩ := hM
    iterate 2 refine er_s rfl ?_
    refine er_b rfl rfl (fun q => absurd q (nI_ge (b := 40) (by omega) (by omega))) (fun _ => ?_)
    refine er_s rfl ?_
    refine er_f rfl N0 rfl ?_
    iterate 2 refine er_s rfl ?_
    refine er_fs rfl N1 (vi) ?_
    refine er_s rfl ?_
    refine er_g rfl rfl ?_
    rw [nI_1, cl i, hF_r2]
    refine er_hh (congrArg (hFr h (m + 1)) (zeroTo_s i ld)) ?_
    exact er_sub (sub3 rfl rfl rfl) IH
theorem p_sumUp (d : Nat) {k m : Nat} (hL : PalL k) (hM : LodL m) (hkm : m + 1 ≠ k + 4) {h : AH} {r : Nat → Int32} {w : Nat → UInt32} (P : Pal h k r w) (hS : Str r) (hm : MasW r w) : EvM (d + 3) mX5_sumUp [.ref m, .ref k] h none (hFr h (m + 1) (loadsR r w (h.2.1 (m + 1)))) := by
  have A := p_sU_out d hL hM hkm P hS hm (h.2.1 (m + 1)) 7 0 rfl
  have B : EvR (d + 3) mX5_sumUp 21 [(0, .ref m), (1, .ref k)] [] (hFr h (m + 1) (zeroTo 40 (h.2.1 (m + 1)))) none (hFr h (m + 1) (loadsR r w (h.2.1 (m + 1)))) := by
    iterate 2 refine er_s rfl ?_
    exact er_sub (sub3 rfl rfl rfl) A
  have Z := p_sU_z d hM h (h.2.1 (m + 1)) B 40 0 rfl
  rw [zeroTo_0, hFr_self] at Z
  show EvR _ _ 0 [(0, _), (1, _)] [] _ _ _
  iterate 2 refine er_s rfl ?_
  exact er_sub (sub3 rfl rfl rfl) Z
theorem p_loadOf (d : Nat) {m : Nat} (hM : LodL m) {b : Nat} (hb : b < 40) (h : AH) : EvM d mX5_loadOf [.ref m, .int (nI b)] h (some (.float (h.2.1 (m + 1) b))) h := by
  obtain ⟨N0, N1⟩ := hM
  show EvR _ _ 0 [(0, _), (1, _)] [] _ _ _
  refine er_s rfl ?_
  refine er_b rfl rfl (fun q => absurd q (nI_pos (by omega))) (fun _ => ?_)
  iterate 2 refine er_s rfl ?_
  refine er_b rfl rfl (fun q => absurd q (nI_ge (b := 40) hb (by decide))) (fun _ => ?_)
  refine er_s rfl ?_
  refine er_f rfl N0 rfl ?_
  refine er_s rfl ?_
  refine er_fl rfl N1 (vi) ?_
  refine er_g rfl rfl ?_
  refine er_q rfl ?_ ?_
  · rw [cl b]
  · rfl
theorem p_first (d : Nat) {k m : Nat} (hL : PalL k) (hM : LodL m) {h : AH} {r : Nat → Int32} {w : Nat → UInt32} (P : Pal h k r w) (hS : Str r) (hm : MasW r w) (hl : ∀ b, b < CN r → ofB r b 2 = 1 → h.2.1 (m + 1) b = LDw r w b) : EvM (d + 2) mX5_firstOverloaded [.ref m, .ref k] h (some (.int (orM (ovN r w) (CN r)))) h := by
  have h40 := hS.1.2.1
  have hL2 := hL
  obtain ⟨L0, L1, L2, L3, L4, L5, L6, L7, L8, L9, L10, L11, L12⟩ := hL2
  obtain ⟨N0, N1⟩ := hM
  have Lp : ∀ (n j : Nat), j + n = CN r → EvR (d + 2) mX5_firstOverloaded 2 [(0, .ref m), (1, .ref k), (2, .int (nI j))] [] h (some (.int (orM (fstP (ovP r w) (CN r) n j) (CN r)))) h := by
    intro n
    induction n with
    | zero =>
      intro j hj
      have hj : j = CN r := by omega
      subst hj
      rw [show fstP (ovP r w) (CN r) 0 (CN r) = CN r from rfl, orM_n]
      by_cases h4 : CN r < 40
      · iterate 2 refine er_s rfl ?_
        refine er_b rfl rfl (fun q => absurd q (nI_ge (b := 40) h4 (by decide))) (fun _ => ?_)
        iterate 2 refine er_s rfl ?_
        refine er_f rfl L0 rfl ?_
        refine er_b rfl rfl (fun _ => ?_) (fun q => absurd (by rw [P.hd (by decide), hS.1.1]; exact Int32.le_refl _) q)
        refine er_s rfl ?_
        refine er_q rfl ?_ ?_
        · rfl
        · rfl
      · iterate 2 refine er_s rfl ?_
        refine er_b rfl rfl (fun _ => ?_) (fun q => absurd (nI_le (a := 40) (by omega) (by omega)) q)
        refine er_s rfl ?_
        refine er_q rfl ?_ ?_
        · rfl
        · rfl
    | succ n ih =>
      intro j hj
      have IH := ih (j + 1) (by omega)
      have hjC : j < CN r := by omega
      have W := p_isOnWall (d + 1) hL (b := j) (by omega) h
      rw [P.st hjC] at W
      by_cases hs : ofB r j 2 = 1
      · have B := p_borneBy d hL P hS.1 hm hjC hs
        have e : ovP r w j = decide (0 < Op.cmpValue (FP.fcmp (LDw r w j) (bornR r w j)) .l) := by unfold ovP; rw [decide_eq_true hs, Bool.true_and]
        by_cases hq : ovP r w j = true
        · rw [fstP_t hq, orM_t hjC]
          rw [e] at hq
          iterate 2 refine er_s rfl ?_
          refine er_b rfl rfl (fun q => absurd q (nI_ge (b := 40) (by omega) (by decide))) (fun _ => ?_)
          iterate 2 refine er_s rfl ?_
          refine er_f rfl L0 rfl ?_
          refine er_b rfl rfl (fun q => absurd q (by rw [P.hd (by decide), hS.1.1]; exact nI_ge hjC (by omega))) (fun _ => ?_)
          iterate 2 refine er_s rfl ?_
          refine er_v1 rfl L0 rfl ⟨Nat.le_of_ble_eq_true rfl, Nat.le_of_ble_eq_true rfl⟩ (W) ?_
          refine er_b rfl rfl (fun q => absurd q (fun q => bI_eq.mp q hs)) (fun _ => ?_)
          refine er_s rfl ?_
          refine er_f rfl N0 rfl ?_
          refine er_s rfl ?_
          refine er_fl rfl N1 (vi) ?_
          iterate 2 refine er_s rfl ?_
          refine er_c rfl rfl ⟨Nat.le_of_ble_eq_true rfl, Nat.le_of_ble_eq_true rfl⟩ (B) ?_
          rw [cl j, hl j hjC hs]
          refine er_s rfl ?_
          refine er_b rfl rfl (fun q => absurd q (Int32.not_le.mpr (of_decide_eq_true hq))) (fun _ => ?_)
          refine er_s rfl ?_
          refine er_q rfl ?_ ?_
          · rfl
          · rfl
        · rw [fstP_f hq]
          rw [e] at hq
          iterate 2 refine er_s rfl ?_
          refine er_b rfl rfl (fun q => absurd q (nI_ge (b := 40) (by omega) (by decide))) (fun _ => ?_)
          iterate 2 refine er_s rfl ?_
          refine er_f rfl L0 rfl ?_
          refine er_b rfl rfl (fun q => absurd q (by rw [P.hd (by decide), hS.1.1]; exact nI_ge hjC (by omega))) (fun _ => ?_)
          iterate 2 refine er_s rfl ?_
          refine er_v1 rfl L0 rfl ⟨Nat.le_of_ble_eq_true rfl, Nat.le_of_ble_eq_true rfl⟩ (W) ?_
          refine er_b rfl rfl (fun q => absurd q (fun q => bI_eq.mp q hs)) (fun _ => ?_)
          refine er_s rfl ?_
          refine er_f rfl N0 rfl ?_
          refine er_s rfl ?_
          refine er_fl rfl N1 (vi) ?_
          iterate 2 refine er_s rfl ?_
          refine er_c rfl rfl ⟨Nat.le_of_ble_eq_true rfl, Nat.le_of_ble_eq_true rfl⟩ (B) ?_
          rw [cl j, hl j hjC hs]
          refine er_s rfl ?_
          refine er_b rfl rfl (fun _ => ?_) (fun q => absurd (Int32.not_lt.mp (fun q => hq (decide_eq_true q))) q)
          refine er_s rfl ?_
          refine er_g rfl rfl ?_
          rw [nI_1]
          exact er_sub (sub3 rfl rfl rfl) IH
      · rw [fstP_f (by unfold ovP; rw [decide_eq_false hs, Bool.false_and]; decide)]
        iterate 2 refine er_s rfl ?_
        refine er_b rfl rfl (fun q => absurd q (nI_ge (b := 40) (by omega) (by decide))) (fun _ => ?_)
        iterate 2 refine er_s rfl ?_
        refine er_f rfl L0 rfl ?_
        refine er_b rfl rfl (fun q => absurd q (by rw [P.hd (by decide), hS.1.1]; exact nI_ge hjC (by omega))) (fun _ => ?_)
        iterate 2 refine er_s rfl ?_
        refine er_v1 rfl L0 rfl ⟨Nat.le_of_ble_eq_true rfl, Nat.le_of_ble_eq_true rfl⟩ (W) ?_
        refine er_b rfl rfl (fun _ => ?_) (fun q => absurd (bI_eq.mpr hs) q)
        refine er_s rfl ?_
        refine er_g rfl rfl ?_
        rw [nI_1]
        exact er_sub (sub3 rfl rfl rfl) IH
  have Z := Lp (CN r) 0 (by omega)
  show EvR _ _ 0 [(0, _), (1, _)] [] _ _ _
  iterate 2 refine er_s rfl ?_
  exact er_sub (sub3 rfl rfl rfl) Z
theorem p_above (d0 : Nat) {k : Nat} (hL : PalL k) {h : AH} {r : Nat → Int32} {w : Nat → UInt32} (P : Pal h k r w) (hS : Str r) (hm : MasW r w) : ∀ (n d b t : Nat), b < CN r → ofB r b 2 = 1 → 7 - CU r b = n → t + n < 8 → EvM (d + n + 3) mX5_sumFromAbove [.ref k, .int (nI b), .int (nI t)] h (some (.float (LD r w n b))) h := by
  intro n
  have h40 := hS.1.2.1
  have hL2 := hL
  obtain ⟨L0, L1, L2, L3, L4, L5, L6, L7, L8, L9, L10, L11, L12⟩ := hL2
  induction n with
  | zero =>
    intro d b t hb hs hn ht
    obtain ⟨b1, b2, b3, b4, b5, b6⟩ := (hS.1.2.2 b hb).2 hs
    have W := p_isOnWall (d + 2) hL (b := b) (by omega) h
    rw [P.st hb] at W
    have Lp : ∀ (n j : Nat), j + n = CN r → EvR (d + 3) mX5_sumFromAbove 31 [(0, .ref k), (1, .int (nI b)), (2, .int (nI t)), (3, .float 0), (4, .int (nI (CU r b + 1))), (5, .int (nI j))] [] h (some (.float 0)) h := by
      intro n
      induction n with
      | zero =>
        intro j hj
        have hj : j = CN r := by omega
        subst hj
        by_cases h4 : CN r < 40
        · iterate 2 refine er_s rfl ?_
          refine er_b rfl rfl (fun q => absurd q (nI_ge (b := 40) h4 (by decide))) (fun _ => ?_)
          iterate 2 refine er_s rfl ?_
          refine er_f rfl L0 rfl ?_
          refine er_b rfl rfl (fun _ => ?_) (fun q => absurd (by rw [P.hd (by decide), hS.1.1]; exact Int32.le_refl _) q)
          refine er_s rfl ?_
          refine er_q rfl ?_ ?_
          · rfl
          · rfl
        · iterate 2 refine er_s rfl ?_
          refine er_b rfl rfl (fun _ => ?_) (fun q => absurd (nI_le (a := 40) (by omega) (by omega)) q)
          refine er_s rfl ?_
          refine er_q rfl ?_ ?_
          · rfl
          · rfl
      | succ n ih =>
        intro j hj
        have IH := ih (j + 1) (by omega)
        have hjC : j < CN r := by omega
        have hn2 : ¬ ofB r j 4 = nI (CU r b + 1) := fun q => by
          by_cases hs2 : ofB r j 2 = 1
          · have pj := (hS.1.2.2 j hjC).2 hs2
            have := onB_CU pj ⟨b1, b2, b3, b4, b5, b6⟩ (by rw [q, ← nI_1, ← b3])
            have := pj.2.2.2.1
            omega
          · rw [hS.cu hjC hs2] at q
            exact absurd (nI_pos' (n := CU r b + 1) (by omega)) (by rw [← q]; decide)
        iterate 2 refine er_s rfl ?_
        refine er_b rfl rfl (fun q => absurd q (nI_ge (b := 40) (by omega) (by decide))) (fun _ => ?_)
        iterate 2 refine er_s rfl ?_
        refine er_f rfl L0 rfl ?_
        refine er_b rfl rfl (fun q => absurd q (by rw [P.hd (by decide), hS.1.1]; exact nI_ge hjC (by omega))) (fun _ => ?_)
        refine er_s rfl ?_
        refine er_f rfl L0 rfl ?_
        refine er_s rfl ?_
        refine er_il rfl L7 (vi) ?_
        refine er_s rfl ?_
        refine er_b rfl rfl (fun _ => ?_) (fun q => absurd (by rw [cl j, P.cu hjC]; exact hn2) q)
        refine er_s rfl ?_
        refine er_g rfl rfl ?_
        rw [nI_1]
        exact er_sub (sub6 rfl rfl rfl rfl rfl rfl) IH
    have Z := Lp (CN r) 0 (by omega)
    show EvR _ _ 0 [(0, _), (1, _), (2, _)] [] _ _ _
    iterate 4 refine er_s rfl ?_
    refine er_v1 rfl L0 rfl ⟨Nat.le_of_ble_eq_true rfl, Nat.le_of_ble_eq_true rfl⟩ (W) ?_
    refine er_b rfl rfl (fun q => absurd q (fun q => bI_eq.mp q hs)) (fun _ => ?_)
    iterate 2 refine er_s rfl ?_
    refine er_b rfl rfl (fun _ => ?_) (fun q => absurd (nI_lt (b := 8) (by omega) (by decide)) q)
    refine er_s rfl ?_
    refine er_f rfl L0 rfl ?_
    refine er_s rfl ?_
    refine er_il rfl L7 (vi) ?_
    rw [cl b, P.cu hb, b3]
    iterate 2 refine er_s rfl ?_
    rw [nI_1]
    iterate 3 refine er_s rfl ?_
    exact er_sub (sub6 rfl rfl rfl rfl rfl rfl) Z
  | succ n ihn =>
    intro d b t hb hs hn ht
    have pb := (hS.1.2.2 b hb).2 hs
    obtain ⟨b1, b2, b3, b4, b5, b6⟩ := id pb
    have W := p_isOnWall (d + (n + 1) + 2) hL (b := b) (by omega) h
    rw [P.st hb] at W
    have Lp : ∀ (n2 j : Nat), j + n2 = CN r → EvR (d + (n + 1) + 3) mX5_sumFromAbove 31 [(0, .ref k), (1, .int (nI b)), (2, .int (nI t)), (3, .float (LDs (LD r w n) r w b j)), (4, .int (nI (CU r b + 1))), (5, .int (nI j))] [] h (some (.float (LD r w (n + 1) b))) h := by
      intro n2
      induction n2 with
      | zero =>
        intro j hj
        have hj : j = CN r := by omega
        subst hj
        by_cases h4 : CN r < 40
        · iterate 2 refine er_s rfl ?_
          refine er_b rfl rfl (fun q => absurd q (nI_ge (b := 40) h4 (by decide))) (fun _ => ?_)
          iterate 2 refine er_s rfl ?_
          refine er_f rfl L0 rfl ?_
          refine er_b rfl rfl (fun _ => ?_) (fun q => absurd (by rw [P.hd (by decide), hS.1.1]; exact Int32.le_refl _) q)
          refine er_s rfl ?_
          refine er_q rfl ?_ ?_
          · rfl
          · rfl
        · iterate 2 refine er_s rfl ?_
          refine er_b rfl rfl (fun _ => ?_) (fun q => absurd (nI_le (a := 40) (by omega) (by omega)) q)
          refine er_s rfl ?_
          refine er_q rfl ?_ ?_
          · rfl
          · rfl
      | succ n2 ih =>
        intro j hj
        have IH := ih (j + 1) (by omega)
        have hjC : j < CN r := by omega
        obtain ⟨lj, pj⟩ := hS.1.2.2 j hjC
        rw [LDs_s] at IH
        by_cases hc : ofB r j 4 = nI (CU r b + 1)
        · have hs2 : ofB r j 2 = 1 := by
            by_cases hs2 : ofB r j 2 = 1
            · exact hs2
            · rw [hS.cu hjC hs2] at hc
              exact absurd (nI_pos' (n := CU r b + 1) (by omega)) (by rw [← hc]; decide)
          have pj := pj hs2
          have cj := onB_CU pj pb (by rw [hc, ← nI_1, ← b3])
          have Sh := p_shared (d + (n + 1) + 2) hL P hS.1 hjC hb hs2 hs
          rw [← colsN_sh hS hjC hb hs2 hs cj] at Sh
          have Su := p_supportOf (d + (n + 1)) hL P hS.1 hjC hs2
          have l7 := colsN_le (b := b) lj
          have s7 := supN_le lj
          by_cases hq : 0 < colsN r j b
          · rw [if_pos (onBb_t.mpr ⟨hs2, by rw [hc, ← nI_1, ← b3], hq⟩)] at IH
            have hsu := colsN_sup (r := r) (by omega) hq
            have hP := LDs_P hS.1 hm hb (n := n) (by omega) (fun k2 hk2 => LD_ok hS.1 hm n k2 (by omega) hk2) j (by omega)
            obtain ⟨n1, n2, n3, n4, -⟩ := share_nn hS.1 hm hjC hb hs2 hq (n := n) (j := j) (by omega) (LD_ok hS.1 hm n j (by omega) hjC) (by omega) hP
            have R := ihn d j (t + 1) hjC hs2 (by omega) (by omega)
            rw [show d + n + 3 = d + (n + 1) + 2 by omega] at R
            iterate 2 refine er_s rfl ?_
            refine er_b rfl rfl (fun q => absurd q (nI_ge (b := 40) (by omega) (by decide))) (fun _ => ?_)
            iterate 2 refine er_s rfl ?_
            refine er_f rfl L0 rfl ?_
            refine er_b rfl rfl (fun q => absurd q (by rw [P.hd (by decide), hS.1.1]; exact nI_ge hjC (by omega))) (fun _ => ?_)
            refine er_s rfl ?_
            refine er_f rfl L0 rfl ?_
            refine er_s rfl ?_
            refine er_il rfl L7 (vi) ?_
            refine er_s rfl ?_
            refine er_b rfl rfl (fun q => absurd q (fun q => q (by rw [cl j, P.cu hjC]; exact hc))) (fun _ => ?_)
            iterate 3 refine er_s rfl ?_
            refine er_v2 rfl L0 rfl ⟨Nat.le_of_ble_eq_true rfl, Nat.le_of_ble_eq_true rfl⟩ (Sh) ?_
            iterate 3 refine er_s rfl ?_
            refine er_v1 rfl L0 rfl ⟨Nat.le_of_ble_eq_true rfl, Nat.le_of_ble_eq_true rfl⟩ (Su) ?_
            iterate 2 refine er_s rfl ?_
            refine er_b rfl rfl (fun q => absurd q (nI_nle hq (by omega))) (fun _ => ?_)
            refine er_s rfl ?_
            refine er_b rfl rfl (fun q => absurd q (nI_nle hsu (by omega))) (fun _ => ?_)
            refine er_s rfl ?_
            refine er_f rfl L0 rfl ?_
            refine er_s rfl ?_
            refine er_fl rfl L4 (vi) ?_
            rw [cl j, P.ms hjC]
            iterate 5 refine er_s rfl ?_
            rw [nI_1]
            refine er_c rfl rfl ⟨Nat.le_of_ble_eq_true rfl, Nat.le_of_ble_eq_true rfl⟩ (R) ?_
            refine er_fadd rfl n1 ?_
            iterate 5 refine er_s rfl ?_
            refine er_fmul rfl n2 ?_
            iterate 2 refine er_s rfl ?_
            refine er_fdiv rfl n3 ?_
            refine er_fadd rfl n4 ?_
            iterate 2 refine er_s rfl ?_
            refine er_g rfl rfl ?_
            rw [nI_1]
            exact er_sub (sub6 rfl rfl rfl rfl rfl rfl) IH
          · rw [if_neg (fun q => hq (onBb_t.mp q).2.2)] at IH
            have hz : colsN r j b = 0 := by omega
            rw [hz] at Sh
            iterate 2 refine er_s rfl ?_
            refine er_b rfl rfl (fun q => absurd q (nI_ge (b := 40) (by omega) (by decide))) (fun _ => ?_)
            iterate 2 refine er_s rfl ?_
            refine er_f rfl L0 rfl ?_
            refine er_b rfl rfl (fun q => absurd q (by rw [P.hd (by decide), hS.1.1]; exact nI_ge hjC (by omega))) (fun _ => ?_)
            refine er_s rfl ?_
            refine er_f rfl L0 rfl ?_
            refine er_s rfl ?_
            refine er_il rfl L7 (vi) ?_
            refine er_s rfl ?_
            refine er_b rfl rfl (fun q => absurd q (fun q => q (by rw [cl j, P.cu hjC]; exact hc))) (fun _ => ?_)
            iterate 3 refine er_s rfl ?_
            refine er_v2 rfl L0 rfl ⟨Nat.le_of_ble_eq_true rfl, Nat.le_of_ble_eq_true rfl⟩ (Sh) ?_
            iterate 3 refine er_s rfl ?_
            refine er_v1 rfl L0 rfl ⟨Nat.le_of_ble_eq_true rfl, Nat.le_of_ble_eq_true rfl⟩ (Su) ?_
            iterate 2 refine er_s rfl ?_
            refine er_b rfl rfl (fun _ => ?_) (fun q => absurd (by decide) q)
            refine er_s rfl ?_
            refine er_g rfl rfl ?_
            rw [nI_1]
            exact er_sub (sub6 rfl rfl rfl rfl rfl rfl) IH
        · rw [if_neg (fun q => hc (by have := (onBb_t.mp q).2.1; rw [this, ← nI_1, ← b3]))] at IH
          iterate 2 refine er_s rfl ?_
          refine er_b rfl rfl (fun q => absurd q (nI_ge (b := 40) (by omega) (by decide))) (fun _ => ?_)
          iterate 2 refine er_s rfl ?_
          refine er_f rfl L0 rfl ?_
          refine er_b rfl rfl (fun q => absurd q (by rw [P.hd (by decide), hS.1.1]; exact nI_ge hjC (by omega))) (fun _ => ?_)
          refine er_s rfl ?_
          refine er_f rfl L0 rfl ?_
          refine er_s rfl ?_
          refine er_il rfl L7 (vi) ?_
          refine er_s rfl ?_
          refine er_b rfl rfl (fun _ => ?_) (fun q => absurd (by rw [cl j, P.cu hjC]; exact hc) q)
          refine er_s rfl ?_
          refine er_g rfl rfl ?_
          rw [nI_1]
          exact er_sub (sub6 rfl rfl rfl rfl rfl rfl) IH
    have Z := Lp (CN r) 0 (by omega)
    show EvR _ _ 0 [(0, _), (1, _), (2, _)] [] _ _ _
    iterate 4 refine er_s rfl ?_
    refine er_v1 rfl L0 rfl ⟨Nat.le_of_ble_eq_true rfl, Nat.le_of_ble_eq_true rfl⟩ (W) ?_
    refine er_b rfl rfl (fun q => absurd q (fun q => bI_eq.mp q hs)) (fun _ => ?_)
    iterate 2 refine er_s rfl ?_
    refine er_b rfl rfl (fun _ => ?_) (fun q => absurd (nI_lt (b := 8) (by omega) (by decide)) q)
    refine er_s rfl ?_
    refine er_f rfl L0 rfl ?_
    refine er_s rfl ?_
    refine er_il rfl L7 (vi) ?_
    rw [cl b, P.cu hb, b3]
    iterate 2 refine er_s rfl ?_
    rw [nI_1]
    iterate 3 refine er_s rfl ?_
    exact er_sub (sub6 rfl rfl rfl rfl rfl rfl) Z
theorem p_loadFrom (d : Nat) {k : Nat} (hL : PalL k) {h : AH} {r : Nat → Int32} {w : Nat → UInt32} (P : Pal h k r w) (hS : Str r) (hm : MasW r w) {b : Nat} (hb : b < CN r) (hs : ofB r b 2 = 1) : EvM (d + 11) mX5_loadFromAbove [.ref k, .int (nI b)] h (some (.float (LDw r w b))) h := by
  have A := p_above 0 hL P hS hm (7 - CU r b) (d + 7 - (7 - CU r b)) b 0 hb hs rfl (by omega)
  rw [show d + 7 - (7 - CU r b) + (7 - CU r b) + 3 = d + 10 by omega] at A
  show EvR _ _ 0 [(0, _), (1, _)] [] _ _ _
  iterate 3 refine er_s rfl ?_
  refine er_c rfl rfl ⟨Nat.le_of_ble_eq_true rfl, Nat.le_of_ble_eq_true rfl⟩ (A) ?_
  refine er_q rfl ?_ ?_
  · rfl
  · rfl
end
