-- needs: 33
noncomputable section
theorem sub8 {lc2 : LC} {i1 i2 i3 i4 i5 i6 i7 i8 : Nat} {v1 v2 v3 v4 v5 v6 v7 v8 : Value} (h1 : lget lc2 i1 = some v1) (h2 : lget lc2 i2 = some v2) (h3 : lget lc2 i3 = some v3) (h4 : lget lc2 i4 = some v4) (h5 : lget lc2 i5 = some v5) (h6 : lget lc2 i6 = some v6) (h7 : lget lc2 i7 = some v7) (h8 : lget lc2 i8 = some v8) : SubM [(i1, v1), (i2, v2), (i3, v3), (i4, v4), (i5, v5), (i6, v6), (i7, v7), (i8, v8)] lc2 := .cons h1 (sub7 h2 h3 h4 h5 h6 h7 h8)
/-- the layout of a row of loads whose object is the cell m -/
def LodL (m : Nat) : Prop := layAt m = (0, 3, [m + 4]) ∧ layAt (m + 1) = (4, 40, [])
theorem hFr_at {h : AH} {k : Nat} {f : Nat → UInt32} : (hFr h k f).2.1 k = f := by funext j; simp [hFr]
theorem hF_r2 {h : AH} {k i : Nat} {x : UInt32} {f : Nat → UInt32} : hF (hFr h k f) k i x = hFr h k (vf_upd f i x) := hF_r h k i x f
theorem Pal.fr {h : AH} {k m : Nat} {r : Nat → Int32} {w f : Nat → UInt32} (P : Pal h k r w) (hm : m ≠ k + 4) : Pal (hFr h m f) k r w := by
  refine ⟨P.1, P.2.1, fun b hb => ?_, P.2.2.2.1, P.2.2.2.2.1, P.2.2.2.2.2⟩
  obtain ⟨a1, a2, a3, a4⟩ := P.2.2.1 b hb
  exact ⟨a1, a2, by rw [hFr_ne _ _ (Ne.symm hm)]; exact a3, a4⟩
theorem p_borneBy (d : Nat) {k : Nat} (hL : PalL k) {h : AH} {r : Nat → Int32} {w : Nat → UInt32} (P : Pal h k r w) (hw : Wel r) (hm : MasW r w) {b : Nat} (hb : b < CN r) (hs : ofB r b 2 = 1) : EvM (d + 1) mX5_borneBy [.ref k, .int (nI b)] h (some (.float (bornR r w b))) h := by
  have h40 := hw.2.1
  obtain ⟨p1, p2, p3, p4, p5, p6⟩ := (hw.2.2 b hb).2 hs
  obtain ⟨j1, j2, j3⟩ := joint_ok (JT r b) (List.mem_range.mpr (by omega))
  obtain ⟨b1, b2, b3, b4⟩ := born_ok (kd := KD r b) (j := JT r b) (hm b hb hs) (by omega)
  have W := p_isOnWall d hL (b := b) (by omega) h
  rw [P.st hb] at W
  obtain ⟨L0, L1, L2, L3, L4, L5, L6, L7, L8, L9, L10, L11, L12⟩ := hL
  by_cases hk : ofB r b 0 = 0
  · have e : KD r b = 0 := if_pos hk
    unfold bornR bornF at *
    rw [e] at b1 b2 ⊢
    simp only [if_true] at b1 b2 ⊢
    show EvR _ _ 0 [(0, _), (1, _)] [] _ _ _
    iterate 2 refine er_s rfl ?_
    refine er_v1 rfl L0 rfl ⟨Nat.le_of_ble_eq_true rfl, Nat.le_of_ble_eq_true rfl⟩ (W) ?_
    refine er_b rfl rfl (fun _ => ?_) (fun q => absurd (bI_ne.mpr hs) q)
    refine er_s rfl ?_
    refine er_f rfl L0 rfl ?_
    refine er_s rfl ?_
    refine er_il rfl L2 (vi) ?_
    refine er_b rfl rfl (fun q => absurd q (fun q => q (by rw [cl b, P.kd hb]; exact hk))) (fun _ => ?_)
    refine er_s rfl ?_
    refine er_g rfl rfl ?_
    iterate 2 refine er_s rfl ?_
    refine er_f rfl L0 rfl ?_
    refine er_s rfl ?_
    refine er_fl rfl L4 (vi) ?_
    refine er_s rfl ?_
    rw [cl b, P.ms hb]
    refine er_fmul rfl (nn_of b1) ?_
    iterate 3 refine er_s rfl ?_
    refine er_f rfl L0 rfl ?_
    refine er_s rfl ?_
    refine er_il rfl L8 (vi) ?_
    rw [cl b, P.jt hb, p5]
    refine er_s rfl ?_
    refine er_fmul rfl (nn_of j1) ?_
    refine er_fadd rfl (nn_of (Nat.lt_of_le_of_lt j3 (by decide))) ?_
    refine er_fmul rfl (nn_of b2) ?_
    refine er_q rfl ?_ ?_
    · rfl
    · rfl
  · have e : KD r b = 1 := if_neg hk
    unfold bornR bornF at *
    rw [e] at b1 b2 ⊢
    simp only [Nat.one_ne_zero, if_false] at b1 b2 ⊢
    show EvR _ _ 0 [(0, _), (1, _)] [] _ _ _
    iterate 2 refine er_s rfl ?_
    refine er_v1 rfl L0 rfl ⟨Nat.le_of_ble_eq_true rfl, Nat.le_of_ble_eq_true rfl⟩ (W) ?_
    refine er_b rfl rfl (fun _ => ?_) (fun q => absurd (bI_ne.mpr hs) q)
    refine er_s rfl ?_
    refine er_f rfl L0 rfl ?_
    refine er_s rfl ?_
    refine er_il rfl L2 (vi) ?_
    refine er_b rfl rfl (fun _ => ?_) (fun q => absurd (by rw [cl b, P.kd hb]; exact hk) q)
    iterate 3 refine er_s rfl ?_
    refine er_f rfl L0 rfl ?_
    refine er_s rfl ?_
    refine er_fl rfl L4 (vi) ?_
    refine er_s rfl ?_
    rw [cl b, P.ms hb]
    refine er_fmul rfl (nn_of b1) ?_
    iterate 3 refine er_s rfl ?_
    refine er_f rfl L0 rfl ?_
    refine er_s rfl ?_
    refine er_il rfl L8 (vi) ?_
    rw [cl b, P.jt hb, p5]
    refine er_s rfl ?_
    refine er_fmul rfl (nn_of j1) ?_
    refine er_fadd rfl (nn_of (Nat.lt_of_le_of_lt j3 (by decide))) ?_
    refine er_fmul rfl (nn_of b2) ?_
    refine er_q rfl ?_ ?_
    · rfl
    · rfl
/-- handed down by the first i columns -/
def giveC (r : Nat → Int32) (w ld : Nat → UInt32) (a i : Nat) : Nat → UInt32 := fun b => if b < CN r ∧ anyB (colP r a b) i = true then FP.fadd (ld b) (shareF (w a) (ld a) (colsN r a b) (supN r a)) else ld b
theorem giveC_0 {r : Nat → Int32} {w ld : Nat → UInt32} {a : Nat} : giveC r w ld a 0 = ld := by
  funext b
  exact if_neg (fun q => Bool.false_ne_true q.2)
theorem giveC_n {r : Nat → Int32} {w ld : Nat → UInt32} {a i : Nat} (h : ∀ b, b < CN r → colP r a b i = true → anyB (colP r a b) i = true) : giveC r w ld a (i + 1) = giveC r w ld a i := by
  funext b
  have e : b < CN r → anyB (colP r a b) (i + 1) = anyB (colP r a b) i := fun hb => by
    show (colP r a b i || anyB (colP r a b) i) = _
    by_cases q : colP r a b i = true
    · rw [h b hb q, Bool.or_true]
    · rw [Bool.eq_false_iff.mpr q, Bool.false_or]
  unfold giveC
  by_cases hb : b < CN r
  · rw [e hb]
  · rw [if_neg (fun q => hb q.1), if_neg (fun q => hb q.1)]
theorem giveC_u {r : Nat → Int32} {w ld : Nat → UInt32} {a i b0 : Nat} (h40 : CN r ≤ 40) (hb0 : b0 < CN r) (hg : gAt r (CU r a - 1) (CO r a + i) = nI b0) : giveC r w ld a (i + 1) = vf_upd (giveC r w ld a i) b0 (FP.fadd (ld b0) (shareF (w a) (ld a) (colsN r a b0) (supN r a))) := by
  funext b
  unfold vf_upd
  have hc : b < CN r → (colP r a b i = true ↔ b = b0) := fun hb => by
    unfold colP
    rw [decide_eq_true_iff, hg, nI_eq (by omega) (by omega)]
    exact eq_comm
  by_cases e : b = b0
  · subst e
    rw [if_pos rfl]
    refine if_pos ⟨hb0, ?_⟩
    show (colP r a b i || anyB (colP r a b) i) = true
    rw [(hc hb0).mpr rfl, Bool.true_or]
  · rw [if_neg e]
    unfold giveC
    by_cases hb : b < CN r
    · have : anyB (colP r a b) (i + 1) = anyB (colP r a b) i := by
        show (colP r a b i || anyB (colP r a b) i) = _
        rw [Bool.eq_false_iff.mpr (fun q => e ((hc hb).mp q)), Bool.false_or]
      rw [this]
    · rw [if_neg (fun q => hb q.1), if_neg (fun q => hb q.1)]
/-- what lies at a place, by the order of the row -/
theorem gr_at {r : Nat → Int32} (hS : Str r) {c j b : Nat} (hc : c < 8) (hj : j < 12) (hb : b < CN r) (h : gAt r c j = nI b) : cov r b c j := by
  have h40 := hS.1.2.1
  rcases hS.2.2.2.1 c j hc hj with h0 | ⟨b', c1, c2, c3⟩
  · rw [h0] at h
    exact absurd (nI_pos' (n := b) (by omega)) (by rw [← h]; decide)
  · rw [c2] at h
    have := (nI_eq (by omega) (by omega)).mp h
    subst this
    exact c3
theorem giveC_R {r : Nat → Int32} {w ld : Nat → UInt32} (hS : Str r) {a : Nat} (ha : a < CN r) (sa : ofB r a 2 = 1) (hc : 0 < CU r a) : giveC r w ld a (LN r a) = giveR r w ld a (CN r) := by
  have h40 := hS.1.2.1
  obtain ⟨-, a2, a3, a4, -, -⟩ := (hS.1.2.2 a ha).2 sa
  funext b
  unfold giveC giveR
  have e : b < CN r → (anyB (colP r a b) (LN r a) = true ↔ (ofB r b 2 = 1 ∧ ofB r b 4 = ofB r a 4 - 1 ∧ 0 < colsN r a b)) := fun hb => by
    constructor
    · intro q
      obtain ⟨i, i1, i2⟩ := anyB_iff.mp q
      have cv := gr_at hS (by omega) (by omega) hb (of_decide_eq_true i2)
      have pb := (hS.1.2.2 b hb).2 cv.1
      refine ⟨cv.1, ?_, cntP_pos.mpr ⟨i, i1, i2⟩⟩
      rw [pb.2.2.1, a3, nI_mod hc, cv.2.1]
    · rintro ⟨-, -, q⟩
      obtain ⟨i, i1, i2⟩ := cntP_pos.mp q
      exact anyB_iff.mpr ⟨i, i1, i2⟩
  by_cases hb : b < CN r
  · by_cases q : anyB (colP r a b) (LN r a) = true
    · rw [if_pos ⟨hb, q⟩, if_pos ⟨hb, (e hb).mp q⟩]
    · rw [if_neg (fun z => q z.2), if_neg (fun z => q ((e hb).mpr z.2))]
  · rw [if_neg (fun q => hb q.1), if_neg (fun q => hb q.1)]
/-- the latest block that was met -/
def latI (r : Nat → Int32) (a i : Nat) (l : Int32) : Prop := (l = -1 ∧ ∀ i', i' < i → gAt r (CU r a - 1) (CO r a + i') = -1) ∨ ∃ bl i0, bl < CN r ∧ l = nI bl ∧ i0 < i ∧ gAt r (CU r a - 1) (CO r a + i0) = nI bl ∧ ∀ i', i0 < i' → i' < i → gAt r (CU r a - 1) (CO r a + i') = -1
theorem latI_m {r : Nat → Int32} {a i : Nat} {l : Int32} (h : latI r a i l) (hg : gAt r (CU r a - 1) (CO r a + i) = -1) : latI r a (i + 1) l := by
  rcases h with ⟨h1, h2⟩ | ⟨bl, i0, h1, h2, h3, h4, h5⟩
  · refine Or.inl ⟨h1, fun i' hi => ?_⟩
    by_cases e : i' = i
    · rw [e]; exact hg
    · exact h2 i' (by omega)
  · refine Or.inr ⟨bl, i0, h1, h2, by omega, h4, fun i' a1 a2 => ?_⟩
    by_cases e : i' = i
    · rw [e]; exact hg
    · exact h5 i' a1 (by omega)
theorem latI_u {r : Nat → Int32} {a i b0 : Nat} (hb : b0 < CN r) (hg : gAt r (CU r a - 1) (CO r a + i) = nI b0) : latI r a (i + 1) (nI b0) := Or.inr ⟨b0, i, hb, rfl, Nat.lt_succ_self i, hg, fun i' a1 a2 => by omega⟩
theorem latI_new {r : Nat → Int32} (hS : Str r) {a i b0 : Nat} {l : Int32} (ha : a < CN r) (sa : ofB r a 2 = 1) (hc : 0 < CU r a) (hi : i < LN r a) (h : latI r a i l) (hb : b0 < CN r) (hg : gAt r (CU r a - 1) (CO r a + i) = nI b0) (hl : ¬ nI b0 = l) : ¬ anyB (colP r a b0) i = true := by
  have h40 := hS.1.2.1
  obtain ⟨-, a2, a3, a4, -, -⟩ := (hS.1.2.2 a ha).2 sa
  intro q
  obtain ⟨i1, j1, j2⟩ := anyB_iff.mp q
  have j2 := of_decide_eq_true j2
  rcases h with ⟨h1, h2⟩ | ⟨bl, i0, h1, h2, h3, h4, h5⟩
  · rw [h2 i1 j1] at j2
    exact absurd (nI_pos' (n := b0) (by omega)) (by rw [← j2]; decide)
  · rcases Nat.lt_trichotomy i1 i0 with t | t | t
    · have c1 := gr_at hS (by omega) (by omega) hb j2
      have c2 := gr_at hS (by omega) (by omega) hb hg
      have c3 := hS.2.2.1 (CU r a - 1) (CO r a + i0) b0 (by omega) (by omega) hb ⟨c1.1, c1.2.1, by have := c1.2.2.1; omega, by have := c2.2.2.2; omega⟩
      rw [h4] at c3
      exact hl (by rw [h2, c3])
    · subst t
      rw [h4] at j2
      exact hl (by rw [h2, j2])
    · rw [h5 i1 t j1] at j2
      exact absurd (nI_pos' (n := b0) (by omega)) (by rw [← j2]; decide)
theorem latI_old {r : Nat → Int32} {a i b0 : Nat} {l : Int32} (h40 : CN r ≤ 40) (hb : b0 < CN r) (h : latI r a i l) (hl : nI b0 = l) : anyB (colP r a b0) i = true := by
  rcases h with ⟨h1, h2⟩ | ⟨bl, i0, h1, h2, h3, h4, h5⟩
  · rw [h1] at hl
    exact absurd (nI_pos' (n := b0) (by omega)) (by rw [hl]; decide)
  · rw [h2] at hl
    have := (nI_eq (by omega) (by omega)).mp hl
    subst this
    exact anyB_iff.mpr ⟨i0, h3, decide_eq_true h4⟩
theorem p_hand (d : Nat) {k m : Nat} (hL : PalL k) (hM : LodL m) (hkm : m + 1 ≠ k + 4) {h : AH} {r : Nat → Int32} {w : Nat → UInt32} (P : Pal h k r w) (hS : Str r) {a : Nat} (ha : a < CN r) (sa : ofB r a 2 = 1) (hc : 0 < CU r a) (hN : giveNN r w (h.2.1 (m + 1)) a) (hN0 : nn (FP.fadd (w a) (h.2.1 (m + 1) a))) : EvM (d + 2) mX5_handDown [.ref m, .ref k, .int (nI a)] h none (hFr h (m + 1) (giveR r w (h.2.1 (m + 1)) a (CN r))) := by
  have h40 := hS.1.2.1
  obtain ⟨la, pa⟩ := hS.1.2.2 a ha
  have pa := pa sa
  obtain ⟨l1, l2, l3⟩ := id la
  obtain ⟨a1, a2, a3, a4, a5, a6⟩ := id pa
  have S := p_supCols d hL P (c := CU r a) (j := CO r a) (L := LN r a) (by omega) (by omega)
  have sl := supN_le la
  have hL2 := hL
  obtain ⟨L0, L1, L2, L3, L4, L5, L6, L7, L8, L9, L10, L11, L12⟩ := hL2
  obtain ⟨N0, N1⟩ := hM
  by_cases hz : supN r a = 0
  · have e : giveR r w (h.2.1 (m + 1)) a (CN r) = h.2.1 (m + 1) := by
      funext b
      exact if_neg (fun q => by have := colsN_sup (r := r) (a := a) (b := b) (by omega) q.2.2.2; omega)
    rw [e, hFr_self]
    have S0 : EvM (d + 1) mX8_supportedColumns [.ref k, .int (nI (CO r a)), .int (nI (LN r a)), .int (nI (CU r a))] h (some (.int (nI 0))) h := by rw [← hz]; exact S
    show EvR _ _ 0 [(0, _), (1, _), (2, _)] [] _ _ _
    refine er_s rfl ?_
    refine er_b rfl rfl (fun q => absurd q (nI_pos (by omega))) (fun _ => ?_)
    iterate 2 refine er_s rfl ?_
    refine er_b rfl rfl (fun _ => ?_) (fun q => absurd (nI_lt (b := 40) (by omega) (by decide)) q)
    refine er_s rfl ?_
    refine er_f rfl L0 rfl ?_
    refine er_s rfl ?_
    refine er_il rfl L7 (vi) ?_
    rw [cl a, P.cu ha, a3]
    iterate 3 refine er_s rfl ?_
    refine er_f rfl L0 rfl ?_
    refine er_s rfl ?_
    refine er_il rfl L6 (vi) ?_
    refine er_s rfl ?_
    refine er_f rfl L0 rfl ?_
    refine er_s rfl ?_
    refine er_il rfl L3 (vi) ?_
    refine er_s rfl ?_
    rw [cl a, P.co ha, P.ln ha, a1, l1]
    refine er_v3 rfl L0 rfl ⟨Nat.le_of_ble_eq_true rfl, Nat.le_of_ble_eq_true rfl⟩ (S0) ?_
    iterate 3 refine er_s rfl ?_
    refine er_b rfl rfl (fun q => absurd q (by decide)) (fun _ => ?_)
    refine er_q rfl ?_ ?_
    · rfl
    · rfl
  · rw [← giveC_R hS ha sa hc]
    generalize hld : h.2.1 (m + 1) = ld at hN hN0 ⊢
    have Lp : ∀ (n i : Nat) (l : Int32), i + n = LN r a → latI r a i l → EvR (d + 2) mX5_handDown 65 [(0, .ref m), (1, .ref k), (2, .int (nI a)), (3, .int (nI (CU r a))), (4, .int (nI (supN r a))), (5, .float (FP.fadd (w a) (ld a))), (6, .int l), (7, .int (nI i))] [] (hFr h (m + 1) (giveC r w ld a i)) none (hFr h (m + 1) (giveC r w ld a (LN r a))) := by
      intro n
      induction n with
      | zero =>
        intro i l hi hl
        have hi : i = LN r a := by omega
        iterate 2 refine er_s rfl ?_
        refine er_f rfl L0 rfl ?_
        refine er_s rfl ?_
        refine er_il rfl L3 (vi) ?_
        rw [cl a, show (hFr h (m + 1) (giveC r w ld a i)).1 (k + 3) a = ofB r a 1 from P.ln ha, l1]
        refine er_b rfl rfl (fun _ => ?_) (fun q => absurd (by rw [hi]; exact Int32.le_refl _) q)
        refine er_q rfl ?_ ?_
        · rfl
        · rw [hi]
      | succ n ih =>
        intro i l hi hl
        have P2 := P.fr (f := giveC r w ld a i) hkm
        have B := p_blockAt (d + 1) hL (c := CU r a - 1) (j := CO r a + i) (by omega) (by omega) (hFr h (m + 1) (giveC r w ld a i))
        rw [P2.gr (by omega) (by omega)] at B
        rcases hS.2.2.2.1 (CU r a - 1) (CO r a + i) (by omega) (by omega) with g | ⟨b0, g1, g2, g3⟩
        · have IH := ih (i + 1) l (by omega) (latI_m hl g)
          rw [giveC_n (fun b hb q => by
            have := of_decide_eq_true q
            rw [g] at this
            exact absurd (nI_pos' (n := b) (by omega)) (by rw [← this]; decide))] at IH
          rw [g] at B
          iterate 2 refine er_s rfl ?_
          refine er_f rfl L0 rfl ?_
          refine er_s rfl ?_
          refine er_il rfl L3 (vi) ?_
          rw [cl a, P2.ln ha, l1]
          refine er_b rfl rfl (fun q => absurd q (nI_ge (by omega) (by omega))) (fun _ => ?_)
          iterate 2 refine er_s rfl ?_
          refine er_f rfl L0 rfl ?_
          refine er_s rfl ?_
          refine er_il rfl L6 (vi) ?_
          rw [cl a, P2.co ha, a1]
          iterate 5 refine er_s rfl ?_
          rw [nI_add, nI_mod hc]
          refine er_v2 rfl L0 rfl ⟨Nat.le_of_ble_eq_true rfl, Nat.le_of_ble_eq_true rfl⟩ (B) ?_
          iterate 2 refine er_s rfl ?_
          refine er_b rfl rfl (fun _ => ?_) (fun q => absurd (by decide) q)
          refine er_s rfl ?_
          refine er_g rfl rfl ?_
          rw [nI_1]
          exact er_sub (sub8 rfl rfl rfl rfl rfl rfl rfl rfl) IH
        · rw [g2] at B
          by_cases hlb : nI b0 = l
          · have IH := ih (i + 1) l (by omega) (by rw [← hlb]; exact latI_u g1 g2)
            rw [giveC_n (fun b hb q => by
              have := of_decide_eq_true q
              rw [g2] at this
              have := (nI_eq (by omega) (by omega)).mp this
              subst this
              exact latI_old h40 g1 hl hlb)] at IH
            iterate 2 refine er_s rfl ?_
            refine er_f rfl L0 rfl ?_
            refine er_s rfl ?_
            refine er_il rfl L3 (vi) ?_
            rw [cl a, P2.ln ha, l1]
            refine er_b rfl rfl (fun q => absurd q (nI_ge (by omega) (by omega))) (fun _ => ?_)
            iterate 2 refine er_s rfl ?_
            refine er_f rfl L0 rfl ?_
            refine er_s rfl ?_
            refine er_il rfl L6 (vi) ?_
            rw [cl a, P2.co ha, a1]
            iterate 5 refine er_s rfl ?_
            rw [nI_add, nI_mod hc]
            refine er_v2 rfl L0 rfl ⟨Nat.le_of_ble_eq_true rfl, Nat.le_of_ble_eq_true rfl⟩ (B) ?_
            iterate 2 refine er_s rfl ?_
            refine er_b rfl rfl (fun q => absurd q (nI_pos (by omega))) (fun _ => ?_)
            iterate 2 refine er_s rfl ?_
            refine er_b rfl rfl (fun q => absurd q (nI_ge (b := 40) (by omega) (by decide))) (fun _ => ?_)
            iterate 2 refine er_s rfl ?_
            refine er_b rfl rfl (fun _ => ?_) (fun q => absurd hlb q)
            refine er_s rfl ?_
            refine er_g rfl rfl ?_
            rw [nI_1]
            exact er_sub (sub8 rfl rfl rfl rfl rfl rfl rfl rfl) IH
          · have IH := ih (i + 1) (nI b0) (by omega) (latI_u g1 g2)
            rw [giveC_u h40 g1 g2] at IH
            have hnew := latI_new hS ha sa hc (by omega) hl g1 g2 hlb
            have eold : giveC r w ld a i b0 = ld b0 := if_neg (fun q => hnew q.2)
            have pb := (hS.1.2.2 b0 g1).2 g3.1
            have hcols : 0 < colsN r a b0 := cntP_pos.mpr ⟨i, by omega, decide_eq_true g2⟩
            obtain ⟨n1, n2, n3, n4⟩ := hN b0 g1 ⟨g3.1, by rw [pb.2.2.1, a3, nI_mod hc, g3.2.1], hcols⟩
            have Sh := p_shared (d + 1) hL P2 hS.1 ha g1 sa g3.1
            rw [← colsN_sh hS ha g1 sa g3.1 (by have := g3.2.1; omega)] at Sh
            iterate 2 refine er_s rfl ?_
            refine er_f rfl L0 rfl ?_
            refine er_s rfl ?_
            refine er_il rfl L3 (vi) ?_
            rw [cl a, P2.ln ha, l1]
            refine er_b rfl rfl (fun q => absurd q (nI_ge (by omega) (by omega))) (fun _ => ?_)
            iterate 2 refine er_s rfl ?_
            refine er_f rfl L0 rfl ?_
            refine er_s rfl ?_
            refine er_il rfl L6 (vi) ?_
            rw [cl a, P2.co ha, a1]
            iterate 5 refine er_s rfl ?_
            rw [nI_add, nI_mod hc]
            refine er_v2 rfl L0 rfl ⟨Nat.le_of_ble_eq_true rfl, Nat.le_of_ble_eq_true rfl⟩ (B) ?_
            iterate 2 refine er_s rfl ?_
            refine er_b rfl rfl (fun q => absurd q (nI_pos (by omega))) (fun _ => ?_)
            iterate 2 refine er_s rfl ?_
            refine er_b rfl rfl (fun q => absurd q (nI_ge (b := 40) (by omega) (by decide))) (fun _ => ?_)
            iterate 2 refine er_s rfl ?_
            refine er_b rfl rfl (fun q => absurd q (fun q => hlb q)) (fun _ => ?_)
            iterate 3 refine er_s rfl ?_
            refine er_v2 rfl L0 rfl ⟨Nat.le_of_ble_eq_true rfl, Nat.le_of_ble_eq_true rfl⟩ (Sh) ?_
            iterate 2 refine er_s rfl ?_
            refine er_f rfl N0 rfl ?_
            iterate 2 refine er_s rfl ?_
            refine er_f rfl N0 rfl ?_
            refine er_s rfl ?_
            refine er_fl rfl N1 (vi) ?_
            iterate 3 refine er_s rfl ?_
            refine er_fmul rfl n2 ?_
            iterate 2 refine er_s rfl ?_
            refine er_fdiv rfl n3 ?_
            rw [cl b0, hFr_at, eold]
            refine er_fadd rfl n4 ?_
            refine er_fs rfl N1 (vi) ?_
            iterate 3 refine er_s rfl ?_
            refine er_g rfl rfl ?_
            rw [nI_1, cl b0, hF_r2]
            exact er_sub (sub8 rfl rfl rfl rfl rfl rfl rfl rfl) IH
    have Z := Lp (LN r a) 0 (-1) (by omega) (Or.inl ⟨rfl, fun i' hi => absurd hi (Nat.not_lt_zero _)⟩)
    rw [giveC_0, ← hld, hFr_self, hld] at Z
    show EvR _ _ 0 [(0, _), (1, _), (2, _)] [] _ _ _
    refine er_s rfl ?_
    refine er_b rfl rfl (fun q => absurd q (nI_pos (by omega))) (fun _ => ?_)
    iterate 2 refine er_s rfl ?_
    refine er_b rfl rfl (fun _ => ?_) (fun q => absurd (nI_lt (b := 40) (by omega) (by decide)) q)
    refine er_s rfl ?_
    refine er_f rfl L0 rfl ?_
    refine er_s rfl ?_
    refine er_il rfl L7 (vi) ?_
    rw [cl a, P.cu ha, a3]
    iterate 3 refine er_s rfl ?_
    refine er_f rfl L0 rfl ?_
    refine er_s rfl ?_
    refine er_il rfl L6 (vi) ?_
    refine er_s rfl ?_
    refine er_f rfl L0 rfl ?_
    refine er_s rfl ?_
    refine er_il rfl L3 (vi) ?_
    refine er_s rfl ?_
    rw [cl a, P.co ha, P.ln ha, a1, l1]
    refine er_v3 rfl L0 rfl ⟨Nat.le_of_ble_eq_true rfl, Nat.le_of_ble_eq_true rfl⟩ (S) ?_
    iterate 3 refine er_s rfl ?_
    refine er_b rfl rfl (fun _ => ?_) (fun q => absurd (nI_le (a := 1) (Nat.pos_of_ne_zero hz) (by omega)) q)
    refine er_s rfl ?_
    refine er_f rfl L0 rfl ?_
    refine er_s rfl ?_
    refine er_fl rfl L4 (vi) ?_
    refine er_s rfl ?_
    refine er_f rfl N0 rfl ?_
    refine er_s rfl ?_
    refine er_fl rfl N1 (vi) ?_
    rw [cl a, P.ms ha, hld]
    refine er_fadd rfl hN0 ?_
    iterate 5 refine er_s rfl ?_
    exact er_sub (sub8 rfl rfl rfl rfl rfl rfl rfl rfl) Z
end
