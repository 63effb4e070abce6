-- needs: 82
noncomputable section
theorem sub9 {lc2 : LC} {i1 i2 i3 i4 i5 i6 i7 i8 i9 : Nat} {v1 v2 v3 v4 v5 v6 v7 v8 v9 : Value} (h1 : lget lc2 i1 = some v1) (h2 : lget lc2 i2 = some v2) (h3 : lget lc2 i3 = some v3) (h4 : lget lc2 i4 = some v4) (h5 : lget lc2 i5 = some v5) (h6 : lget lc2 i6 = some v6) (h7 : lget lc2 i7 = some v7) (h8 : lget lc2 i8 = some v8) (h9 : lget lc2 i9 = some v9) : SubM [(i1, v1), (i2, v2), (i3, v3), (i4, v4), (i5, v5), (i6, v6), (i7, v7), (i8, v8), (i9, v9)] lc2 := .cons h1 (sub8 h2 h3 h4 h5 h6 h7 h8 h9)
theorem roomN_0 {r : Nat → Int32} {c j : Nat} (h : j = 0 ∨ ¬ fF r c (j - 1) = true) : roomN r c j = 0 := by
  unfold roomN
  rw [if_neg (fun q => h.elim (fun z => q.1 z) (fun z => z q.2.1))]
theorem roomN_e {r : Nat → Int32} {c j : Nat} (hj : j ≤ 12) (h : ∀ t, j ≤ t → t < 12 → ¬ fF r c t = true) : roomN r c j = 0 := by
  unfold roomN
  have := (fstP_le (p := rmP r c) (n := 12) (12 - j) j (by omega)).2
  rw [if_neg (fun q => h _ this q.2.2.1 q.2.2.2)]
theorem rmI_0 {r : Nat → Int32} {c n : Nat} (h : roomN r c n = 0) : rmI r c (n + 1) = rmI r c n := by
  show rmS r c n (rmI r c n) = _
  unfold rmS
  rw [h, if_neg (Nat.lt_irrefl 0), if_neg (Nat.not_lt_zero _), if_neg (Nat.not_lt_zero _)]
  rfl
theorem rmI_ext {r : Nat → Int32} {c a : Nat} : ∀ m, (∀ j, a ≤ j → j < a + m → roomN r c j = 0) → rmI r c (a + m) = rmI r c a
  | 0, _ => rfl
  | m + 1, h => (rmI_0 (h (a + m) (by omega) (by omega))).trans (rmI_ext m (fun j h1 h2 => h j h1 (by omega)))
theorem roomN_s {r : Nat → Int32} {c s i : Nat} (hs : s ≠ 0) (hi : i < 12) (hsi : s ≤ i) (h1 : fF r c (s - 1) = true) (h2 : ∀ t, s ≤ t → t < i → ¬ fF r c t = true) (h3 : fF r c i = true) {fl : Bool} (hf : fl = true ↔ ∀ t, s ≤ t → t < i → fF r (c + 1) t = true) : roomN r c s = if fl = true then i - s else 0 := by
  by_cases e : fl = true
  · rw [if_pos e]
    have hf := hf.mp e
    have ek : rmK r c s = i := fstP_eq (12 - s) s (by omega) hsi hi (by unfold rmP; rw [h3]; rfl) (fun t t1 t2 => by
      unfold rmP
      rw [Bool.eq_false_iff.mpr (h2 t t1 t2), hf t t1 t2]
      decide)
    unfold roomN
    rw [ek, if_pos ⟨hs, h1, hi, h3⟩]
  · rw [if_neg e]
    unfold roomN
    refine if_neg (fun q => e (hf.mpr (fun t t1 t2 => ?_)))
    by_cases z : fF r (c + 1) t = true
    · exact z
    · exfalso
      have hp : rmP r c t = true := by unfold rmP; rw [Bool.eq_false_iff.mpr z]; simp
      have hk : rmK r c s ≤ t := by
        by_cases y : rmK r c s ≤ t
        · exact y
        · exact absurd hp (fstP_lt (12 - s) s (by omega) t t1 (Nat.lt_of_not_le y))
      have hk2 := (fstP_le (p := rmP r c) (n := 12) (12 - s) s (by omega)).2
      exact h2 _ hk2 (Nat.lt_of_le_of_lt hk t2) q.2.2.2
theorem p_at (d : Nat) {h : AH} {r : Nat → Int32} {w : Nat → UInt32} (P : Pal h 32 r w) {c j : Nat} (hc : c < 9) (hj : j < 12) : ∃ v, EvM d mX8_blockAt [.ref 32, .int (nI j), .int (nI c)] h (some (.int v)) h ∧ (0 ≤ v ↔ fF r c j = true) := by
  by_cases e : c < 8
  · have G := p_blockAt d palL32 (c := c) (j := j) e hj h
    rw [P.gr e hj] at G
    exact ⟨_, G, ⟨fun z => decide_eq_true ⟨e, z⟩, fun z => (of_decide_eq_true z).2⟩⟩
  · have e : c = 8 := by omega
    subst e
    exact ⟨-1, p_blockAt8 d hj h, ⟨fun z => absurd z (by decide), fun z => absurd (of_decide_eq_true z).1 (by decide)⟩⟩
theorem p_rm_loop (d : Nat) {h : AH} {r : Nat → Int32} {w : Nat → UInt32} (P : Pal h 32 r w) {c : Nat} (hc : c < 8) (q9 : Int32) : ∀ (m i s : Nat) (fl : Bool), i + m = 12 → s ≤ i → (s ≠ 0 → fF r c (s - 1) = true) → (∀ t, s ≤ t → t < i → ¬ fF r c t = true) → (fl = true ↔ ∀ t, s ≤ t → t < i → fF r (c + 1) t = true) → EvR (d + 1) mX7_roomNumber 17 [(0, .ref 32), (1, .int (nI c)), (2, .int q9), (3, .int (nI (rmI r c s).1)), (4, .int (nI (rmI r c s).2.1)), (5, .int (rmI r c s).2.2), (6, .int (if s = 0 then -1 else nI s)), (7, .int (bI (fl = true))), (8, .int (nI i))] [] h (some (.int (roomsA r c q9))) h
  | 0, i, s, fl, hi, hsi, h1, h2, hf => by
    have hi : i = 12 := by omega
    subst hi
    have e : rmI r c 12 = rmI r c s := by
      have := rmI_ext (r := r) (c := c) (a := s) (12 - s) (fun j j1 j2 => by
        by_cases e : j = s
        · subst e; exact roomN_e (by omega) (fun t t1 t2 => h2 t t1 t2)
        · exact roomN_0 (Or.inr (h2 (j - 1) (by omega) (by omega))))
      rw [show s + (12 - s) = 12 by omega] at this
      exact this
    unfold roomsA
    rw [e]
    by_cases c1 : q9 = 0
    · rw [if_pos c1]
      iterate 2 refine er_s rfl ?_
      refine er_b rfl rfl (fun _ => ?_) (fun q => absurd (Int32.le_refl _) q)
      refine er_s rfl ?_
      refine er_b rfl rfl (fun q => absurd q (fun z => z c1)) (fun _ => ?_)
      refine er_s rfl ?_
      refine er_g rfl rfl ?_
      refine er_q rfl ?_ ?_
      · rfl
      · rfl
    · rw [if_neg c1]
      by_cases c2 : q9 = 1
      · rw [if_pos c2]
        iterate 2 refine er_s rfl ?_
        refine er_b rfl rfl (fun _ => ?_) (fun q => absurd (Int32.le_refl _) q)
        refine er_s rfl ?_
        refine er_b rfl rfl (fun _ => ?_) (fun q => absurd c1 q)
        iterate 2 refine er_s rfl ?_
        refine er_b rfl rfl (fun q => absurd q (fun z => z c2)) (fun _ => ?_)
        refine er_s rfl ?_
        refine er_g rfl rfl ?_
        refine er_q rfl ?_ ?_
        · rfl
        · rfl
      · rw [if_neg c2]
        iterate 2 refine er_s rfl ?_
        refine er_b rfl rfl (fun _ => ?_) (fun q => absurd (Int32.le_refl _) q)
        refine er_s rfl ?_
        refine er_b rfl rfl (fun _ => ?_) (fun q => absurd c1 q)
        iterate 2 refine er_s rfl ?_
        refine er_b rfl rfl (fun _ => ?_) (fun q => absurd c2 q)
        refine er_s rfl ?_
        refine er_q rfl ?_ ?_
        · rfl
        · rfl
  | m + 1, i, s, fl, hi, hsi, h1, h2, hf => by
    obtain ⟨v1, V1, W1⟩ := p_at d P (c := c) (j := i) (by omega) (by omega)
    obtain ⟨v2, V2, W2⟩ := p_at d P (c := c + 1) (j := i) (by omega) (by omega)
    have lb := rmI_le (r := r) (c := c) s
    by_cases f1 : fF r c i = true
    · have g1 : 0 ≤ v1 := W1.mpr f1
      have IH := p_rm_loop d P hc q9 m (i + 1) (i + 1) true (by omega) (Nat.le_refl _) (fun _ => f1) (fun t t1 t2 => absurd t1 (by omega)) ⟨fun _ t t1 t2 => absurd t1 (by omega), fun _ => rfl⟩
      rw [if_neg (show ¬ i + 1 = 0 by omega)] at IH
      have ex : rmI r c (i + 1) = rmI r c (s + 1) := by
        have := rmI_ext (r := r) (c := c) (a := s + 1) (i - s) (fun j j1 j2 => roomN_0 (Or.inr (h2 (j - 1) (by omega) (by omega))))
        rw [show s + 1 + (i - s) = i + 1 by omega] at this
        exact this
      by_cases s0 : s = 0
      · have e : rmI r c (i + 1) = rmI r c s := ex.trans (rmI_0 (roomN_0 (Or.inl s0)))
        rw [e] at IH
        rw [if_pos s0]
        iterate 2 refine er_s rfl ?_
        refine er_b rfl rfl (fun q => absurd q (nI_ge (b := 12) (by omega) (by omega))) (fun _ => ?_)
        iterate 3 refine er_s rfl ?_
        refine er_c rfl rfl ⟨Nat.le_of_ble_eq_true rfl, Nat.le_of_ble_eq_true rfl⟩ (V1) ?_
        refine er_b rfl rfl (fun _ => ?_) (fun q => absurd g1 q)
        iterate 5 refine er_s rfl ?_
        refine er_b rfl rfl (fun _ => ?_) (fun q => absurd (by decide) q)
        iterate 7 refine er_s rfl ?_
        refine er_g rfl rfl ?_
        rw [nI_1]
        exact er_sub (sub9 rfl rfl rfl rfl rfl rfl rfl rfl rfl) IH
      · rw [if_neg s0]
        have rs := roomN_s s0 (by omega) hsi (h1 s0) h2 f1 hf
        have es : nI i - nI s = nI (i - s) := nI_sub hsi
        by_cases l0 : i - s = 0
        · have e : rmI r c (i + 1) = rmI r c s := ex.trans (rmI_0 (by rw [rs, l0]; split <;> rfl))
          rw [e] at IH
          iterate 2 refine er_s rfl ?_
          refine er_b rfl rfl (fun q => absurd q (nI_ge (b := 12) (by omega) (by omega))) (fun _ => ?_)
          iterate 3 refine er_s rfl ?_
          refine er_c rfl rfl ⟨Nat.le_of_ble_eq_true rfl, Nat.le_of_ble_eq_true rfl⟩ (V1) ?_
          refine er_b rfl rfl (fun _ => ?_) (fun q => absurd g1 q)
          iterate 3 refine er_s rfl ?_
          rw [es]
          iterate 2 refine er_s rfl ?_
          refine er_b rfl rfl (fun q => absurd q (lt0 (by omega))) (fun _ => ?_)
          refine er_s rfl ?_
          refine er_b rfl rfl (fun _ => ?_) (fun q => absurd (by rw [l0]; decide) q)
          iterate 7 refine er_s rfl ?_
          refine er_g rfl rfl ?_
          rw [nI_1]
          exact er_sub (sub9 rfl rfl rfl rfl rfl rfl rfl rfl rfl) IH
        · cases fl
          · have e : rmI r c (i + 1) = rmI r c s := ex.trans (rmI_0 (by rw [rs, if_neg (by decide)]))
            rw [e] at IH
            iterate 2 refine er_s rfl ?_
            refine er_b rfl rfl (fun q => absurd q (nI_ge (b := 12) (by omega) (by omega))) (fun _ => ?_)
            iterate 3 refine er_s rfl ?_
            refine er_c rfl rfl ⟨Nat.le_of_ble_eq_true rfl, Nat.le_of_ble_eq_true rfl⟩ (V1) ?_
            refine er_b rfl rfl (fun _ => ?_) (fun q => absurd g1 q)
            iterate 3 refine er_s rfl ?_
            rw [es]
            iterate 2 refine er_s rfl ?_
            refine er_b rfl rfl (fun q => absurd q (lt0 (by omega))) (fun _ => ?_)
            refine er_s rfl ?_
            refine er_b rfl rfl (fun q => absurd q (nI_nle (by omega) (by omega))) (fun _ => ?_)
            refine er_s rfl ?_
            refine er_b rfl rfl (fun _ => ?_) (fun q => absurd rfl q)
            iterate 7 refine er_s rfl ?_
            refine er_g rfl rfl ?_
            rw [nI_1]
            exact er_sub (sub9 rfl rfl rfl rfl rfl rfl rfl rfl rfl) IH
          · rw [if_pos rfl] at rs
            have e2 : rmI r c (s + 1) = rmS r c s (rmI r c s) := rfl
            unfold rmS at e2
            rw [rs, if_pos (show 0 < i - s by omega)] at e2
            by_cases b1 : (rmI r c s).2.1 < i - s
            · rw [if_pos b1, if_pos b1] at e2
              rw [ex, e2] at IH
              iterate 2 refine er_s rfl ?_
              refine er_b rfl rfl (fun q => absurd q (nI_ge (b := 12) (by omega) (by omega))) (fun _ => ?_)
              iterate 3 refine er_s rfl ?_
              refine er_c rfl rfl ⟨Nat.le_of_ble_eq_true rfl, Nat.le_of_ble_eq_true rfl⟩ (V1) ?_
              refine er_b rfl rfl (fun _ => ?_) (fun q => absurd g1 q)
              iterate 3 refine er_s rfl ?_
              rw [es]
              iterate 2 refine er_s rfl ?_
              refine er_b rfl rfl (fun q => absurd q (lt0 (by omega))) (fun _ => ?_)
              refine er_s rfl ?_
              refine er_b rfl rfl (fun q => absurd q (nI_nle (by omega) (by omega))) (fun _ => ?_)
              refine er_s rfl ?_
              refine er_b rfl rfl (fun q => absurd q (by decide)) (fun _ => ?_)
              iterate 3 refine er_s rfl ?_
              refine er_b rfl rfl (fun q => absurd q (nI_ge b1 (by omega))) (fun _ => ?_)
              iterate 11 refine er_s rfl ?_
              refine er_g rfl rfl ?_
              rw [nI_1, nI_1]
              exact er_sub (sub9 rfl rfl rfl rfl rfl rfl rfl rfl rfl) IH
            · rw [if_neg b1, if_neg b1] at e2
              rw [ex, e2] at IH
              iterate 2 refine er_s rfl ?_
              refine er_b rfl rfl (fun q => absurd q (nI_ge (b := 12) (by omega) (by omega))) (fun _ => ?_)
              iterate 3 refine er_s rfl ?_
              refine er_c rfl rfl ⟨Nat.le_of_ble_eq_true rfl, Nat.le_of_ble_eq_true rfl⟩ (V1) ?_
              refine er_b rfl rfl (fun _ => ?_) (fun q => absurd g1 q)
              iterate 3 refine er_s rfl ?_
              rw [es]
              iterate 2 refine er_s rfl ?_
              refine er_b rfl rfl (fun q => absurd q (lt0 (by omega))) (fun _ => ?_)
              refine er_s rfl ?_
              refine er_b rfl rfl (fun q => absurd q (nI_nle (by omega) (by omega))) (fun _ => ?_)
              refine er_s rfl ?_
              refine er_b rfl rfl (fun q => absurd q (by decide)) (fun _ => ?_)
              iterate 3 refine er_s rfl ?_
              refine er_b rfl rfl (fun _ => ?_) (fun q => absurd (nI_le (by omega) (by omega)) q)
              iterate 7 refine er_s rfl ?_
              refine er_g rfl rfl ?_
              rw [nI_1, nI_1]
              exact er_sub (sub9 rfl rfl rfl rfl rfl rfl rfl rfl rfl) IH
    · have g1 : ¬ 0 ≤ v1 := fun z => f1 (W1.mp z)
      have h2' : ∀ t, s ≤ t → t < i + 1 → ¬ fF r c t = true := fun t t1 t2 => by
        by_cases e : t = i
        · rw [e]; exact f1
        · exact h2 t t1 (by omega)
      have IH := fun fl2 h => p_rm_loop d P hc q9 m (i + 1) s fl2 (by omega) (by omega) h1 h2' h
      cases fl
      · have IH := IH false ⟨fun z => absurd z (by decide), fun z => hf.mpr (fun t t1 t2 => z t t1 (by omega))⟩
        iterate 2 refine er_s rfl ?_
        refine er_b rfl rfl (fun q => absurd q (nI_ge (b := 12) (by omega) (by omega))) (fun _ => ?_)
        iterate 3 refine er_s rfl ?_
        refine er_c rfl rfl ⟨Nat.le_of_ble_eq_true rfl, Nat.le_of_ble_eq_true rfl⟩ (V1) ?_
        refine er_b rfl rfl (fun q => absurd q g1) (fun _ => ?_)
        refine er_s rfl ?_
        refine er_b rfl rfl (fun _ => ?_) (fun q => absurd rfl q)
        iterate 2 refine er_s rfl ?_
        refine er_g rfl rfl ?_
        refine er_s rfl ?_
        refine er_g rfl rfl ?_
        rw [nI_1]
        exact er_sub (sub9 rfl rfl rfl rfl rfl rfl rfl rfl rfl) IH
      · by_cases f2 : fF r (c + 1) i = true
        · have IH := IH true ⟨fun _ t t1 t2 => by
            by_cases e : t = i
            · rw [e]; exact f2
            · exact hf.mp rfl t t1 (by omega), fun _ => rfl⟩
          iterate 2 refine er_s rfl ?_
          refine er_b rfl rfl (fun q => absurd q (nI_ge (b := 12) (by omega) (by omega))) (fun _ => ?_)
          iterate 3 refine er_s rfl ?_
          refine er_c rfl rfl ⟨Nat.le_of_ble_eq_true rfl, Nat.le_of_ble_eq_true rfl⟩ (V1) ?_
          refine er_b rfl rfl (fun q => absurd q g1) (fun _ => ?_)
          refine er_s rfl ?_
          refine er_b rfl rfl (fun q => absurd q (by decide)) (fun _ => ?_)
          iterate 5 refine er_s rfl ?_
          rw [nI_1]
          refine er_c rfl rfl ⟨Nat.le_of_ble_eq_true rfl, Nat.le_of_ble_eq_true rfl⟩ (V2) ?_
          refine er_b rfl rfl (fun q => absurd q (Int32.not_lt.mpr (W2.mpr f2))) (fun _ => ?_)
          refine er_s rfl ?_
          refine er_g rfl rfl ?_
          refine er_s rfl ?_
          refine er_g rfl rfl ?_
          refine er_s rfl ?_
          refine er_g rfl rfl ?_
          rw [nI_1]
          exact er_sub (sub9 rfl rfl rfl rfl rfl rfl rfl rfl rfl) IH
        · have IH := IH false ⟨fun z => absurd z (by decide), fun z => absurd (z i hsi (by omega)) f2⟩
          iterate 2 refine er_s rfl ?_
          refine er_b rfl rfl (fun q => absurd q (nI_ge (b := 12) (by omega) (by omega))) (fun _ => ?_)
          iterate 3 refine er_s rfl ?_
          refine er_c rfl rfl ⟨Nat.le_of_ble_eq_true rfl, Nat.le_of_ble_eq_true rfl⟩ (V1) ?_
          refine er_b rfl rfl (fun q => absurd q g1) (fun _ => ?_)
          refine er_s rfl ?_
          refine er_b rfl rfl (fun q => absurd q (by decide)) (fun _ => ?_)
          iterate 5 refine er_s rfl ?_
          rw [nI_1]
          refine er_c rfl rfl ⟨Nat.le_of_ble_eq_true rfl, Nat.le_of_ble_eq_true rfl⟩ (V2) ?_
          refine er_b rfl rfl (fun _ => ?_) (fun q => absurd (Int32.not_le.mp (fun z => f2 (W2.mp z))) q)
          iterate 2 refine er_s rfl ?_
          refine er_g rfl rfl ?_
          refine er_s rfl ?_
          refine er_g rfl rfl ?_
          rw [nI_1]
          exact er_sub (sub9 rfl rfl rfl rfl rfl rfl rfl rfl rfl) IH
theorem p_roomNumber (d : Nat) {h : AH} {r : Nat → Int32} {w : Nat → UInt32} (P : Pal h 32 r w) {c : Nat} (hc : c < 8) (q9 : Int32) : EvM (d + 1) mX7_roomNumber [.ref 32, .int (nI c), .int q9] h (some (.int (roomsA r c q9))) h := by
  have Z := p_rm_loop d P hc q9 12 0 0 true (by omega) (Nat.le_refl _) (fun z => absurd rfl z) (fun t t1 t2 => absurd t2 (Nat.not_lt_zero t)) ⟨fun _ t t1 t2 => absurd t2 (Nat.not_lt_zero t), fun _ => rfl⟩
  show EvR _ _ 0 [(0, _), (1, _), (2, _)] [] _ _ _
  iterate 12 refine er_s rfl ?_
  exact er_sub (sub9 rfl rfl rfl rfl rfl rfl rfl rfl rfl) Z
end
