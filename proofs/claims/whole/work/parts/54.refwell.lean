-- needs: 53
noncomputable section
theorem cnt3 {r : Nat → Int32} : ∀ n, (∀ b, b < n → ofB r b 2 = 0 ∨ ofB r b 2 = 1 ∨ ofB r b 2 = 2) → cntS r 0 n + cntS r 1 n + cntS r 2 n = n
  | 0, _ => rfl
  | n + 1, h => by
    have IH := cnt3 n (fun b hb => h b (by omega))
    have cs : ∀ s, cntS r s (n + 1) = cntS r s n + (if ofB r n 2 = s then 1 else 0) := fun s => by
      by_cases q : ofB r n 2 = s <;> simp [cntS, cntP, q]
    rw [cs, cs, cs]
    rcases h n (by omega) with q | q | q
    · rw [q, if_pos rfl, if_neg (by decide), if_neg (by decide)]; omega
    · rw [q, if_neg (by decide), if_pos rfl, if_neg (by decide)]; omega
    · rw [q, if_neg (by decide), if_neg (by decide), if_pos rfl]; omega
theorem Str.s3 {r : Nat → Int32} (h : Str r) {b : Nat} (hb : b < CN r) : ofB r b 2 = 0 ∨ ofB r b 2 = 1 ∨ ofB r b 2 = 2 := (h.b hb).2.elim (fun q => Or.inl q.1) (fun q => q.elim (fun z => Or.inr (Or.inl z.1)) (fun z => Or.inr (Or.inr z.1)))
/-- what is on the wall is supported, and 200 of ice stay 200 -/
def SupW (r : Nat → Int32) : Prop := ∀ b, b < CN r → ofB r b 2 = 1 → LN r b ≤ 2 * supN r b
def IceW (r : Nat → Int32) : Prop := ∃ L, r 2 = nI L ∧ L + lenN r true = 200
theorem f_well_loop (d : Nat) (h : AH) (hT : Str (h.1 1)) (hm : MasW (h.1 1) (h.2.1 5)) (hs : SupW (h.1 1)) (hl : ∀ b, b < CN (h.1 1) → ofB (h.1 1) b 2 = 1 → h.2.1 27 b = LDw (h.1 1) (h.2.1 5) b) : ∀ (m k : Nat), k + m = CN (h.1 1) → EvR (d + 12) mX11_isWell 61 [(0, .ref 0), (1, .int 1), (2, .int (nI k))] [] h (some (.int 1)) h
  | 0, k, hk => by
    have hk : k = CN (h.1 1) := by omega
    subst hk
    iterate 4 refine er_s rfl ?_
    refine er_il rfl rfl (vi (k := 4)) ?_
    refine er_b rfl rfl (fun _ => ?_) (fun q => absurd (by show h.1 1 4 ≤ nI (CN (h.1 1)); rw [hT.1.1]; exact Int32.le_refl _) q)
    refine er_s rfl ?_
    refine er_q (ret_bK rfl rfl) ?_ ?_
    · rfl
    · rfl
  | m + 1, k, hk => by
    have hw := hT.1
    have h40 := hw.2.1
    have IH := f_well_loop d h hT hm hs hl m (k + 1) (by omega)
    have W := f_isOnWall (d + 10) (b := k) (by omega) h
    by_cases c1 : ofB (h.1 1) k 2 = 1
    · have ok := (hw.2.2 k (by omega)).2 c1
      have S := f_isSupported (d + 7) (b := k) (by omega) h (hw.2.2 k (by omega)).1 ok
      have ha := hs k (by omega) c1
      have FB := f_bits (d + 10) (x := LDw (h.1 1) (h.2.1 5) k) (Nat.le_of_lt (LDw_ok hw hm (by omega)).1) h
      have F := f_loadOf h hw hm (7 - CU (h.1 1) k) (d + CU (h.1 1) k) k (by omega) c1 rfl
      rw [show d + CU (h.1 1) k + (7 - CU (h.1 1) k) + 4 = d + 11 from by have := ok.2.2.2.1; omega] at F
      iterate 4 refine er_s rfl ?_
      refine er_il rfl rfl (vi (k := 4)) ?_
      refine er_b rfl rfl (fun q => absurd q (by show ¬ h.1 1 4 ≤ nI k; rw [hw.1]; exact nI_ge (by omega) (by omega))) (fun _ => ?_)
      iterate 2 refine er_s rfl ?_
      refine er_c rfl rfl ⟨Nat.le_of_ble_eq_true rfl, Nat.le_of_ble_eq_true rfl⟩ (W) ?_
      refine er_b rfl rfl (fun q => absurd q (bI_ne.mpr c1)) (fun _ => ?_)
      iterate 3 refine er_s rfl ?_
      refine er_c rfl rfl ⟨Nat.le_of_ble_eq_true rfl, Nat.le_of_ble_eq_true rfl⟩ (S) ?_
      refine er_b rfl rfl (fun q => absurd q (bI_ne.mpr ha)) (fun _ => ?_)
      iterate 3 refine er_s rfl ?_
      refine er_fl rfl rfl (vi) ?_
      rw [cl k, hl k (by omega) c1]
      refine er_c rfl rfl ⟨Nat.le_of_ble_eq_true rfl, Nat.le_of_ble_eq_true rfl⟩ (FB) ?_
      iterate 2 refine er_s rfl ?_
      refine er_c rfl rfl ⟨Nat.le_of_ble_eq_true rfl, Nat.le_of_ble_eq_true rfl⟩ (F) ?_
      refine er_c rfl rfl ⟨Nat.le_of_ble_eq_true rfl, Nat.le_of_ble_eq_true rfl⟩ (FB) ?_
      refine er_b rfl rfl (fun q => absurd q (fun q => q rfl)) (fun _ => ?_)
      refine er_s rfl ?_
      refine er_g rfl rfl ?_
      iterate 3 refine er_s rfl ?_
      refine er_g rfl rfl ?_
      rw [nI_1]
      exact er_sub (sub3 rfl rfl rfl) IH
    · iterate 4 refine er_s rfl ?_
      refine er_il rfl rfl (vi (k := 4)) ?_
      refine er_b rfl rfl (fun q => absurd q (by show ¬ h.1 1 4 ≤ nI k; rw [hw.1]; exact nI_ge (by omega) (by omega))) (fun _ => ?_)
      iterate 2 refine er_s rfl ?_
      refine er_c rfl rfl ⟨Nat.le_of_ble_eq_true rfl, Nat.le_of_ble_eq_true rfl⟩ (W) ?_
      refine er_b rfl rfl (fun _ => ?_) (fun q => absurd (bI_eq.mpr c1) q)
      refine er_s rfl ?_
      refine er_g rfl rfl ?_
      rw [nI_1]
      exact er_sub (sub3 rfl rfl rfl) IH
theorem f_isWell (d : Nat) (h : AH) (hT : Str (h.1 1)) (hm : MasW (h.1 1) (h.2.1 5)) (hs : SupW (h.1 1)) (hi : IceW (h.1 1)) (K : Nat) : WM (d + 12) mX11_isWell [.ref 0] h (fun v h' => v = some (.int 1) ∧ OpP h h' 0 (h.1 0 12) (h.1 0 13) (h.1 1) (h.2.1 5) false K) := by
  have hw := hT.1
  have e1 : (hI h 0 0 0).1 1 = h.1 1 := hI_ne (by decide)
  have hw1 : Wel ((hI h 0 0 0).1 1) := by rw [e1]; exact hw
  have L := f_lengths (d + 9) 0 (al := true) (by decide) (hI h 0 0 0) hw1
  have C0 := f_countState (d + 10) 0 (hI h 0 0 0) hw1
  have C1 := f_countState (d + 10) 1 (hI h 0 0 0) hw1
  have C2 := f_countState (d + 10) 2 (hI h 0 0 0) hw1
  rw [e1] at L C0 C1 C2
  obtain ⟨l, hl1, hl2⟩ := hi
  have c3 := cnt3 (CN (h.1 1)) (fun b hb => hT.s3 hb)
  have F := f_findLoads (d + 6) (hI h 0 0 0) hw1 (by rw [e1]; exact hm)
  rw [e1, show (hI h 0 0 0).2.1 5 = h.2.1 5 from rfl, show (hI h 0 0 0).2.1 27 = h.2.1 27 from rfl] at F
  have g1 : (hFr (hI h 0 0 0) 27 (loadsR (h.1 1) (h.2.1 5) (h.2.1 27))).1 1 = h.1 1 := e1
  have g5 : (hFr (hI h 0 0 0) 27 (loadsR (h.1 1) (h.2.1 5) (h.2.1 27))).2.1 5 = h.2.1 5 := hFr_ne _ _ (by decide)
  have Lp := f_well_loop d (hFr (hI h 0 0 0) 27 (loadsR (h.1 1) (h.2.1 5) (h.2.1 27))) (by rw [g1]; exact hT) (by rw [g1, g5]; exact hm) (by rw [g1]; exact hs) (by rw [g1, g5, hFr_27]; exact fun b hb hs => loadsR_at hw hm hb hs) (CN (h.1 1)) 0 (by rw [g1]; omega)
  show WX _ _ 0 [(0, _)] [] _ _
  iterate 6 refine ex_s rfl ?_
  refine ex_il rfl rfl (vi (k := 2)) ?_
  rw [k2, e1, hl1]
  iterate 2 refine ex_s rfl ?_
  refine ex_c rfl rfl ⟨Nat.le_of_ble_eq_true rfl, Nat.le_of_ble_eq_true rfl⟩ (L) ?_
  refine ex_s rfl ?_
  rw [nI_add, hl2]
  refine ex_s rfl ?_
  refine ex_b rfl rfl (fun q => absurd q (fun q => q rfl)) (fun _ => ?_)
  iterate 2 refine ex_s rfl ?_
  refine ex_c rfl rfl ⟨Nat.le_of_ble_eq_true rfl, Nat.le_of_ble_eq_true rfl⟩ (C0) ?_
  iterate 2 refine ex_s rfl ?_
  refine ex_c rfl rfl ⟨Nat.le_of_ble_eq_true rfl, Nat.le_of_ble_eq_true rfl⟩ (C1) ?_
  refine ex_s rfl ?_
  rw [nI_add]
  iterate 2 refine ex_s rfl ?_
  refine ex_c rfl rfl ⟨Nat.le_of_ble_eq_true rfl, Nat.le_of_ble_eq_true rfl⟩ (C2) ?_
  refine ex_s rfl ?_
  rw [nI_add, c3]
  iterate 3 refine ex_s rfl ?_
  refine ex_il rfl rfl (vi (k := 4)) ?_
  rw [k4, e1]
  refine ex_b rfl rfl (fun q => absurd q (fun q => q (hw.1.symm))) (fun _ => ?_)
  refine ex_s rfl ?_
  refine ex_g rfl rfl ?_
  iterate 2 refine ex_s rfl ?_
  refine ex_c rfl rfl ⟨Nat.le_of_ble_eq_true rfl, Nat.le_of_ble_eq_true rfl⟩ (F) ?_
  iterate 2 refine ex_s rfl ?_
  exact ex_sub (sub3 rfl rfl rfl) (ex_of Lp ⟨rfl, OpP_rd⟩)
end
