-- needs: 85
noncomputable section
theorem p_hnumber (d : Nat) (h : AH) : EvM d mX3_number [.ref 100] h (some (.int (h.1 100 2))) h := by
  show EvR _ _ 0 [(0, _)] [] _ _ _
  iterate 2 refine er_s rfl ?_
  refine er_q rfl ?_ ?_
  · rfl
  · rfl
theorem p_forget (d : Nat) (h : AH) : EvM d mX3_forget [.ref 100] h none (hI h 100 2 0) := by
  show EvR _ _ 0 [(0, _)] [] _ _ _
  iterate 3 refine er_s rfl ?_
  refine er_q rfl ?_ ?_
  · rfl
  · rfl
theorem Pal_near {h : AH} {k i : Nat} {x : Int32} {r : Nat → Int32} {w : Nat → UInt32} (P : Pal h k r w) (hk : k + 12 < 100) : Pal (hI h 100 i x) k r w := by
  obtain ⟨p1, p2, p3, p4, p5, p6⟩ := P
  have e : ∀ o, o ≤ 12 → (hI h 100 i x).1 (k + o) = h.1 (k + o) := fun o ho => hI_ne (show k + o ≠ 100 by omega)
  have e0 : (hI h 100 i x).1 k = h.1 k := hI_ne (show k ≠ 100 by omega)
  refine ⟨fun j hj => by rw [e0]; exact p1 j hj, fun j hj => by rw [e 1 (by decide)]; exact p2 j hj, fun b hb => ?_, fun b hb hb2 => ?_, fun j hj => by rw [e 11 (by decide)]; exact p5 j hj, fun q p hq hp => by rw [e 12 (by decide)]; exact p6 q p hq hp⟩
  · obtain ⟨a1, a2, a3, a4⟩ := p3 b hb
    refine ⟨by rw [e 2 (by decide)]; exact a1, by rw [e 3 (by decide)]; exact a2, a3, fun o h2 h8 => ?_⟩
    rw [show (hI h 100 i x).1 (k + 3 + o) = h.1 (k + 3 + o) from hI_ne (show k + 3 + o ≠ 100 by omega)]
    exact a4 o h2 h8
  · rw [e 5 (by decide), e 6 (by decide), e 7 (by decide), e 8 (by decide), e 9 (by decide), e 10 (by decide)]
    exact p4 b hb hb2
theorem p_back_end (d : Nat) {M K : Nat} {h h9 : AH} {r : Nat → Int32} {w : Nat → UInt32} {x9 : Int32} (hK : 0 < K) (hK8 : K ≤ 8) (P1 : Pal h9 32 r w) (F1 : FrP 32 (hI h 100 1 x9) h9) (q1 : h9.1 100 1 = nI M) (q2 : h9.1 100 2 = nI K) : WX (d + 2) mX3_goBack 57 [(0, .ref 100), (1, .ref 32)] [] h9 (fun v h' => v = none ∧ h'.1 100 1 = nI M ∧ h'.1 100 2 = nI (K - 1) ∧ Pal h' 32 r w ∧ ∀ a, a ≠ 100 → (a < 32 ∨ 44 < a) → h'.1 a = h.1 a ∧ h'.2.1 a = h.2.1 a) := by
  have em : (if nI (K - 1) < 0 then (0 : Int32) else nI (K - 1)) = nI (K - 1) := if_neg (lt0 (by omega))
  have em2 : (if (0 : Int32) < nI (K - 1) then nI (K - 1) else 0) = nI (K - 1) := by
    by_cases c : K - 1 = 0
    · rw [c]; rfl
    · exact if_pos (Int32.not_le.mp (nI_nle (by omega) (by omega)))
  iterate 3 refine ex_s rfl ?_
  rw [show fv 0 (h9.1 100 2) = Value.int (nI K) from congrArg Value.int q2]
  iterate 2 refine ex_s rfl ?_
  rw [nI_m1 hK]
  iterate 2 refine ex_s rfl ?_
  first | rw [em] | rw [em2]
  refine ex_s rfl ?_
  refine ex_q rfl ?_
  exact ⟨rfl, by rw [hI_at, upd_ne (by decide)]; exact q1, by rw [hI_at, upd_eq], Pal_near P1 (by decide), fun a a1 a2 => ⟨by rw [hI_ne a1, (F1.1 a a2).1, hI_ne a1], (F1.1 a a2).2⟩⟩
theorem p_goBack (d : Nat) {N K : Nat} {h : AH} {r : Nat → Int32} {w : Nat → UInt32} (hC : CN r ≤ 40) (hN : N < 8) (hK : 0 < K) (hK8 : K ≤ 8) (h1 : h.1 100 1 = nI N) (h2 : h.1 100 2 = nI K) (P : Pal h (102 + 13 * ((N + 7) % 8)) r w) : WM (d + 2) mX3_goBack [.ref 100, .ref 32] h (fun v h' => v = none ∧ h'.1 100 1 = nI ((N + 7) % 8) ∧ h'.1 100 2 = nI (K - 1) ∧ Pal h' 32 r w ∧ ∀ a, a ≠ 100 → (a < 32 ∨ 44 < a) → h'.1 a = h.1 a ∧ h'.2.1 a = h.2.1 a) := by
  have hM : (N + 7) % 8 < 8 := Nat.mod_lt _ (by decide)
  have g1 : (hI h 100 1 (nI ((N + 7) % 8))).1 100 1 = nI ((N + 7) % 8) := by rw [hI_at, upd_eq]
  have g2 : (hI h 100 1 (nI ((N + 7) % 8))).1 100 2 = nI K := by rw [hI_at, upd_ne (by decide)]; exact h2
  have A := p_copyFrom (d + 0) palL32 (pal_sl hM) (by omega) hC (Pal_far (x := nI ((N + 7) % 8)) (i := 1) P (by omega))
  have sl := (pal_sl hM).1
  have em : nI N + nI 8 - 1 = nI (N + 7) := by rw [nI_add]; exact (nI_m1 (by omega)).trans (congrArg nI (by omega))
  show WX _ _ 0 [(0, _), (1, _)] [] _ _
  iterate 3 refine ex_s rfl ?_
  rw [show fv 0 (h.1 100 1) = Value.int (nI N) from congrArg Value.int h1]
  iterate 4 refine ex_s rfl ?_
  rw [show (8 : Int32) = nI 8 from rfl, em]
  iterate 2 refine ex_s rfl ?_
  rw [show (8 : Int32) = nI 8 from rfl, pk_rem (by omega) (by decide) (by decide)]
  iterate 3 refine ex_s rfl ?_
  refine ex_b rfl rfl (fun q => absurd q (by rw [g1]; exact lt0 (by omega))) (fun _ => ?_)
  iterate 3 refine ex_s rfl ?_
  refine ex_b rfl rfl (fun q => absurd q (by rw [g1]; exact nI_ge (b := 8) (by omega) (by decide))) (fun _ => ?_)
  iterate 4 refine ex_s rfl ?_
  rw [show fv 0 ((hI h 100 1 (nI ((N + 7) % 8))).1 100 1) = Value.int (nI ((N + 7) % 8)) from congrArg Value.int g1]
  refine ex_aal rfl rfl (by decide) (vi) (ha_101 hM) ?_
  refine ex_n rfl rfl ?_
  iterate 5 refine ex_s rfl ?_
  rw [show fv 0 ((hI h 100 1 (nI ((N + 7) % 8))).1 100 1) = Value.int (nI ((N + 7) % 8)) from congrArg Value.int g1]
  refine ex_aal rfl rfl (by decide) (vi) (ha_101 hM) ?_
  refine ex_xc rfl rfl ⟨Nat.le_of_ble_eq_true rfl, Nat.le_of_ble_eq_true rfl⟩ (A) (fun rv9 h9 p9 => ?_)
  obtain ⟨rfl, P1, F1⟩ := p9
  have q2 : h9.1 100 2 = nI K := by rw [(F1.1 100 (by omega)).1]; exact g2
  have q1 : h9.1 100 1 = nI ((N + 7) % 8) := by rw [(F1.1 100 (by omega)).1]; exact g1
  exact p_back_end d hK hK8 P1 F1 q1 q2
end
