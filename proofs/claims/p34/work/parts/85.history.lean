-- needs: 84
noncomputable section
theorem pal_sl {i : Nat} (h : i < 8) : PalL (102 + 13 * i) := by
  rcases (show i = 0 ∨ i = 1 ∨ i = 2 ∨ i = 3 ∨ i = 4 ∨ i = 5 ∨ i = 6 ∨ i = 7 by omega) with rfl | rfl | rfl | rfl | rfl | rfl | rfl | rfl <;> exact ⟨rfl, rfl, rfl, rfl, rfl, rfl, rfl, rfl, rfl, rfl, rfl, rfl, rfl⟩
theorem ha_101 {i : Nat} (h : i < 8) : ([102, 115, 128, 141, 154, 167, 180, 193] : List Nat)[(nI i).toNatClampNeg]? = some (102 + 13 * i) := by
  rcases (show i = 0 ∨ i = 1 ∨ i = 2 ∨ i = 3 ∨ i = 4 ∨ i = 5 ∨ i = 6 ∨ i = 7 by omega) with rfl | rfl | rfl | rfl | rfl | rfl | rfl | rfl <;> rfl
/-- what remembering leaves alone: all but the history's numbers and one of its palaces -/
def FrS (n : Nat) (h h' : AH) : Prop := ∀ a, a ≠ 100 → (a < 102 + 13 * n ∨ 102 + 13 * n + 12 < a) → h'.1 a = h.1 a ∧ h'.2.1 a = h.2.1 a
theorem Pal_far {h : AH} {k i : Nat} {x : Int32} {r : Nat → Int32} {w : Nat → UInt32} (P : Pal h k r w) (hk : 100 < k) : Pal (hI h 100 i x) k r w := by
  obtain ⟨p1, p2, p3, p4, p5, p6⟩ := P
  have e : ∀ o, (hI h 100 i x).1 (k + o) = h.1 (k + o) := fun o => hI_ne (show k + o ≠ 100 by omega)
  have e0 : (hI h 100 i x).1 k = h.1 k := hI_ne (show k ≠ 100 by omega)
  refine ⟨fun j hj => by rw [e0]; exact p1 j hj, fun j hj => by rw [e 1]; exact p2 j hj, fun b hb => ?_, fun b hb hb2 => ?_, fun j hj => by rw [e 11]; exact p5 j hj, fun q p hq hp => by rw [e 12]; exact p6 q p hq hp⟩
  · obtain ⟨a1, a2, a3, a4⟩ := p3 b hb
    refine ⟨by rw [e 2]; exact a1, by rw [e 3]; exact a2, a3, fun o h2 h8 => ?_⟩
    rw [show (hI h 100 i x).1 (k + 3 + o) = h.1 (k + 3 + o) from hI_ne (show k + 3 + o ≠ 100 by omega)]
    exact a4 o h2 h8
  · rw [e 5, e 6, e 7, e 8, e 9, e 10]
    exact p4 b hb hb2
theorem p_rem_end (d : Nat) {k N K : Nat} {h h9 : AH} {r : Nat → Int32} {w : Nat → UInt32} (hN : N < 8) (hK : K ≤ 8) (P1 : Pal h9 (102 + 13 * N) r w) (F1 : FrP (102 + 13 * N) h h9) (g1 : h9.1 100 1 = nI N) (g2 : h9.1 100 2 = nI K) : WX (d + 2) mX3_remember 42 [(0, .ref 100), (1, .ref k)] [] h9 (fun v h' => v = none ∧ h'.1 100 1 = nI ((N + 1) % 8) ∧ h'.1 100 2 = nI (min (K + 1) 8) ∧ Pal h' (102 + 13 * N) r w ∧ FrS N h h') := by
  have g3 : ∀ x, (hI h9 100 1 x).1 100 2 = nI K := fun x => by rw [hI_at, upd_ne (by decide)]; exact g2
  have P2 : ∀ x y, Pal (hI (hI h9 100 1 x) 100 2 y) (102 + 13 * N) r w := fun x y => Pal_far (Pal_far P1 (by omega)) (by omega)
  have F2 : ∀ x y, FrS N h (hI (hI h9 100 1 x) 100 2 y) := fun x y a h1 h2 => ⟨by rw [hI_ne h1, hI_ne h1]; exact (F1.1 a h2).1, (F1.1 a h2).2⟩
  have em : (if nI (K + 1) < 8 then nI (K + 1) else (8 : Int32)) = nI (min (K + 1) 8) := by
    by_cases c : K + 1 < 8
    · rw [if_pos (show nI (K + 1) < 8 from Int32.not_le.mp (nI_ge (b := 8) c (by decide))), Nat.min_eq_left (by omega)]
    · rw [if_neg (show ¬ nI (K + 1) < 8 from Int32.not_lt.mpr (nI_le (a := 8) (b := K + 1) (by omega) (by omega))), Nat.min_eq_right (by omega)]
      rfl
  have em2 : (if (8 : Int32) < nI (K + 1) then (8 : Int32) else nI (K + 1)) = nI (min (K + 1) 8) := by
    by_cases c : K + 1 ≤ 8
    · rw [if_neg (show ¬ (8 : Int32) < nI (K + 1) from Int32.not_lt.mpr (nI_le (b := 8) c (by decide))), Nat.min_eq_left c]
    · rw [if_pos (show (8 : Int32) < nI (K + 1) from Int32.not_le.mp (nI_ge (a := 8) (b := K + 1) (by omega) (by omega))), Nat.min_eq_right (by omega)]
      rfl
  iterate 3 refine ex_s rfl ?_
  rw [show fv 0 (h9.1 100 1) = Value.int (nI N) from congrArg Value.int g1]
  iterate 2 refine ex_s rfl ?_
  rw [nI_1]
  iterate 2 refine ex_s rfl ?_
  rw [show (8 : Int32) = nI 8 from rfl, pk_rem (by omega) (by decide) (by decide)]
  iterate 4 refine ex_s rfl ?_
  rw [show fv 0 ((hI h9 100 1 (nI ((N + 1) % 8))).1 100 2) = Value.int (nI K) from congrArg Value.int (g3 _)]
  iterate 2 refine ex_s rfl ?_
  rw [nI_1]
  iterate 2 refine ex_s rfl ?_
  first | rw [em] | rw [em2]
  refine ex_s rfl ?_
  refine ex_q rfl ?_
  exact ⟨rfl, by rw [hI_at, upd_ne (by decide), hI_at, upd_eq], by rw [hI_at, upd_eq], P2 _ _, F2 _ _⟩
theorem p_remember (d : Nat) {k N K : Nat} (hk : k ≤ 89) (hL : PalL k) {h : AH} {r : Nat → Int32} {w : Nat → UInt32} (hC : CN r ≤ 40) (P : Pal h k r w) (hN : N < 8) (hK : K ≤ 8) (h1 : h.1 100 1 = nI N) (h2 : h.1 100 2 = nI K) : WM (d + 2) mX3_remember [.ref 100, .ref k] h (fun v h' => v = none ∧ h'.1 100 1 = nI ((N + 1) % 8) ∧ h'.1 100 2 = nI (min (K + 1) 8) ∧ Pal h' (102 + 13 * N) r w ∧ FrS N h h') := by
  have A := p_copyFrom (d + 0) (pal_sl hN) hL (by omega) hC P
  have sl := (pal_sl hN).1
  show WX _ _ 0 [(0, _), (1, _)] [] _ _
  iterate 2 refine ex_s rfl ?_
  refine ex_b rfl rfl (fun q => absurd q (by rw [h1]; exact lt0 (by omega))) (fun _ => ?_)
  iterate 3 refine ex_s rfl ?_
  refine ex_b rfl rfl (fun q => absurd q (by rw [h1]; exact nI_ge (b := 8) (by omega) (by decide))) (fun _ => ?_)
  iterate 4 refine ex_s rfl ?_
  rw [show fv 0 (h.1 100 1) = Value.int (nI N) from congrArg Value.int h1]
  refine ex_aal rfl rfl (by decide) (vi) (ha_101 hN) ?_
  refine ex_g rfl rfl ?_
  iterate 4 refine ex_s rfl ?_
  rw [show fv 0 (h.1 100 1) = Value.int (nI N) from congrArg Value.int h1]
  refine ex_aal rfl rfl (by decide) (vi) (ha_101 hN) ?_
  refine ex_s rfl ?_
  refine ex_x1 rfl sl rfl ⟨Nat.le_of_ble_eq_true rfl, Nat.le_of_ble_eq_true rfl⟩ (A) (fun rv9 h9 p9 => ?_)
  obtain ⟨rfl, P1, F1⟩ := p9
  have g1 : h9.1 100 1 = nI N := by rw [(F1.1 100 (by omega)).1]; exact h1
  have g2 : h9.1 100 2 = nI K := by rw [(F1.1 100 (by omega)).1]; exact h2
  exact p_rem_end d hN hK P1 F1 g1 g2
end
