-- needs: 38
noncomputable section
theorem FrP.i {k i o : Nat} {h : AH} {x : Int32} (ho : o ≤ 12) : FrP k h (hI h (k + o) i x) := ⟨fun a ha => ⟨hI_ne (by omega), rfl⟩, rfl⟩
theorem FrP.ir {k o : Nat} {h : AH} {f : Nat → Int32} (ho : o ≤ 12) : FrP k h (hIr h (k + o) f) := ⟨fun a ha => ⟨hIr_ne (by omega), rfl⟩, rfl⟩
theorem FrP.f {k o : Nat} {h : AH} {f : Nat → UInt32} (ho : o ≤ 12) : FrP k h (hFr h (k + o) f) := ⟨fun a ha => ⟨rfl, hFr_ne _ _ (by omega)⟩, rfl⟩
theorem hour_mass {r : Nat → Int32} {w : Nat → UInt32} (hw : Wel r) {b : Nat} (hb : b < CN r) : hourW r w b = warmG (freezeR (tOf r) r) (fun b => if 0 < tOf r then sunG (freezeR (tOf r) r) w (nI (hrOf r)) (tOf r) b else w b) b := by
  unfold hourW
  rw [meltW_lt hb]
  unfold warmG
  by_cases hs : ofB (freezeR (tOf r) r) b 2 = 1
  · rw [if_pos hs, if_pos hs]
    have hs2 : ofB r b 2 = 1 := by rw [← hs, freeze_b (by decide) (by decide)]
    obtain ⟨lb, pb⟩ := hw.2.2 b hb
    have e : decide (shOf r b ≠ 0) = shadR r b (nI (hrOf r)) := by
      unfold shOf shB
      rw [decide_eq_true hs2, Bool.true_and]
      cases shadR r b (nI (hrOf r)) <;> decide
    rw [e]
    by_cases ht : 0 < tOf r
    · simp only [sunG, if_pos ht, if_pos hs, shadR_freeze lb (pb hs2)]
    · simp only [if_neg ht, meltA]
  · rw [if_neg hs, if_neg hs]
    by_cases ht : 0 < tOf r
    · simp only [sunG, if_pos ht, if_neg hs]
    · simp only [if_neg ht]
theorem Pal.re {h : AH} {k : Nat} {r r' : Nat → Int32} {w : Nat → UInt32} (P : Pal h k r w) (e : r = r') : Pal h k r' w := e ▸ P
theorem p_letL (d N : Nat) (hN : N ≤ 96) {k m : Nat} (hL : PalL k) (hH : HouL m) (hkm : m + 4 < k ∨ k + 12 < m) (b0 : Nat) : ∀ (n i B : Nat) (h : AH) (r : Nat → Int32) (w : Nat → UInt32), i + n = N → Str r → HS B r w → B + n < 2 ^ 30 → Pal h k r w → WX (d + 5) mX4_letGoBy 8 [(0, .ref m), (1, .ref k), (2, .int (nI N)), (3, .int (nI b0)), (4, .int (nI i))] [] h (fun v h' => v = some (.int (nI b0 - nI (onN (hoursR n r w)))) ∧ Pal h' k (hoursR n r w) (hoursW n r w) ∧ FrH k m h h') := by
  have L0 := hL.1
  have H0 := hH.1
  intro n
  induction n with
  | zero =>
    intro i B h r w hi hS hs hB P
    have hi : i = N := by omega
    subst hi
    have C := p_countOnWall (d + 3) hL P hS.1
    iterate 2 refine ex_s rfl ?_
    refine ex_b rfl rfl (fun _ => ?_) (fun q => absurd (Int32.le_refl _) q)
    iterate 2 refine ex_s rfl ?_
    refine ex_v0 rfl L0 rfl ⟨Nat.le_of_ble_eq_true rfl, Nat.le_of_ble_eq_true rfl⟩ (C) ?_
    refine ex_s rfl ?_
    refine ex_q rfl ?_
    exact ⟨rfl, P, FrH.rf⟩
  | succ n ih =>
    intro i B h r w hi hS hs hB P
    obtain ⟨hw, hm, hd⟩ := id hs
    obtain ⟨⟨c1, c2, c3⟩, hv, htm⟩ := id hd
    have hh : hrOf r < 24 := Nat.mod_lt _ (by decide)
    have ht20 := (htm (hrOf r) hh).2
    have HO := p_hourOfDay (d + 3) hL h (c := CK r) (by omega) (by rw [P.hd (by decide)]; exact c1)
    have TE := p_temperatureAt (d + 3) hL hh h
    rw [P.tm hh] at TE
    have IC := p_ice (d + 4) (m := m) hL P (tOf r)
    have P1 := P.h1 (i := 1) (x := clampI (r 1 + moreI (tOf r))) (by decide) (by decide)
    have hw1 : Wel (upd r 1 (clampI (r 1 + moreI (tOf r)))) := upd_Wel hw (by decide) (by decide)
    have JO := p_joints (d + 3) (m := m) hL P1 hw1 (tOf r)
    have P2 := P1.jt8 (j := jointN (tOf r))
    have e2 : jointsR (jointN (tOf r)) (CN (upd r 1 (clampI (r 1 + moreI (tOf r))))) (upd r 1 (clampI (r 1 + moreI (tOf r)))) = freezeR (tOf r) r := by rw [upd_CN (by decide)]; rfl
    rw [e2] at JO P2
    have F2 : FrH k m h (hIr (hI h k 1 (clampI (r 1 + moreI (tOf r)))) (k + 8) (jtF (freezeR (tOf r) r) (CN (upd r 1 (clampI (r 1 + moreI (tOf r))))) ((hI h k 1 (clampI (r 1 + moreI (tOf r)))).1 (k + 8)))) := ((FrP.i (o := 0) (by decide)).tr (FrP.ir (o := 8) (by decide))).hr
    generalize hg2 : hIr (hI h k 1 (clampI (r 1 + moreI (tOf r)))) (k + 8) (jtF (freezeR (tOf r) r) (CN (upd r 1 (clampI (r 1 + moreI (tOf r))))) ((hI h k 1 (clampI (r 1 + moreI (tOf r)))).1 (k + 8))) = g2 at JO P2 F2
    have hwf := freezeR_Wel (t := tOf r) hw
    have hmf : MasW (freezeR (tOf r) r) w := fun b hb hs2 => hm b (by rw [freezeR_CN] at hb; exact hb) (by rw [freeze_b (by decide) (by decide)] at hs2; exact hs2)
    have h3f : freezeR (tOf r) r 3 = r 3 := freeze_hd (by decide) (by decide)
    have hSf := freeze_Str (t := tOf r) hS
    have T : ∀ (g3 : AH), Pal g3 k (freezeR (tOf r) r) (fun b => if 0 < tOf r then sunG (freezeR (tOf r) r) w (nI (hrOf r)) (tOf r) b else w b) → FrH k m h g3 → WX (d + 5) mX4_letGoBy 63 [(0, .ref m), (1, .ref k), (2, .int (nI N)), (3, .int (nI b0)), (4, .int (nI i))] [] g3 (fun v h' => v = some (.int (nI b0 - nI (onN (hoursR (n + 1) r w)))) ∧ Pal h' k (hoursR (n + 1) r w) (hoursW (n + 1) r w) ∧ FrH k m h h') := by
      intro g3 P3 F3
      have WA := p_warm (d + 3) (m := m) hL P3 hwf (fun b hb hs2 => by
        by_cases ht : 0 < tOf r
        · show (if 0 < tOf r then sunG (freezeR (tOf r) r) w (nI (hrOf r)) (tOf r) b else w b).toNat ≤ _
          rw [if_pos ht]
          unfold sunG
          rw [if_pos hs2]
          exact (melt_ok (hmf b hb hs2) (fun _ => ht20)).2
        · show (if 0 < tOf r then sunG (freezeR (tOf r) r) w (nI (hrOf r)) (tOf r) b else w b).toNat ≤ _
          rw [if_neg ht]
          exact (hmf b hb hs2).2) (by rw [h3f]; exact hv)
      have P4 := (P3.mass (g := warmG (freezeR (tOf r) r) (fun b => if 0 < tOf r then sunG (freezeR (tOf r) r) w (nI (hrOf r)) (tOf r) b else w b)) (f := g3.2.1 (k + 4))).wc (w' := hourW r w) (fun b hb => (hour_mass hw (by rw [freezeR_CN] at hb; exact hb)).symm)
      have F4 := F3.tr (FrP.f (k := k) (o := 4) (h := g3) (f := mapF (warmG (freezeR (tOf r) r) (fun b => if 0 < tOf r then sunG (freezeR (tOf r) r) w (nI (hrOf r)) (tOf r) b else w b)) (CN (freezeR (tOf r) r)) (g3.2.1 (k + 4))) (by decide)).hr
      generalize hFr g3 (k + 4) (mapF (warmG (freezeR (tOf r) r) (fun b => if 0 < tOf r then sunG (freezeR (tOf r) r) w (nI (hrOf r)) (tOf r) b else w b)) (CN (freezeR (tOf r) r)) (g3.2.1 (k + 4))) = g4 at WA P4 F4
      have S1 := hour1_Str (w := w) hS
      have S2 := (fallI_Str S1 7 (Nat.le_refl _)).1
      have m1 := hour_MasW hw hm hd
      have m2 := (fallI_Shr (Shr.rf S1.1) 7 (Nat.le_refl _)).MasW m1
      have IH := ih (i + 1) (B + 1)
      iterate 2 refine ex_s rfl ?_
      refine ex_v1 rfl H0 rfl ⟨Nat.le_of_ble_eq_true rfl, Nat.le_of_ble_eq_true rfl⟩ (WA) ?_
      iterate 2 refine ex_s rfl ?_
      refine ex_x1 rfl H0 rfl ⟨Nat.le_of_ble_eq_true rfl, Nat.le_of_ble_eq_true rfl⟩ (p_removeMelted (d + 1) (m := m) hL hSf P4) (fun rv9 h9 p9 => ?_)
      obtain ⟨rfl, P5, F5⟩ := p9
      have P5 := P5.re (r' := hour1 r w) (by rw [freezeR_CN]; rfl)
      have F5 := F4.tr F5.hr
      clear hg2 JO P2 F2 F4 P4 WA
      rename AH => g5
      iterate 2 refine ex_s rfl ?_
      refine ex_x1 rfl H0 rfl ⟨Nat.le_of_ble_eq_true rfl, Nat.le_of_ble_eq_true rfl⟩ (p_drop (d + 1) (m := m) hL S1 P5) (fun rv9 h9 p9 => ?_)
      obtain ⟨rfl, P6, F6⟩ := p9
      have F6 := F5.tr F6.hr
      rename AH => g6
      iterate 2 refine ex_s rfl ?_
      refine ex_x1 rfl H0 rfl ⟨Nat.le_of_ble_eq_true rfl, Nat.le_of_ble_eq_true rfl⟩ (p_break (d + 0) (m := m) hL hH hkm S2 m2 P6) (fun rv9 h9 p9 => ?_)
      obtain ⟨rfl, P7, F7⟩ := p9
      have F7 := F6.tr F7
      have P8 := P7.h1 (i := 0) (x := hour2 r w 0 + 1) (by decide) (by decide)
      iterate 2 refine ex_s rfl ?_
      refine ex_f rfl L0 rfl ?_
      iterate 2 refine ex_s rfl ?_
      rw [show h9.1 k 0 = hour2 r w 0 from P7.hd (by decide)]
      refine ex_p rfl L0 rfl rfl ?_
      refine ex_s rfl ?_
      refine ex_g rfl rfl ?_
      rw [nI_1]
      exact ex_sub (sub5 rfl rfl rfl rfl rfl) ((IH _ _ _ (by omega) (hourR_Str hS) (hour_HS hs (by omega)) (by omega) P8).mono (fun v0 h0 z => ⟨z.1, z.2.1, (F7.tr (FrP.i (o := 0) (by decide)).hr).tr z.2.2⟩))
    by_cases ht : 0 < tOf r
    · have ME := p_melt (d + 1) hL hH hkm P2 hwf hmf (nI (hrOf r)) ht ht20
      have P3 := (P2.ir (m := m + 4) (f := hgF (freezeR (tOf r) r) 12 (g2.1 (m + 4))) (by omega)).mass (g := sunG (freezeR (tOf r) r) w (nI (hrOf r)) (tOf r)) (f := g2.2.1 (k + 4))
      have P3 := P3.wc (w' := fun b => if 0 < tOf r then sunG (freezeR (tOf r) r) w (nI (hrOf r)) (tOf r) b else w b) (fun b _ => by show _ = if 0 < tOf r then _ else _; rw [if_pos ht])
      have K := T _ P3 (F2.tr ⟨fun a ha => ⟨fun z => hIr_ne z, fun z => hFr_ne _ _ (by omega)⟩, rfl⟩)
      iterate 2 refine ex_s rfl ?_
      refine ex_b rfl rfl (fun q => absurd q (nI_ge (by omega) (by omega))) (fun _ => ?_)
      iterate 2 refine ex_s rfl ?_
      refine ex_b rfl rfl (fun q => absurd q (nI_ge (b := 96) (by omega) (by decide))) (fun _ => ?_)
      refine ex_s rfl ?_
      refine ex_v0 rfl L0 rfl ⟨Nat.le_of_ble_eq_true rfl, Nat.le_of_ble_eq_true rfl⟩ (HO) ?_
      iterate 3 refine ex_s rfl ?_
      refine ex_v1 rfl L0 rfl ⟨Nat.le_of_ble_eq_true rfl, Nat.le_of_ble_eq_true rfl⟩ (TE) ?_
      iterate 4 refine ex_s rfl ?_
      refine ex_v2 rfl H0 rfl ⟨Nat.le_of_ble_eq_true rfl, Nat.le_of_ble_eq_true rfl⟩ (IC) ?_
      iterate 3 refine ex_s rfl ?_
      refine ex_v2 rfl H0 rfl ⟨Nat.le_of_ble_eq_true rfl, Nat.le_of_ble_eq_true rfl⟩ (JO) ?_
      refine ex_s rfl ?_
      refine ex_b rfl rfl (fun q => absurd q (Int32.not_le.mpr ht)) (fun _ => ?_)
      iterate 4 refine ex_s rfl ?_
      refine ex_v3 rfl H0 rfl ⟨Nat.le_of_ble_eq_true rfl, Nat.le_of_ble_eq_true rfl⟩ (ME) ?_
      exact ex_sub (sub5 rfl rfl rfl rfl rfl) K
    · have P3 := P2.wc (w' := fun b => if 0 < tOf r then sunG (freezeR (tOf r) r) w (nI (hrOf r)) (tOf r) b else w b) (fun b _ => by show _ = if 0 < tOf r then _ else _; rw [if_neg ht])
      have K := T _ P3 F2
      iterate 2 refine ex_s rfl ?_
      refine ex_b rfl rfl (fun q => absurd q (nI_ge (by omega) (by omega))) (fun _ => ?_)
      iterate 2 refine ex_s rfl ?_
      refine ex_b rfl rfl (fun q => absurd q (nI_ge (b := 96) (by omega) (by decide))) (fun _ => ?_)
      refine ex_s rfl ?_
      refine ex_v0 rfl L0 rfl ⟨Nat.le_of_ble_eq_true rfl, Nat.le_of_ble_eq_true rfl⟩ (HO) ?_
      iterate 3 refine ex_s rfl ?_
      refine ex_v1 rfl L0 rfl ⟨Nat.le_of_ble_eq_true rfl, Nat.le_of_ble_eq_true rfl⟩ (TE) ?_
      iterate 4 refine ex_s rfl ?_
      refine ex_v2 rfl H0 rfl ⟨Nat.le_of_ble_eq_true rfl, Nat.le_of_ble_eq_true rfl⟩ (IC) ?_
      iterate 3 refine ex_s rfl ?_
      refine ex_v2 rfl H0 rfl ⟨Nat.le_of_ble_eq_true rfl, Nat.le_of_ble_eq_true rfl⟩ (JO) ?_
      refine ex_s rfl ?_
      refine ex_b rfl rfl (fun _ => ?_) (fun q => absurd (Int32.not_lt.mp ht) q)
      exact ex_sub (sub5 rfl rfl rfl rfl rfl) K
theorem p_letGo (d N : Nat) (hN : N ≤ 96) {k m : Nat} (hL : PalL k) (hH : HouL m) (hkm : m + 4 < k ∨ k + 12 < m) {B : Nat} {h : AH} {r : Nat → Int32} {w : Nat → UInt32} (hS : Str r) (hs : HS B r w) (hB : B + N < 2 ^ 30) (P : Pal h k r w) : WM (d + 5) mX4_letGoBy [.ref m, .ref k, .int (nI N)] h (fun v h' => v = some (.int (nI (onN r) - nI (onN (hoursR N r w)))) ∧ Pal h' k (hoursR N r w) (hoursW N r w) ∧ FrH k m h h') := by
  have C := p_countOnWall (d + 3) hL P hS.1
  have L0 := hL.1
  have Z := p_letL d N hN hL hH hkm (onN r) N 0 B h r w (by omega) hS hs hB P
  show WX _ _ 0 [(0, _), (1, _), (2, _)] [] _ _
  refine ex_s rfl ?_
  refine ex_v0 rfl L0 rfl ⟨Nat.le_of_ble_eq_true rfl, Nat.le_of_ble_eq_true rfl⟩ (C) ?_
  iterate 3 refine ex_s rfl ?_
  exact ex_sub (sub5 rfl rfl rfl rfl rfl) Z
end
