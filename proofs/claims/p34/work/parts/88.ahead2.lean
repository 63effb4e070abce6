-- needs: 87
noncomputable section
theorem Pal_v {h : AH} {r : Nat → Int32} {w : Nat → UInt32} (P : Pal h 78 r w) (v : Int32) : Pal (hI h 78 3 v) 78 (upd r 3 v) w := by
  obtain ⟨p1, p2, p3, p4, p5, p6⟩ := P
  have e : ∀ o, 0 < o → (hI h 78 3 v).1 (78 + o) = h.1 (78 + o) := fun o ho => hI_ne (show 78 + o ≠ 78 by omega)
  have eb : ∀ b y, ofB (upd r 3 v) b y = ofB r b y := fun b y => upd_ne (by omega)
  have eC : CN (upd r 3 v) = CN r := upd_CN (by decide)
  refine ⟨fun j hj => ?_, fun j hj => by rw [e 1 (by decide), upd_ne (by omega)]; exact p2 j hj, fun b hb => ?_, fun b hb hb2 => ?_, fun j hj => by rw [e 11 (by decide), upd_ne (by omega)]; exact p5 j hj, fun q p hq hp => ?_⟩
  · rw [hI_at]
    by_cases c : j = 3
    · subst c; rw [upd_eq, upd_eq]
    · rw [upd_ne c, upd_ne c]; exact p1 j hj
  · rw [eC] at hb
    obtain ⟨a1, a2, a3, a4⟩ := p3 b hb
    exact ⟨by rw [e 2 (by decide), eb]; exact a1, by rw [e 3 (by decide), eb]; exact a2, a3, fun o h2 h8 => by rw [eb, show (hI h 78 3 v).1 (78 + 3 + o) = h.1 (78 + 3 + o) from hI_ne (show 78 + 3 + o ≠ 78 by omega)]; exact a4 o h2 h8⟩
  · rw [eC] at hb
    rw [e 5 (by decide), e 6 (by decide), e 7 (by decide), e 8 (by decide), e 9 (by decide), e 10 (by decide)]
    exact p4 b hb hb2
  · rw [e 12 (by decide), eC]
    have ei : blkIn (upd r 3 v) (nI q) (nI p) = blkIn r (nI q) (nI p) := by
      show fstP _ (CN (upd r 3 v)) (CN (upd r 3 v)) 0 = _
      rw [eC]
      exact fstP_congr _ _ (fun j _ _ => by unfold inP; rw [eb, eb, eb])
    rw [ei]
    exact p6 q p hq hp
/-- hours without a loss, one by one or together -/
theorem p_safe_loop (d N : Nat) (hN : N ≤ 24) {h : AH} {r : Nat → Int32} {w : Nat → UInt32} {B : Nat} (hS : Str r) (hs : HS B r w) (hB : B + 48 < 2 ^ 30) {v9 : Int32} : ∀ (m i : Nat) (g : AH), i + m = N → Pal g 78 (hoursR i r w) (hoursW i r w) → FrA h g → onN (hoursR i r w) = onN r → WX (d + 6) mX0_isSafeFor 34 [(0, .ref 77), (1, .ref 32), (2, .int v9), (3, .int (nI N)), (4, .int (nI i))] [] g (fun v h' => v = some (.int (bI (onN (hoursR N r w) = onN r))) ∧ FrA h h')
  | 0, i, g, hi, P, F, ho => by
    have hi : i = N := by omega
    subst hi
    rw [bI_t ho]
    iterate 2 refine ex_s rfl ?_
    refine ex_b rfl rfl (fun _ => ?_) (fun q => absurd (Int32.le_refl _) q)
    refine ex_s rfl ?_
    refine ex_q (ret_bK rfl rfl) ?_
    exact ⟨rfl, F⟩
  | m + 1, i, g, hi, P, F, ho => by
    have hh := hours_HS i hs (by omega)
    have hT := hours_Str i (w := w) hS
    have L := p_letGo (d + 0) 1 (by decide) palL78 houL91 (by decide) hT hh (by omega) P
    have es := hours_s i (r := r) (w := w)
    rw [show hoursR 1 (hoursR i r w) (hoursW i r w) = hoursR (i + 1) r w from es.1.symm, show hoursW 1 (hoursR i r w) (hoursW i r w) = hoursW (i + 1) r w from es.2.symm, ho] at L
    have le := hours_on (i + 1) B hs (by omega)
    have l40 := onN_le hs.1
    by_cases c : onN (hoursR (i + 1) r w) = onN r
    · iterate 2 refine ex_s rfl ?_
      refine ex_b rfl rfl (fun q => absurd q (nI_ge (by omega) (by omega))) (fun _ => ?_)
      iterate 2 refine ex_s rfl ?_
      refine ex_b rfl rfl (fun q => absurd q (nI_ge (b := 24) (by omega) (by decide))) (fun _ => ?_)
      iterate 5 refine ex_s rfl ?_
      refine ex_xc rfl rfl ⟨Nat.le_of_ble_eq_true rfl, Nat.le_of_ble_eq_true rfl⟩ (L) (fun rv9 h9 p9 => ?_)
      obtain ⟨rfl, P2, F2⟩ := p9
      refine ex_b rfl rfl (fun _ => ?_) (fun q => absurd (by rw [c, Int32.sub_self]; exact Int32.le_refl _) q)
      refine ex_s rfl ?_
      refine ex_g rfl rfl ?_
      rw [nI_1]
      exact ex_sub (sub5 rfl rfl rfl rfl rfl) (p_safe_loop d N hN hS hs hB m (i + 1) _ (by omega) P2 (F.tr F2.a) c)
    · have es2 : nI (onN r) - nI (onN (hoursR (i + 1) r w)) = nI (onN r - onN (hoursR (i + 1) r w)) := nI_sub le
      have hlt : ¬ onN (hoursR N r w) = onN r := fun z => by
        have a := hours_a (i + 1) (N - (i + 1)) (r := r) (w := w)
        rw [show i + 1 + (N - (i + 1)) = N by omega] at a
        have b := hours_on (N - (i + 1)) (B + (i + 1)) (hours_HS (i + 1) hs (by omega)) (by omega)
        rw [← a.1] at b
        omega
      rw [bI_f hlt]
      iterate 2 refine ex_s rfl ?_
      refine ex_b rfl rfl (fun q => absurd q (nI_ge (by omega) (by omega))) (fun _ => ?_)
      iterate 2 refine ex_s rfl ?_
      refine ex_b rfl rfl (fun q => absurd q (nI_ge (b := 24) (by omega) (by decide))) (fun _ => ?_)
      iterate 5 refine ex_s rfl ?_
      refine ex_xc rfl rfl ⟨Nat.le_of_ble_eq_true rfl, Nat.le_of_ble_eq_true rfl⟩ (L) (fun rv9 h9 p9 => ?_)
      obtain ⟨rfl, P2, F2⟩ := p9
      refine ex_b rfl rfl (fun q => absurd q (by rw [es2]; exact nI_nle (by omega) (by omega))) (fun _ => ?_)
      refine ex_s rfl ?_
      refine ex_q (ret_bK rfl rfl) ?_
      exact ⟨rfl, F.tr F2.a⟩
theorem p_isSafeFor (d v : Nat) (hv : v ≤ 50) {h : AH} {r : Nat → Int32} {w : Nat → UInt32} {B : Nat} (P : Pal h 32 r w) (hS : Str r) (hs : HS B r w) (hB : B + 48 < 2 ^ 30) : WM (d + 6) mX0_isSafeFor [.ref 77, .ref 32, .int (nI v)] h (fun v9 h' => v9 = some (.int (bI (svP r w v = true))) ∧ FrA h h') := by
  have A := p_copyFrom (d + 4) palL78 palL32 (by decide) hs.1.2.1 P
  obtain ⟨⟨c1, c2, c3⟩, -, -⟩ := hs.2.2
  have h24 : CK r % 24 < 24 := Nat.mod_lt _ (by decide)
  have hnh : nhR r ≤ 24 := by unfold nhR; omega
  have FM := fun g => p_floorMod (d + 5) (12 - nI (CK r % 24)) g
  have eb : bI (onN (hoursR (nhR r) (upd r 3 (nI v)) w) = onN (upd r 3 (nI v))) = bI (svP r w v = true) := by
    rw [on_upd (by decide) (by decide)]
    unfold svP svR
    by_cases z : onN (hoursR (nhR r) (upd r 3 (nI v)) w) = onN r
    · rw [bI_t z, bI_t (decide_eq_true z)]
    · rw [bI_f z, bI_f (fun y => z (of_decide_eq_true y))]
  show WX _ _ 0 [(0, _), (1, _), (2, _)] [] _ _
  iterate 3 refine ex_s rfl ?_
  refine ex_xc rfl rfl ⟨Nat.le_of_ble_eq_true rfl, Nat.le_of_ble_eq_true rfl⟩ (A) (fun rv9 h9 p9 => ?_)
  obtain ⟨rfl, P1, F1⟩ := p9
  have Hd := p_hourOfDay (d + 4) palL32 (hI h9 78 3 (nI v)) (c := CK r) (by omega) (by rw [hI_ne (by decide), (F1.a 32 (by decide)).1, P.hd (by decide)]; exact c1)
  have L := p_safe_loop d (nhR r) hnh (h := h) (v9 := nI v) (upd_Str (x := nI v) (i := 3) hS (by decide) (by decide)) (HS_v hs hv) hB (nhR r) 0 (hI h9 78 3 (nI v)) (by omega) (Pal_v P1 _) (F1.a.tr (fun a ha => ⟨hI_ne (show a ≠ 78 by omega), rfl⟩)) rfl
  rw [eb] at L
  iterate 6 refine ex_s rfl ?_
  refine ex_c rfl rfl ⟨Nat.le_of_ble_eq_true rfl, Nat.le_of_ble_eq_true rfl⟩ (Hd) ?_
  iterate 2 refine ex_s rfl ?_
  refine ex_c rfl rfl ⟨Nat.le_of_ble_eq_true rfl, Nat.le_of_ble_eq_true rfl⟩ ((FM _)) ?_
  rw [fmod_noon _ (List.mem_range.mpr h24)]
  iterate 2 refine ex_s rfl ?_
  rw [nI_1]
  iterate 3 refine ex_s rfl ?_
  exact ex_sub (sub5 rfl rfl rfl rfl rfl) L
end
