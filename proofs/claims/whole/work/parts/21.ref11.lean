-- needs: 20
noncomputable section
theorem hour1_Shr {r : Nat → Int32} {w : Nat → UInt32} (hw : Wel r) : Shr (freezeR (tOf r) r) (hour1 r w) := remR_Shr (w := hourW r w) (Shr.rf (freezeR_Wel hw)) (CN r) (by rw [freezeR_CN]; exact Nat.le_refl _)
theorem hour2_Shr {r : Nat → Int32} {w : Nat → UInt32} (hw : Wel r) : Shr (hour1 r w) (hour2 r w) := by
  have h1 := (hour1_Shr (w := w) hw).1.1
  have h2 := fallI_Shr (Shr.rf h1) 7 (Nat.le_refl _)
  exact h2.tr (brkR_Shr 40 _ h2.1.1)
theorem hour2_hd {r : Nat → Int32} {w : Nat → UInt32} (hw : Wel r) {i : Nat} (hi : i < 29) (h1 : i ≠ 1) : hour2 r w i = r i := by
  rw [(hour2_Shr hw).1.2.2 i hi, (hour1_Shr hw).1.2.2 i hi, freeze_hd (by omega) h1]
theorem upd0_b {r : Nat → Int32} {x : Int32} {b y : Nat} : ofB (upd r 0 x) b y = ofB r b y := upd_ne (by omega)
theorem upd0_MasW {r : Nat → Int32} {w : Nat → UInt32} {x : Int32} (h : MasW r w) : MasW (upd r 0 x) w := fun b hb hs => h b (by rw [upd_CN (by decide)] at hb; exact hb) (by rw [upd0_b] at hs; exact hs)
/-- what the hours need of a row -/
def HS (B : Nat) (r : Nat → Int32) (w : Nat → UInt32) : Prop := Wel r ∧ MasW r w ∧ HdW B r
theorem hour_HS {B : Nat} {r : Nat → Int32} {w : Nat → UInt32} (h : HS B r w) (hB : B + 1 < 2 ^ 30) : HS (B + 1) (hourR r w) (hourW r w) := by
  obtain ⟨hw, hm, hd⟩ := h
  refine ⟨upd_Wel (hour2_Shr hw).1.1 (by decide) (by decide), upd0_MasW ((hour2_Shr hw).MasW (hour_MasW hw hm hd)), ?_, ?_, ?_⟩
  · obtain ⟨⟨c1, c2, c3⟩, -, -⟩ := hd
    have e : hourR r w 0 = nI (CK r + 1) := by
      show upd (hour2 r w) 0 (hour2 r w 0 + 1) 0 = _
      rw [upd_eq, hour2_hd hw (by decide) (by decide), c1, nI_1]
    have e2 : CK (hourR r w) = CK r + 1 := by
      show (hourR r w 0).toNatClampNeg = _
      rw [e, nI_clamp (by omega)]
    rw [e2]
    exact ⟨e, by omega, hB⟩
  · obtain ⟨n, h1, h2⟩ := hd.2.1
    refine ⟨n, h1, ?_⟩
    show upd (hour2 r w) 0 (hour2 r w 0 + 1) 3 = _
    rw [upd_ne (by decide), hour2_hd hw (by decide) (by decide)]
    exact h2
  · intro i hi
    have e : hourR r w (5 + i) = r (5 + i) := by
      show upd (hour2 r w) 0 (hour2 r w 0 + 1) (5 + i) = _
      rw [upd_ne (by omega), hour2_hd hw (by omega) (by omega)]
    rw [e]
    exact hd.2.2 i hi
def shI (r : Nat → Int32) (n : Nat) (sh : Nat → Int32) : Nat → Int32 := iterN (fun k sh => upd sh k (shOf r k)) n sh
theorem shI_lt {r sh : Nat → Int32} {n k : Nat} (h : k < n) : shI r n sh k = shOf r k := by
  induction n with
  | zero => exact absurd h (Nat.not_lt_zero k)
  | succ n ih =>
    show upd (shI r n sh) n (shOf r n) k = _
    by_cases e : k = n
    · subst e; exact upd_eq
    · rw [upd_ne e]; exact ih (by omega)
theorem f_hr_loop (d : Nat) (h : AH) (r : Nat → Int32) (w ld : Nat → UInt32) (sh : Nat → Int32) (t : Int32) (hw : Wel r) {h' : AH} (K : EvR (d + 7) mX11_goHour 65 [(0, .ref 0), (1, .int (nI (hrOf r))), (2, .int t)] [] (hX h r w ld (shI r (CN r) sh)) none h') : ∀ (m k : Nat), k + m = CN r → EvR (d + 7) mX11_goHour 21 [(0, .ref 0), (1, .int (nI (hrOf r))), (2, .int t), (3, .int (nI k))] [] (hX h r w ld (shI r k sh)) none h'
  | 0, k, hk => by
    have hk : k = CN r := by omega
    have h40 := hw.2.1
    subst hk
    iterate 4 refine er_s rfl ?_
    refine er_il rfl rfl (vi (k := 4)) ?_
    rw [k4, hX_1, hw.1]
    refine er_b rfl rfl (fun _ => ?_) (fun q => absurd (Int32.le_refl _) q)
    exact er_sub (sub3 rfl rfl rfl) K
  | m + 1, k, hk => by
    have h40 := hw.2.1
    have IH := f_hr_loop d h r w ld sh t hw K m (k + 1) (by omega)
    have es : shI r (k + 1) sh = upd (shI r k sh) k (if shB r k = true then 1 else 0) := rfl
    rw [es] at IH
    have e : shB r k = (decide (ofB r k 2 = 1) && shadR r k (nI (hrOf r))) := rfl
    by_cases hs : ofB r k 2 = 1
    · obtain ⟨lk, pk⟩ := hw.2.2 k (by omega)
      rw [decide_eq_true hs, Bool.true_and] at e
      have S := f_isInShadow (d + 3) (b := k) (by omega) (nI (hrOf r)) (hX h r w ld (shI r k sh)) (by rw [hX_1]; exact lk) (by rw [hX_1]; exact pk hs)
      rw [hX_1, ← e] at S
      by_cases hq : shB r k = true
      · rw [if_pos hq] at IH
        iterate 4 refine er_s rfl ?_
        refine er_il rfl rfl (vi (k := 4)) ?_
        rw [k4, hX_1, hw.1]
        refine er_b rfl rfl (fun q => absurd q (nI_ge (by omega) (by omega))) (fun _ => ?_)
        iterate 5 refine er_s rfl ?_
        refine er_c rfl rfl ⟨Nat.le_of_ble_eq_true rfl, Nat.le_of_ble_eq_true rfl⟩ (f_isOnWall _ (b := k) (by omega) _) ?_
        refine er_b rfl rfl (fun q => absurd q (fun q => absurd (bI_eq.mp q) (fun z => z (by rw [hX_1]; exact hs)))) (fun _ => ?_)
        iterate 3 refine er_s rfl ?_
        refine er_c rfl rfl ⟨Nat.le_of_ble_eq_true rfl, Nat.le_of_ble_eq_true rfl⟩ (S) ?_
        refine er_b rfl rfl (fun q => absurd q (fun q => absurd (bI_eq.mp q) (fun z => z hq))) (fun _ => ?_)
        refine er_s rfl ?_
        refine er_g rfl rfl ?_
        refine er_zs rfl rfl (vi) rfl ?_
        refine er_s rfl ?_
        refine er_g rfl rfl ?_
        rw [nI_1, cl k, hX_hI]
        exact er_sub (sub4 rfl rfl rfl rfl) IH
      · rw [if_neg hq] at IH
        iterate 4 refine er_s rfl ?_
        refine er_il rfl rfl (vi (k := 4)) ?_
        rw [k4, hX_1, hw.1]
        refine er_b rfl rfl (fun q => absurd q (nI_ge (by omega) (by omega))) (fun _ => ?_)
        iterate 5 refine er_s rfl ?_
        refine er_c rfl rfl ⟨Nat.le_of_ble_eq_true rfl, Nat.le_of_ble_eq_true rfl⟩ (f_isOnWall _ (b := k) (by omega) _) ?_
        refine er_b rfl rfl (fun q => absurd q (fun q => absurd (bI_eq.mp q) (fun z => z (by rw [hX_1]; exact hs)))) (fun _ => ?_)
        iterate 3 refine er_s rfl ?_
        refine er_c rfl rfl ⟨Nat.le_of_ble_eq_true rfl, Nat.le_of_ble_eq_true rfl⟩ (S) ?_
        refine er_b rfl rfl (fun _ => ?_) (fun q => absurd (bI_eq.mpr hq) q)
        refine er_s rfl ?_
        refine er_zs rfl rfl (vi) rfl ?_
        refine er_s rfl ?_
        refine er_g rfl rfl ?_
        rw [nI_1, cl k, hX_hI]
        exact er_sub (sub4 rfl rfl rfl rfl) IH
    · rw [decide_eq_false hs, Bool.false_and] at e
      rw [if_neg (by rw [e]; decide)] at IH
      iterate 4 refine er_s rfl ?_
      refine er_il rfl rfl (vi (k := 4)) ?_
      rw [k4, hX_1, hw.1]
      refine er_b rfl rfl (fun q => absurd q (nI_ge (by omega) (by omega))) (fun _ => ?_)
      iterate 5 refine er_s rfl ?_
      refine er_c rfl rfl ⟨Nat.le_of_ble_eq_true rfl, Nat.le_of_ble_eq_true rfl⟩ (f_isOnWall _ (b := k) (by omega) _) ?_
      refine er_b rfl rfl (fun _ => ?_) (fun q => absurd (bI_eq.mpr (by rw [hX_1]; exact hs)) q)
      refine er_s rfl ?_
      refine er_zs rfl rfl (vi) rfl ?_
      refine er_s rfl ?_
      refine er_g rfl rfl ?_
      rw [nI_1, cl k, hX_hI]
      exact er_sub (sub4 rfl rfl rfl rfl) IH
theorem f_goHour (d : Nat) (h : AH) (r : Nat → Int32) (w ld : Nat → UInt32) (sh : Nat → Int32) {B : Nat} (hS : HS B r w) : ∃ ld' sh', EvM (d + 7) mX11_goHour [.ref 0] (hX h r w ld sh) none (hX h (hourR r w) (hourW r w) ld' sh') := by
  obtain ⟨hw, hm, hd⟩ := hS
  obtain ⟨⟨c1, c2, c3⟩, hv, ht⟩ := id hd
  have hh : hrOf r < 24 := Nat.mod_lt _ (by decide)
  have hf := freezeR_Wel (t := tOf r) hw
  have hm1 : MasW (freezeR (tOf r) r) w := fun b hb hs => hm b (by rw [freezeR_CN] at hb; exact hb) (by rw [freeze_b (by decide) (by decide)] at hs; exact hs)
  have F := f_freeze (d + 4) (tOf r) (hX h r w ld (shI r (CN r) sh)) (by rw [hX_1]; exact hw)
  rw [hX_1, hX_5, hX_setR] at F
  have M := f_melt (d + 3) (tOf r) (hX h (freezeR (tOf r) r) w ld (shI r (CN r) sh)) (by rw [hX_1]; exact hf) (by rw [hX_1, hX_5]; exact hm1) (fun _ => (ht (hrOf r) hh).2) (by rw [hX_1, freeze_hd (by decide) (by decide)]; exact hv)
  rw [hX_1, hX_5, hX_28, hX_setR, freezeR_CN] at M
  have ew : meltW (freezeR (tOf r) r) (shI r (CN r) sh) (tOf r) (CN r) w = hourW r w := iterN_congr (fun k t9 hk => by unfold meltS; rw [shI_lt hk])
  rw [ew] at M
  have hS1 := hour1_Shr (w := w) hw
  have L := f_fall (d + 1) (hX h (hour1 r w) (hourW r w) ld (shI r (CN r) sh)) (by rw [hX_1]; exact hS1.1.1)
  rw [hX_1, hX_5, hX_setR] at L
  have hS2 := fallI_Shr (Shr.rf hS1.1.1) 7 (Nat.le_refl _)
  have hm2 := hS2.MasW (hour_MasW hw hm hd)
  have O := f_over (d + 0) (hX h (fallR (hour1 r w)) (hourW r w) ld (shI r (CN r) sh)) (by rw [hX_1]; exact hS2.1.1) (by rw [hX_1, hX_5]; exact hm2)
  rw [hX_1, hX_5, hX_hFr] at O
  obtain ⟨ld', K⟩ := f_brk (d + 0) h (hourW r w) (shI r (CN r) sh) (nI (hrOf r)) (tOf r) 40 (fallR (hour1 r w)) (loadsR (fallR (hour1 r w)) (hourW r w) ((hX h (fallR (hour1 r w)) (hourW r w) ld (shI r (CN r) sh)).2.1 27)) hS2.1.1 hm2 (onN_le hS2.1.1)
  refine ⟨ld', shI r (CN r) sh, ?_⟩
  have A : EvR (d + 7) mX11_goHour 65 [(0, .ref 0), (1, .int (nI (hrOf r))), (2, .int (tOf r))] [] (hX h r w ld (shI r (CN r) sh)) none (hX h (hourR r w) (hourW r w) ld' (shI r (CN r) sh)) := by
    iterate 2 refine er_s rfl ?_
    refine er_c rfl rfl ⟨Nat.le_of_ble_eq_true rfl, Nat.le_of_ble_eq_true rfl⟩ (F) ?_
    iterate 2 refine er_s rfl ?_
    refine er_c rfl rfl ⟨Nat.le_of_ble_eq_true rfl, Nat.le_of_ble_eq_true rfl⟩ (M) ?_
    refine er_s rfl ?_
    refine er_c rfl rfl ⟨Nat.le_of_ble_eq_true rfl, Nat.le_of_ble_eq_true rfl⟩ (L) ?_
    refine er_s rfl ?_
    refine er_c rfl rfl ⟨Nat.le_of_ble_eq_true rfl, Nat.le_of_ble_eq_true rfl⟩ (O) ?_
    refine er_s rfl ?_
    exact er_sub (sub2 rfl rfl) K
  have Z := f_hr_loop d h r w ld sh (tOf r) hw A (CN r) 0 (by omega)
  show EvR _ _ 0 [(0, _)] [] _ _ _
  iterate 3 refine er_s rfl ?_
  refine er_il rfl rfl (vi (k := 0)) ?_
  refine er_s rfl ?_
  rw [k0, hX_1, c1]
  refine er_s rfl ?_
  rw [show (24 : Int32) = nI 24 from rfl, pk_rem (by omega) (by decide) (by decide)]
  iterate 6 refine er_s rfl ?_
  rw [show (5 : Int32) = nI 5 from rfl, nI_add]
  refine er_il rfl rfl (vi) ?_
  rw [hX_1, cl _]
  iterate 3 refine er_s rfl ?_
  exact er_sub (sub4 rfl rfl rfl rfl) Z
/-- n hours -/
def hoursR : Nat → (Nat → Int32) → (Nat → UInt32) → Nat → Int32
  | 0, r, _ => r
  | n + 1, r, w => hoursR n (hourR r w) (hourW r w)
def hoursW : Nat → (Nat → Int32) → (Nat → UInt32) → Nat → UInt32
  | 0, _, w => w
  | n + 1, r, w => hoursW n (hourR r w) (hourW r w)
theorem hours_HS : ∀ (n : Nat) {B : Nat} {r : Nat → Int32} {w : Nat → UInt32}, HS B r w → B + n < 2 ^ 30 → HS (B + n) (hoursR n r w) (hoursW n r w)
  | 0, B, r, w, h, _ => h
  | n + 1, B, r, w, h, hB => by
    have := hours_HS n (hour_HS h (by omega)) (by omega)
    rw [show B + 1 + n = B + (n + 1) by omega] at this
    exact this
theorem f_goHours_loop (d N : Nat) (hN : N < 2 ^ 31) (h : AH) : ∀ (m k B : Nat) (r : Nat → Int32) (w ld : Nat → UInt32) (sh : Nat → Int32), k + m = N → HS B r w → B + m < 2 ^ 30 → ∃ ld' sh', EvR (d + 8) mX11_goHours 2 [(0, .ref 0), (1, .int (nI N)), (2, .int (nI k))] [] (hX h r w ld sh) none (hX h (hoursR m r w) (hoursW m r w) ld' sh')
  | 0, k, B, r, w, ld, sh, hk, hS, hB => by
    have hk : k = N := by omega
    subst hk
    refine ⟨ld, sh, ?_⟩
    iterate 2 refine er_s rfl ?_
    refine er_b rfl rfl (fun _ => ?_) (fun q => absurd (Int32.le_refl _) q)
    refine er_q rfl ?_ ?_
    · rfl
    · rfl
  | m + 1, k, B, r, w, ld, sh, hk, hS, hB => by
    obtain ⟨ld1, sh1, G⟩ := f_goHour d h r w ld sh hS
    obtain ⟨ld2, sh2, K⟩ := f_goHours_loop d N hN h m (k + 1) (B + 1) (hourR r w) (hourW r w) ld1 sh1 (by omega) (hour_HS hS (by omega)) (by omega)
    refine ⟨ld2, sh2, ?_⟩
    iterate 2 refine er_s rfl ?_
    refine er_b rfl rfl (fun q => absurd q (nI_ge (by omega) (by omega))) (fun _ => ?_)
    refine er_s rfl ?_
    refine er_c rfl rfl ⟨Nat.le_of_ble_eq_true rfl, Nat.le_of_ble_eq_true rfl⟩ (G) ?_
    refine er_s rfl ?_
    refine er_g rfl rfl ?_
    rw [nI_1]
    exact er_sub (sub3 rfl rfl rfl) K
theorem f_goHours (d N : Nat) (h : AH) (r : Nat → Int32) (w ld : Nat → UInt32) (sh : Nat → Int32) {B : Nat} (hS : HS B r w) (hB : B + N < 2 ^ 30) : ∃ ld' sh', EvM (d + 8) mX11_goHours [.ref 0, .int (nI N)] (hX h r w ld sh) none (hX h (hoursR N r w) (hoursW N r w) ld' sh') := by
  obtain ⟨ld', sh', K⟩ := f_goHours_loop d N (by omega) h N 0 B r w ld sh (by omega) hS hB
  refine ⟨ld', sh', ?_⟩
  show EvR _ _ 0 [(0, _), (1, _)] [] _ _ _
  iterate 2 refine er_s rfl ?_
  exact er_sub (sub3 rfl rfl rfl) K
end
