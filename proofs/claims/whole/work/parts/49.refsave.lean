-- needs: 48
noncomputable section
def svH (h : AH) : AH := hFr (hIr (hI (hI h 0 0 0) 0 14 1) 2 (mapI (h.1 1) 445 (h.1 2))) 6 (mapF (h.2.1 5) 40 (h.2.1 6))
theorem f_save (d : Nat) (h : AH) : EvM (d + 1) mX11_save [.ref 0] h (some (.int (h.1 1 4))) (svH h) := by
  have C := f_copyAll d (a := 1) (b := 2) (fa := 5) (fb := 6) rfl rfl rfl rfl (by decide) (by decide) (hI (hI h 0 0 0) 0 14 1)
  rw [show (hI (hI h 0 0 0) 0 14 1).1 1 = h.1 1 by rw [hI_ne (by decide), hI_ne (by decide)], show (hI (hI h 0 0 0) 0 14 1).1 2 = h.1 2 by rw [hI_ne (by decide), hI_ne (by decide)]] at C
  show EvR _ _ 0 [(0, _)] [] _ _ _
  iterate 14 refine er_s rfl ?_
  refine er_c rfl rfl ⟨Nat.le_of_ble_eq_true rfl, Nat.le_of_ble_eq_true rfl⟩ (C) ?_
  iterate 3 refine er_s rfl ?_
  refine er_il rfl rfl (vi (k := 4)) ?_
  refine er_q rfl ?_ ?_
  · rw [k4, hFr_1, hIr_ne (by decide), hI_ne (by decide), hI_ne (by decide)]
  · rfl
def rsH (h : AH) : AH := hI (hFr (hIr (hI h 0 0 0) 1 (mapI (h.1 2) 445 (h.1 1))) 5 (mapF (h.2.1 6) 40 (h.2.1 5))) 0 11 0
theorem f_restore (d : Nat) (h : AH) : EvM (d + 1) mX11_restore [.ref 0] h (some (.int (if h.1 0 14 = 0 then 0 else h.1 2 4))) (if h.1 0 14 = 0 then hI h 0 0 1 else rsH h) := by
  by_cases c1 : h.1 0 14 = 0
  · rw [if_pos c1, if_pos c1]
    show EvR _ _ 0 [(0, _)] [] _ _ _
    iterate 4 refine er_s rfl ?_
    refine er_b rfl rfl (fun q => absurd q (fun q => q c1)) (fun _ => ?_)
    refine er_s rfl ?_
    refine er_g rfl rfl ?_
    refine er_c rfl rfl ⟨Nat.le_of_ble_eq_true rfl, Nat.le_of_ble_eq_true rfl⟩ (f_failsT _ _ _) ?_
    refine er_b rfl rfl (fun q => absurd q (by decide)) (fun _ => ?_)
    refine er_s rfl ?_
    refine er_q rfl ?_ ?_
    · rfl
    · rfl
  · rw [if_neg c1, if_neg c1]
    have C := f_copyAll d (a := 2) (b := 1) (fa := 6) (fb := 5) rfl rfl rfl rfl (by decide) (by decide) (hI h 0 0 0)
    rw [show (hI h 0 0 0).1 1 = h.1 1 from hI_ne (by decide), show (hI h 0 0 0).1 2 = h.1 2 from hI_ne (by decide)] at C
    show EvR _ _ 0 [(0, _)] [] _ _ _
    iterate 4 refine er_s rfl ?_
    refine er_b rfl rfl (fun _ => ?_) (fun q => absurd c1 q)
    refine er_s rfl ?_
    refine er_c rfl rfl ⟨Nat.le_of_ble_eq_true rfl, Nat.le_of_ble_eq_true rfl⟩ (f_failsF _ _ _) ?_
    refine er_b rfl rfl (fun _ => ?_) (fun q => absurd rfl q)
    iterate 8 refine er_s rfl ?_
    refine er_c rfl rfl ⟨Nat.le_of_ble_eq_true rfl, Nat.le_of_ble_eq_true rfl⟩ (C) ?_
    iterate 6 refine er_s rfl ?_
    refine er_il rfl rfl (vi (k := 4)) ?_
    refine er_q rfl ?_ ?_
    · rw [k4, hI_ne (by decide), hFr_1, hIr_at, mapI_lt (by decide)]
    · rfl
def udH (h : AH) (K : Nat) : AH := hFr (hIr (hI (hI h 0 0 0) 0 11 (nI K)) 1 (mapI (h.1 (10 + K)) 445 (h.1 1))) 5 (mapF (h.2.1 (19 + K)) 40 (h.2.1 5))
theorem f_undo0 (d : Nat) (h : AH) (h11 : h.1 0 11 = 0) : EvM (d + 1) mX11_undo [.ref 0] h (some (.int 0)) (hI h 0 0 1) := by
  show EvR _ _ 0 [(0, _)] [] _ _ _
  iterate 4 refine er_s rfl ?_
  refine er_b rfl rfl (fun q => absurd q (fun q => q h11)) (fun _ => ?_)
  refine er_s rfl ?_
  refine er_g rfl rfl ?_
  refine er_c rfl rfl ⟨Nat.le_of_ble_eq_true rfl, Nat.le_of_ble_eq_true rfl⟩ (f_failsT _ _ _) ?_
  refine er_b rfl rfl (fun q => absurd q (by decide)) (fun _ => ?_)
  refine er_s rfl ?_
  refine er_q rfl ?_ ?_
  · rfl
  · rfl
theorem f_undo (d : Nat) (h : AH) {K : Nat} (hK : K < 8) (h11 : h.1 0 11 = nI (K + 1)) : EvM (d + 1) mX11_undo [.ref 0] h (some (.int (nI K))) (udH h K) := by
  have C := f_copyAll d (hl_10 hK) (hl_19 hK) (b := 1) (fb := 5) rfl rfl (by omega) (by omega) (hI (hI h 0 0 0) 0 11 (nI K))
  rw [show (hI (hI h 0 0 0) 0 11 (nI K)).1 1 = h.1 1 by rw [hI_ne (by decide), hI_ne (by decide)], show (hI (hI h 0 0 0) 0 11 (nI K)).1 (10 + K) = h.1 (10 + K) by rw [hI_ne (by omega), hI_ne (by omega)]] at C
  have e0 : (hI h 0 0 0).1 0 11 = nI (K + 1) := by rw [hI_at, upd_ne (by decide)]; exact h11
  have e1 : (hI (hI h 0 0 0) 0 11 (nI K)).1 0 11 = nI K := by rw [hI_at, upd_eq]
  have em : nI (K + 1) - 1 = nI K := nI_m1 (by omega)
  have W : WM (d + 1) mX11_undo [.ref 0] h (fun v h' => v = some (.int (nI K)) ∧ h' = udH h K) := by
    show WX _ _ 0 [(0, _)] [] _ _
    iterate 4 refine ex_s rfl ?_
    refine ex_b rfl rfl (fun _ => ?_) (fun q => absurd (by rw [h11]; exact fun q => absurd ((nI_z (by omega)).mp q) (by omega)) q)
    refine ex_s rfl ?_
    refine ex_c rfl rfl ⟨Nat.le_of_ble_eq_true rfl, Nat.le_of_ble_eq_true rfl⟩ (f_failsF _ _ _) ?_
    refine ex_b rfl rfl (fun _ => ?_) (fun q => absurd rfl q)
    iterate 4 refine ex_s rfl ?_
    rw [show fv 0 ((hI h 0 0 0).1 0 11) = Value.int (nI (K + 1)) from congrArg Value.int e0]
    refine ex_s rfl ?_
    rw [em]
    iterate 5 refine ex_s rfl ?_
    rw [show fv 0 ((hI (hI h 0 0 0) 0 11 (nI K)).1 0 11) = Value.int (nI K) from congrArg Value.int e1]
    refine ex_aal rfl rfl (by decide) (vi) (ha_10 hK) ?_
    iterate 4 refine ex_s rfl ?_
    rw [show fv 0 ((hI (hI h 0 0 0) 0 11 (nI K)).1 0 11) = Value.int (nI K) from congrArg Value.int e1]
    refine ex_aal rfl rfl (by decide) (vi) (ha_19 hK) ?_
    iterate 4 refine ex_s rfl ?_
    refine ex_c rfl rfl ⟨Nat.le_of_ble_eq_true rfl, Nat.le_of_ble_eq_true rfl⟩ (C) ?_
    iterate 2 refine ex_s rfl ?_
    refine ex_q rfl ?_
    refine ⟨congrArg (fun x => some (Value.int x)) ?_, rfl⟩
    rw [hFr_1, hIr_ne (by decide)]; exact e1
  exact W.ev
end
