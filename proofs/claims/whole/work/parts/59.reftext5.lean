-- needs: 58
noncomputable section
theorem numL_le {I : Nat → Int32} {L : Nat} : ∀ (n v a : Nat), a ≤ (numL I L n v a).2
  | 0, v, a => Nat.le_refl _
  | n + 1, v, a => by
    unfold numL
    split
    · exact Nat.le_trans (by omega) (numL_le n _ (a + 1))
    · exact Nat.le_refl _
theorem numS_le {I : Nat → Int32} {L n : Nat} {s : TS} : s.1 ≤ (numS I L n s).2.1 := by
  unfold numS
  split
  · exact numL_le _ _ _
  · exact Nat.le_refl _
theorem mustS_le {I : Nat → Int32} {L : Nat} {s : TS} {c : Int32} : s.1 ≤ (mustS I L s c).1 := by
  unfold mustS
  split
  · exact Nat.le_succ _
  · exact Nat.le_refl _
theorem mustS_ub {I : Nat → Int32} {L : Nat} {s : TS} {c : Int32} : (mustS I L s c).1 ≤ s.1 + 1 := by
  unfold mustS
  split
  · exact Nat.le_refl _
  · exact Nat.le_succ _
theorem negS_le {I : Nat → Int32} {L : Nat} {s : TS} : s.1 ≤ (negS I L s).1 := Nat.le_add_right _ _
theorem ordK_le {I : Nat → Int32} {L : Nat} {s : TS} {o : Int32} : s.1 ≤ (ordK I L s o).1.1 := by
  unfold ordK
  split
  · exact Nat.le_trans numS_le (Nat.le_trans numS_le (Nat.le_trans mustS_le numS_le))
  · split
    · exact Nat.le_trans numS_le (Nat.le_trans mustS_le (Nat.le_trans numS_le (Nat.le_trans mustS_le numS_le)))
    · split
      · exact Nat.le_trans numS_le (Nat.le_trans mustS_le (Nat.le_trans negS_le numS_le))
      · exact numS_le
theorem rdOrd_le {I : Nat → Int32} {L : Nat} {s : TS} : s.1 ≤ (rdOrd I L s).1.1 ∧ ((rdOrd I L s).1.2 = false → s.1 + 1 ≤ (rdOrd I L s).1.1) := by
  unfold rdOrd
  split
  · have : s.1 + 1 ≤ (ordK I L (s.1 + 1, false) (I s.1)).1.1 := ordK_le (s := (s.1 + 1, false))
    exact ⟨Nat.le_trans (Nat.le_succ _) this, fun _ => this⟩
  · exact ⟨Nat.le_refl _, fun q => absurd (show true = false from q) (by decide)⟩
/-- the places before the orders of a text -/
def oS (I : Nat → Int32) (L : Nat) : Nat → TS
  | 0 => (0, false)
  | i + 1 => mustS I L (rdOrd I L (oS I L i)).1 59
abbrev rdI (I : Nat → Int32) (L i : Nat) : TS × Int32 × Int32 × Int32 × Int32 := rdOrd I L (oS I L i)
def stP9 (I : Nat → Int32) (L i : Nat) : Bool := (rdI I L i).1.2 || decide (L ≤ (rdI I L i).1.1)
abbrev oN0 (I : Nat → Int32) (L : Nat) : Nat := fstP (stP9 I L) 61 61 0
theorem stP9_f {I : Nat → Int32} {L i : Nat} (h : ¬ stP9 I L i = true) : (rdI I L i).1.2 = false ∧ (rdI I L i).1.1 < L := by
  unfold stP9 at h
  rw [Bool.or_eq_true] at h
  refine ⟨Bool.eq_false_iff.mpr (fun q => h (Or.inl q)), ?_⟩
  by_cases q : (rdI I L i).1.1 < L
  · exact q
  · exact absurd (Or.inr (decide_eq_true (by omega))) h
theorem f_cnt_loop (d : Nat) {I : Nat → Int32} {L : Nat} (hL : L ≤ 60) : ∀ (m i : Nat) (h : AH), i + m = 61 → (i ≤ (oS I L i).1 ∧ (oS I L i).1 ≤ 60) → oN0 I L = fstP (stP9 I L) 61 m i → TxI h I L (rdI I L i).1 → WX (d + 5) mX11_countOrders 16 [(0, .ref 0), (1, .int (nI (i + 1)))] [] h (fun v h' => v = some (.int (nI (oN0 I L + 1))) ∧ TxI h' I L (rdI I L (oN0 I L)).1 ∧ FrT h h' ∧ oN0 I L ≤ 60 ∧ stP9 I L (oN0 I L) = true)
  | 0, i, h, hi, hp, e, H => by
    exfalso
    omega
  | m + 1, i, h, hi, hp, e, H => by
    have e2 := H.2.1
    have e4 := H.2.2.2.1
    have e5 := H.2.2.2.2.1
    have e6 := H.2.2.2.2.2
    by_cases c1 : stP9 I L i = true
    · rw [fstP_t c1] at e
      rw [e]
      have hi60 : i ≤ 60 := by omega
      by_cases c2 : (rdI I L i).1.2 = true
      · iterate 2 refine ex_s rfl ?_
        refine ex_b rfl rfl (fun _ => ?_) (fun q => absurd (by rw [e6, c2]; decide) q)
        refine ex_s rfl ?_
        refine ex_q rfl ?_
        exact ⟨rfl, H, FrT.rf, hi60, c1⟩
      · have c3 : L ≤ (rdI I L i).1.1 := by
          unfold stP9 at c1
          rw [Bool.or_eq_true] at c1
          exact c1.elim (fun q => absurd q c2) (fun q => of_decide_eq_true q)
        iterate 2 refine ex_s rfl ?_
        refine ex_b rfl rfl (fun q => absurd q (by rw [e6, Bool.eq_false_iff.mpr c2]; decide)) (fun _ => ?_)
        iterate 4 refine ex_s rfl ?_
        refine ex_b rfl rfl (fun _ => ?_) (fun q => absurd (by rw [e2, e4]; exact nI_le c3 (by omega)) q)
        refine ex_s rfl ?_
        refine ex_q rfl ?_
        exact ⟨rfl, H, FrT.rf, hi60, c1⟩
    · rw [fstP_f c1] at e
      obtain ⟨c2, c3⟩ := stP9_f c1
      have M := f_must (d + 2) H 59
      have hp2 : i + 1 ≤ (oS I L (i + 1)).1 ∧ (oS I L (i + 1)).1 ≤ 60 := ⟨Nat.le_trans (Nat.succ_le_succ hp.1) (Nat.le_trans (rdOrd_le.2 c2) mustS_le), Nat.le_trans mustS_ub (Nat.le_trans (Nat.succ_le_of_lt c3) hL)⟩
      iterate 2 refine ex_s rfl ?_
      refine ex_b rfl rfl (fun q => absurd q (by rw [e6, c2]; decide)) (fun _ => ?_)
      iterate 4 refine ex_s rfl ?_
      refine ex_b rfl rfl (fun q => absurd q (by rw [e2, e4]; exact nI_ge c3 (by omega))) (fun _ => ?_)
      iterate 2 refine ex_s rfl ?_
      refine ex_xc rfl rfl ⟨Nat.le_of_ble_eq_true rfl, Nat.le_of_ble_eq_true rfl⟩ (M) (fun rv9 h9 p9 => ?_)
      obtain ⟨rfl, H1, F1⟩ := p9
      refine ex_s rfl ?_
      refine ex_xc rfl rfl ⟨Nat.le_of_ble_eq_true rfl, Nat.le_of_ble_eq_true rfl⟩ (f_readOrder (d + 0) H1) (fun rv9 h9 p9 => ?_)
      obtain ⟨rfl, H2, F2, -⟩ := p9
      refine ex_s rfl ?_
      refine ex_g rfl rfl ?_
      rw [nI_1]
      refine ex_sub (sub2 rfl rfl) ((f_cnt_loop d hL m (i + 1) _ (by omega) hp2 e H2).mono (fun v h' z => ⟨z.1, z.2.1, F1.1.tr (F2.tr z.2.2.1), z.2.2.2⟩))
theorem f_countOrders (d : Nat) {h : AH} {I : Nat → Int32} {L : Nat} (hL : L ≤ 60) (h29 : h.1 29 = I) (h19 : h.1 0 19 = nI L) : WM (d + 5) mX11_countOrders [.ref 0] h (fun v h' => v = some (.int (nI (oN0 I L + 1))) ∧ TxI h' I L (rdI I L (oN0 I L)).1 ∧ FrT h h' ∧ oN0 I L ≤ 60 ∧ stP9 I L (oN0 I L) = true) := by
  have J : TxI (hI (hI h 0 20 0) 0 22 0) I L (0, false) := ⟨by rw [hI_ne (by decide), hI_ne (by decide)]; exact h29, by rw [hI_at, upd_ne (by decide), hI_at, upd_ne (by decide)]; exact h19, hL, by rw [hI_at, upd_ne (by decide), hI_at, upd_eq]; rfl, by decide, by rw [hI_at, upd_eq]; rfl⟩
  show WX _ _ 0 [(0, _)] [] _ _
  iterate 9 refine ex_s rfl ?_
  refine ex_xc rfl rfl ⟨Nat.le_of_ble_eq_true rfl, Nat.le_of_ble_eq_true rfl⟩ (f_readOrder (d + 0) J) (fun rv9 h9 p9 => ?_)
  obtain ⟨rfl, H2, F2, -⟩ := p9
  refine ex_sub (sub2 rfl rfl) ((f_cnt_loop d hL 61 0 _ (by omega) ⟨Nat.le_refl _, Nat.zero_le 60⟩ rfl H2).mono (fun v h' z => ⟨z.1, z.2.1, ((FrT.hI0 (by decide)).tr (FrT.hI0 (by decide))).tr (F2.tr z.2.2.1), z.2.2.2⟩))
end
