-- needs: 52
noncomputable section
theorem MasW_upd {r : Nat → Int32} {w : Nat → UInt32} {i : Nat} {x : Int32} (h : MasW r w) (hi : i < 125) (h4 : i ≠ 4) : MasW (upd r i x) w := fun b hb hs => h b (by rw [upd_CN h4] at hb; exact hb) (by rw [show ofB (upd r i x) b 2 = ofB r b 2 from upd_ne (by omega)] at hs; exact hs)
theorem MasK_upd {r : Nat → Int32} {w : Nat → UInt32} {i : Nat} {x : Int32} (h : MasK r w) (hi : i < 125) (h4 : i ≠ 4) : MasK (upd r i x) w := fun b hb hs => h b (by rw [upd_CN h4] at hb; exact hb) (by rw [show ofB (upd r i x) b 2 = ofB r b 2 from upd_ne (by omega)] at hs; exact hs)
theorem HS_v {B : Nat} {r : Nat → Int32} {w : Nat → UInt32} (h : HS B r w) {v : Nat} (hv : v ≤ 50) : HS B (upd r 3 (nI v)) w := by
  obtain ⟨hw, hm, ⟨c1, c2, c3⟩, hd, ht⟩ := h
  have e : CK (upd r 3 (nI v)) = CK r := congrArg Int32.toNatClampNeg (upd_ne (by decide))
  refine ⟨upd_Wel hw (by decide) (by decide), MasW_upd hm (by decide) (by decide), ⟨?_, by rw [e]; exact c2, c3⟩, ⟨v, hv, upd_eq⟩, fun i hi => by rw [upd_ne (by omega)]; exact ht i hi⟩
  rw [e, upd_ne (by decide)]
  exact c1
theorem HS_t {B : Nat} {r : Nat → Int32} {w : Nat → UInt32} (h : HS B r w) {i : Nat} (hi : i < 24) {t : Int32} (h1 : -30 ≤ t) (h2 : t ≤ 20) : HS B (upd r (5 + i) t) w := by
  obtain ⟨hw, hm, ⟨c1, c2, c3⟩, ⟨v, hv, hd⟩, ht⟩ := h
  have e : CK (upd r (5 + i) t) = CK r := congrArg Int32.toNatClampNeg (upd_ne (by omega))
  refine ⟨upd_Wel hw (by omega) (by omega), MasW_upd hm (by omega) (by omega), ⟨?_, by rw [e]; exact c2, c3⟩, ⟨v, hv, by rw [upd_ne (by omega)]; exact hd⟩, fun j hj => ?_⟩
  · rw [e, upd_ne (by omega)]
    exact c1
  · by_cases q : j = i
    · subst q
      rw [upd_eq]
      exact ⟨h1, h2⟩
    · rw [upd_ne (by omega)]
      exact ht j hj
theorem on_upd {r : Nat → Int32} {i : Nat} {x : Int32} (hi : i < 125) (h4 : i ≠ 4) : onN (upd r i x) = onN r := by
  show cntS (upd r i x) 1 (CN (upd r i x)) = cntS r 1 (CN r)
  rw [upd_CN h4]
  exact cntP_congr (fun k hk => by rw [show ofB (upd r i x) k 2 = ofB r k 2 from upd_ne (by omega)])
/-- the hours until noon's hour has gone -/
def nhR (r : Nat → Int32) : Nat := (36 - hrOf r) % 24 + 1
theorem nh_e : ∀ a, a < 24 → (12 : Int32) - nI a + 24 = nI (36 - a) := by decide
def svR (r : Nat → Int32) (w : Nat → UInt32) (v : Nat) : Nat → Int32 := hoursR (nhR r) (upd r 3 (nI v)) w
def svP (r : Nat → Int32) (w : Nat → UInt32) (v : Nat) : Bool := decide (onN (svR r w v) = onN r)
def svF (r : Nat → Int32) (w : Nat → UInt32) : Nat → Option Nat
  | 0 => none
  | n + 1 => if svP r w n = true then some n else svF r w n
def sfC (r : Nat → Int32) (w : Nat → UInt32) : Int32 := if svF r w 51 = none then 1 else 0
theorem hI_hX {g : AH} {i : Nat} {x : Int32} : hI g 1 i x = hX g (upd (g.1 1) i x) (g.2.1 5) (g.2.1 27) (g.1 28) := by
  conv => lhs; rw [← hX_self (h := g)]
  refine Prod.ext ?_ rfl
  funext a j
  by_cases e : a = 1
  · subst e
    by_cases q : j = i
    · subst q
      simp [hI, hX, upd]
    · simp [hI, hX, upd, q]
  · by_cases e2 : a = 28
    · subst e2
      simp [hI, hX]
    · simp [hI, hX, e, e2]
theorem f_safe_loop (d : Nat) (h : AH) {B : Nat} (hS : HS B (h.1 1) (h.2.1 5)) (hB : B + 48 < 2 ^ 30) (z1 : Z9 (h.1 1)) (z2 : ZW (h.2.1 5)) (K : Nat) : ∀ (n : Nat) (g : AH), n ≤ 51 → BgI h g → WX (d + 9) mX11_safe 37 [(0, .ref 0), (1, .int (nI (onN (h.1 1)))), (2, .int (nI (nhR (h.1 1)))), (3, .int (nI n)), (4, .int 0)] [] g (fun v h' => (∃ a, v = some (.int a) ∧ (∀ b, svF (h.1 1) (h.2.1 5) n = some b → a = nI b)) ∧ OqP h h' (if svF (h.1 1) (h.2.1 5) n = none then 1 else 0) (h.1 0 12) (h.1 0 13) (h.1 1) (h.2.1 5) false K)
  | 0, g, hn, I => by
    rw [show svF (h.1 1) (h.2.1 5) 0 = none from rfl, if_pos rfl]
    refine ex_s rfl ?_
    refine ex_b rfl rfl (fun q => absurd q (fun q => q rfl)) (fun _ => ?_)
    refine ex_s rfl ?_
    refine ex_b rfl rfl (fun _ => ?_) (fun q => absurd (by decide) q)
    iterate 3 refine ex_s rfl ?_
    refine ex_b rfl rfl (fun q => absurd q (fun q => q rfl)) (fun _ => ?_)
    refine ex_s rfl ?_
    refine ex_g rfl rfl ?_
    refine ex_c rfl rfl ⟨Nat.le_of_ble_eq_true rfl, Nat.le_of_ble_eq_true rfl⟩ (f_failsT _ _ _) ?_
    refine ex_b rfl rfl (fun q => absurd q (by decide)) (fun _ => ?_)
    refine ex_s rfl ?_
    refine ex_g rfl rfl ?_
    refine ex_q rfl ?_
    exact ⟨⟨_, rfl, fun b q => nomatch q⟩, I.at⟩
  | n + 1, g, hn, I => by
    have hm : nI (n + 1) + -1 = nI n := (Int32.sub_eq_add_neg _ _).symm.trans (nI_m1 (by omega))
    have hS2 := HS_v hS (v := n) (by omega)
    have hnh : nhR (h.1 1) ≤ 24 := by unfold nhR; omega
    obtain ⟨ld, sh, G⟩ := f_goHours d (nhR (h.1 1)) g (upd (h.1 1) 3 (nI n)) (h.2.1 5) (g.2.1 27) (g.1 28) hS2 (by omega)
    have hh := hours_HS (nhR (h.1 1)) hS2 (by omega)
    have hz := hours_Z (nhR (h.1 1)) B hS2 (by omega) (z1.upd (by decide)) z2
    have C := f_countState (d + 7) 1 (hX g (svR (h.1 1) (h.2.1 5) n) (hoursW (nhR (h.1 1)) (upd (h.1 1) 3 (nI n)) (h.2.1 5)) ld sh) (by rw [hX_1]; exact hh.1)
    rw [hX_1] at C
    have E := f_end2 (d + 7) (hX g (svR (h.1 1) (h.2.1 5) n) (hoursW (nhR (h.1 1)) (upd (h.1 1) 3 (nI n)) (h.2.1 5)) ld sh)
    have J := I.ed z1 z2 (sh := sh) (ld := ld) hz.1 hz.2
    have l40 := onN_le hS.1
    have l41 : cntS (svR (h.1 1) (h.2.1 5) n) 1 (CN (svR (h.1 1) (h.2.1 5) n)) ≤ 40 := onN_le hh.1
    have l42 : onN (svR (h.1 1) (h.2.1 5) n) ≤ 40 := l41
    have eX : hI g 1 3 (nI n) = hX g (upd (h.1 1) 3 (nI n)) (h.2.1 5) (g.2.1 27) (g.1 28) := by rw [hI_hX, I.1.1, I.1.2.1]
    by_cases c1 : onN (svR (h.1 1) (h.2.1 5) n) = onN (h.1 1)
    · have e : svF (h.1 1) (h.2.1 5) (n + 1) = some n := if_pos (decide_eq_true c1)
      rw [e, if_neg (by simp)]
      have Tl : WX (d + 9) mX11_safe 37 [(0, .ref 0), (1, .int (nI (onN (h.1 1)))), (2, .int (nI (nhR (h.1 1)))), (3, .int (nI n)), (4, .int 1)] [] (edH (hX g (svR (h.1 1) (h.2.1 5) n) (hoursW (nhR (h.1 1)) (upd (h.1 1) 3 (nI n)) (h.2.1 5)) ld sh)) (fun v h' => (∃ a, v = some (.int a) ∧ (∀ b, some n = some b → a = nI b)) ∧ OqP h h' 0 (h.1 0 12) (h.1 0 13) (h.1 1) (h.2.1 5) false K) := by
        refine ex_s rfl ?_
        refine ex_b rfl rfl (fun _ => ?_) (fun q => absurd (by decide) q)
        iterate 3 refine ex_s rfl ?_
        refine ex_b rfl rfl (fun _ => ?_) (fun q => absurd (by decide) q)
        refine ex_s rfl ?_
        refine ex_c rfl rfl ⟨Nat.le_of_ble_eq_true rfl, Nat.le_of_ble_eq_true rfl⟩ (f_failsF _ _ _) ?_
        refine ex_b rfl rfl (fun _ => ?_) (fun q => absurd rfl q)
        refine ex_s rfl ?_
        refine ex_q rfl ?_
        exact ⟨⟨_, rfl, fun b q => by cases q; rfl⟩, J.at⟩
      refine ex_s rfl ?_
      refine ex_b rfl rfl (fun q => absurd q (fun q => q rfl)) (fun _ => ?_)
      refine ex_s rfl ?_
      refine ex_b rfl rfl (fun q => absurd q (nI_nle (by omega) (by omega))) (fun _ => ?_)
      refine ex_s rfl ?_
      rw [hm]
      iterate 4 refine ex_s rfl ?_
      refine ex_is rfl rfl (vi (k := 3)) ?_
      rw [k3, eX]
      iterate 2 refine ex_s rfl ?_
      refine ex_c rfl rfl ⟨Nat.le_of_ble_eq_true rfl, Nat.le_of_ble_eq_true rfl⟩ (G) ?_
      iterate 2 refine ex_s rfl ?_
      refine ex_c rfl rfl ⟨Nat.le_of_ble_eq_true rfl, Nat.le_of_ble_eq_true rfl⟩ (C) ?_
      refine ex_s rfl ?_
      refine ex_b rfl rfl (fun q => absurd q (fun q => q (congrArg nI c1))) (fun _ => ?_)
      refine ex_s rfl ?_
      refine ex_g rfl rfl ?_
      iterate 2 refine ex_s rfl ?_
      refine ex_c rfl rfl ⟨Nat.le_of_ble_eq_true rfl, Nat.le_of_ble_eq_true rfl⟩ (E) ?_
      refine ex_g rfl rfl ?_
      exact ex_sub (sub5 rfl rfl rfl rfl rfl) Tl
    · have e : svF (h.1 1) (h.2.1 5) (n + 1) = svF (h.1 1) (h.2.1 5) n := if_neg (fun q => c1 (of_decide_eq_true q))
      rw [e]
      have IH := f_safe_loop d h hS hB z1 z2 K n _ (by omega) J
      refine ex_s rfl ?_
      refine ex_b rfl rfl (fun q => absurd q (fun q => q rfl)) (fun _ => ?_)
      refine ex_s rfl ?_
      refine ex_b rfl rfl (fun q => absurd q (nI_nle (by omega) (by omega))) (fun _ => ?_)
      refine ex_s rfl ?_
      rw [hm]
      iterate 4 refine ex_s rfl ?_
      refine ex_is rfl rfl (vi (k := 3)) ?_
      rw [k3, eX]
      iterate 2 refine ex_s rfl ?_
      refine ex_c rfl rfl ⟨Nat.le_of_ble_eq_true rfl, Nat.le_of_ble_eq_true rfl⟩ (G) ?_
      iterate 2 refine ex_s rfl ?_
      refine ex_c rfl rfl ⟨Nat.le_of_ble_eq_true rfl, Nat.le_of_ble_eq_true rfl⟩ (C) ?_
      refine ex_s rfl ?_
      refine ex_b rfl rfl (fun _ => ?_) (fun q => absurd (fun q => c1 ((nI_eq (by omega) (by omega)).mp q)) q)
      iterate 3 refine ex_s rfl ?_
      refine ex_c rfl rfl ⟨Nat.le_of_ble_eq_true rfl, Nat.le_of_ble_eq_true rfl⟩ (E) ?_
      refine ex_g rfl rfl ?_
      exact ex_sub (sub5 rfl rfl rfl rfl rfl) IH
theorem f_safe (d : Nat) (h : AH) {B : Nat} (hS : HS B (h.1 1) (h.2.1 5)) (hB : B + 48 < 2 ^ 30) (z1 : Z9 (h.1 1)) (z2 : ZW (h.2.1 5)) (K : Nat) : WM (d + 9) mX11_safe [.ref 0] h (fun v h' => (∃ a, v = some (.int a) ∧ (∀ b, svF (h.1 1) (h.2.1 5) 51 = some b → a = nI b)) ∧ OqP h h' (sfC (h.1 1) (h.2.1 5)) (h.1 0 12) (h.1 0 13) (h.1 1) (h.2.1 5) false K) := by
  have Bg := f_begin2 (d + 7) h
  have I := BgI.bg (h := h)
  have C := f_countState (d + 7) 1 (bgH h) (by rw [I.1.1]; exact hS.1)
  rw [I.1.1] at C
  have L := f_safe_loop d h hS hB z1 z2 K 51 (bgH h) (Nat.le_refl _) I
  obtain ⟨⟨c1, c2, c3⟩, -, -⟩ := hS.2.2
  have h24 : CK (h.1 1) % 24 < 24 := Nat.mod_lt _ (by decide)
  have ee := nh_e (CK (h.1 1) % 24) h24
  show WX _ _ 0 [(0, _)] [] _ _
  refine ex_s rfl ?_
  refine ex_c rfl rfl ⟨Nat.le_of_ble_eq_true rfl, Nat.le_of_ble_eq_true rfl⟩ (Bg) ?_
  iterate 2 refine ex_s rfl ?_
  refine ex_c rfl rfl ⟨Nat.le_of_ble_eq_true rfl, Nat.le_of_ble_eq_true rfl⟩ (C) ?_
  iterate 5 refine ex_s rfl ?_
  refine ex_il rfl rfl (vi (k := 0)) ?_
  rw [k0, I.1.1, c1]
  iterate 2 refine ex_s rfl ?_
  rw [show (24 : Int32) = nI 24 from rfl, pk_rem (by omega) (by decide) (by decide)]
  iterate 3 refine ex_s rfl ?_
  rw [show (12 : Int32) - nI (CK (h.1 1) % 24) + 24 = nI (36 - CK (h.1 1) % 24) from ee]
  iterate 2 refine ex_s rfl ?_
  rw [show (24 : Int32) = nI 24 from rfl, pk_rem (by omega) (by decide) (by decide)]
  iterate 7 refine ex_s rfl ?_
  rw [nI_1]
  exact ex_sub (sub5 rfl rfl rfl rfl rfl) L
end
