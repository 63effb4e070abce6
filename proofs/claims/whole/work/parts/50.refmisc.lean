-- needs: 49
noncomputable section
def refusC (h : AH) : Int32 := if h.1 0 12 = 0 then 1 else 0
theorem f_refusal (d : Nat) (x : Int32) (h : AH) : EvM (d + 1) mX11_refusal [.ref 0, .int x] h (some (.int (if h.1 0 12 = 0 then 0 else if x = 0 then h.1 0 12 else h.1 0 13))) (hI h 0 0 (if h.1 0 12 = 0 then 1 else 0)) := by
  by_cases c1 : h.1 0 12 = 0
  · rw [if_pos c1, if_pos c1]
    show EvR _ _ 0 [(0, _), (1, _)] [] _ _ _
    iterate 4 refine er_s rfl ?_
    refine er_b rfl rfl (fun q => absurd q (fun q => q c1)) (fun _ => ?_)
    refine er_s rfl ?_
    refine er_g rfl rfl ?_
    refine er_c rfl rfl ⟨Nat.le_of_ble_eq_true rfl, Nat.le_of_ble_eq_true rfl⟩ (f_failsT _ _ _) ?_
    refine er_b rfl rfl (fun q => absurd q (by decide)) (fun _ => ?_)
    refine er_s rfl ?_
    refine er_g rfl rfl ?_
    refine er_q rfl ?_ ?_
    · rfl
    · rfl
  · rw [if_neg c1, if_neg c1]
    by_cases c2 : x = 0
    · rw [if_pos c2]
      show EvR _ _ 0 [(0, _), (1, _)] [] _ _ _
      iterate 4 refine er_s rfl ?_
      refine er_b rfl rfl (fun _ => ?_) (fun q => absurd c1 q)
      refine er_s rfl ?_
      refine er_c rfl rfl ⟨Nat.le_of_ble_eq_true rfl, Nat.le_of_ble_eq_true rfl⟩ (f_failsF _ _ _) ?_
      refine er_b rfl rfl (fun _ => ?_) (fun q => absurd rfl q)
      refine er_s rfl ?_
      refine er_b rfl rfl (fun _ => ?_) (fun q => absurd c2 q)
      iterate 2 refine er_s rfl ?_
      refine er_q rfl ?_ ?_
      · rw [hI_at, upd_ne (by decide)]
      · rfl
    · rw [if_neg c2]
      show EvR _ _ 0 [(0, _), (1, _)] [] _ _ _
      iterate 4 refine er_s rfl ?_
      refine er_b rfl rfl (fun _ => ?_) (fun q => absurd c1 q)
      refine er_s rfl ?_
      refine er_c rfl rfl ⟨Nat.le_of_ble_eq_true rfl, Nat.le_of_ble_eq_true rfl⟩ (f_failsF _ _ _) ?_
      refine er_b rfl rfl (fun _ => ?_) (fun q => absurd rfl q)
      refine er_s rfl ?_
      refine er_b rfl rfl (fun q => absurd q c2) (fun _ => ?_)
      iterate 2 refine er_s rfl ?_
      refine er_g rfl rfl ?_
      refine er_q rfl ?_ ?_
      · rw [hI_at, upd_ne (by decide)]
      · rfl
theorem f_errorPosition (d : Nat) (h : AH) : EvM (d + 1) mX11_errorPosition [.ref 0] h (some (.int (h.1 0 21))) (hI h 0 0 0) := by
  show EvR _ _ 0 [(0, _)] [] _ _ _
  iterate 5 refine er_s rfl ?_
  refine er_q rfl ?_ ?_
  · rw [hI_at, upd_ne (by decide)]
  · rfl
theorem f_append60 (d : Nat) (x : Int32) (h : AH) (hL : h.1 0 19 = 60) : EvM (d + 1) mX11_append [.ref 0, .int x] h (some (.int 0)) (hI h 0 0 1) := by
  show EvR _ _ 0 [(0, _), (1, _)] [] _ _ _
  iterate 5 refine er_s rfl ?_
  refine er_b rfl rfl (fun q => absurd q (fun q => q hL)) (fun _ => ?_)
  refine er_s rfl ?_
  refine er_g rfl rfl ?_
  refine er_c rfl rfl ⟨Nat.le_of_ble_eq_true rfl, Nat.le_of_ble_eq_true rfl⟩ (f_failsT _ _ _) ?_
  refine er_b rfl rfl (fun q => absurd q (by decide)) (fun _ => ?_)
  refine er_s rfl ?_
  refine er_q rfl ?_ ?_
  · rfl
  · rfl
theorem f_append (d : Nat) (x : Int32) (hx : kOk 2 x = true) (h : AH) {L : Nat} (hL : h.1 0 19 = nI L) (hL2 : L < 60) : EvM (d + 1) mX11_append [.ref 0, .int x] h (some (.int (nI (L + 1)))) (hI (hI (hI h 0 0 0) 29 L x) 0 19 (nI (L + 1))) := by
  have e0 : (hI h 0 0 0).1 0 19 = nI L := by rw [hI_at, upd_ne (by decide)]; exact hL
  have e1 : (hI (hI h 0 0 0) 29 L x).1 0 19 = nI L := by rw [hI_ne (by decide)]; exact e0
  have em : nI L + 1 = nI (L + 1) := nI_1 L
  have W : WM (d + 1) mX11_append [.ref 0, .int x] h (fun v h' => v = some (.int (nI (L + 1))) ∧ h' = hI (hI (hI h 0 0 0) 29 L x) 0 19 (nI (L + 1))) := by
    show WX _ _ 0 [(0, _), (1, _)] [] _ _
    iterate 5 refine ex_s rfl ?_
    refine ex_b rfl rfl (fun _ => ?_) (fun q => absurd (by rw [hL]; exact fun q => absurd ((nI_eq (b := 60) (by omega) (by omega)).mp q) (by omega)) q)
    refine ex_s rfl ?_
    refine ex_c rfl rfl ⟨Nat.le_of_ble_eq_true rfl, Nat.le_of_ble_eq_true rfl⟩ (f_failsF _ _ _) ?_
    refine ex_b rfl rfl (fun _ => ?_) (fun q => absurd rfl q)
    iterate 5 refine ex_s rfl ?_
    rw [show fv 0 ((hI h 0 0 0).1 0 19) = Value.int (nI L) from congrArg Value.int e0]
    refine ex_cs rfl rfl (vi) hx ?_
    iterate 4 refine ex_s rfl ?_
    rw [cl L, show fv 0 ((hI (hI h 0 0 0) 29 L x).1 0 19) = Value.int (nI L) from congrArg Value.int e1]
    refine ex_s rfl ?_
    rw [em]
    iterate 3 refine ex_s rfl ?_
    refine ex_q rfl ?_
    exact ⟨congrArg (fun x => some (Value.int x)) (by rw [hI_at, upd_eq]), rfl⟩
  exact W.ev
/-- the block whose load comes nearest to what it bears -/
def qtF (r : Nat → Int32) (w : Nat → UInt32) (k : Nat) : UInt32 := FP.fdiv (LDw r w k) (bornR r w k)
def oI : Option Nat → Int32
  | none => -1
  | some b => nI b
def wstS (r : Nat → Int32) (w : Nat → UInt32) (k : Nat) (s : Option Nat) : Option Nat := if ofB r k 2 = 1 then (match s with | none => some k | some b => if 0 < Op.cmpValue (FP.fcmp (qtF r w k) (qtF r w b)) .l then some k else some b) else s
def wstN (r : Nat → Int32) (w : Nat → UInt32) (n : Nat) : Option Nat := iterN (wstS r w) n none
theorem wstN_ok {r : Nat → Int32} {w : Nat → UInt32} : ∀ n b, wstN r w n = some b → b < n ∧ ofB r b 2 = 1
  | 0, b, h => nomatch h
  | n + 1, b, h => by
    have e : wstN r w (n + 1) = wstS r w n (wstN r w n) := rfl
    rw [e] at h
    unfold wstS at h
    by_cases c1 : ofB r n 2 = 1
    · rw [if_pos c1] at h
      cases hs : wstN r w n with
      | none =>
        rw [hs] at h
        cases h
        exact ⟨by omega, c1⟩
      | some k =>
        rw [hs] at h
        have := wstN_ok n k hs
        dsimp at h
        split at h
        · cases h; exact ⟨by omega, c1⟩
        · cases h; exact ⟨by omega, this.2⟩
    · rw [if_neg c1] at h
      have := wstN_ok n b h
      exact ⟨by omega, this.2⟩
theorem qt_nn {r : Nat → Int32} {w : Nat → UInt32} (hw : Wel r) (hm : MasW r w) {b : Nat} (hb : b < CN r) (hs : ofB r b 2 = 1) : nn (qtF r w b) := by
  have h1 := LDw_ok hw hm hb
  have ho := (hw.2.2 b hb).2 hs
  have h2 := born_ok (kd := KD r b) (hm b hb hs) (show JT r b < 10 by have := ho.2.2.2.2.2; omega)
  exact f_nn (fdiv_b h1.1 h2.2.1 (Nat.lt_of_lt_of_le (by decide) h2.2.2.1)).1
theorem f_worst_loop (d : Nat) (h : AH) (hw : Wel (h.1 1)) (hm : MasW (h.1 1) (h.2.1 5)) (hl : ∀ b, b < CN (h.1 1) → ofB (h.1 1) b 2 = 1 → h.2.1 27 b = LDw (h.1 1) (h.2.1 5) b) : ∀ (m k : Nat), k + m = CN (h.1 1) → EvR (d + 3) mX11_worst 31 [(0, .ref 0), (1, .int (oI (wstN (h.1 1) (h.2.1 5) k))), (2, .int (nI k))] [] h (some (.int (oI (wstN (h.1 1) (h.2.1 5) (CN (h.1 1)))))) h
  | 0, k, hk => by
    have hk : k = CN (h.1 1) := by omega
    subst hk
    have h40 := hw.2.1
    iterate 4 refine er_s rfl ?_
    refine er_il rfl rfl (vi (k := 4)) ?_
    refine er_b rfl rfl (fun _ => ?_) (fun q => absurd (by show h.1 1 4 ≤ nI (CN (h.1 1)); rw [hw.1]; exact Int32.le_refl _) q)
    refine er_s rfl ?_
    refine er_q rfl ?_ ?_
    · rfl
    · rfl
  | m + 1, k, hk => by
    have h40 := hw.2.1
    have IH := f_worst_loop d h hw hm hl m (k + 1) (by omega)
    have e : wstN (h.1 1) (h.2.1 5) (k + 1) = wstS (h.1 1) (h.2.1 5) k (wstN (h.1 1) (h.2.1 5) k) := rfl
    unfold wstS at e
    have W := f_isOnWall (d + 1) (b := k) (by omega) h
    by_cases c1 : ofB (h.1 1) k 2 = 1
    · rw [if_pos c1] at e
      have ok := (hw.2.2 k (by omega)).2 c1
      have B1 := f_borne (d + 1) (b := k) (by omega) h ok (hm k (by omega) c1)
      have el1 : h.2.1 27 k = LDw (h.1 1) (h.2.1 5) k := hl k (by omega) c1
      cases hs : wstN (h.1 1) (h.2.1 5) k with
      | none =>
        rw [hs] at e
        rw [e] at IH
        iterate 4 refine er_s rfl ?_
        refine er_il rfl rfl (vi (k := 4)) ?_
        refine er_b rfl rfl (fun q => absurd q (by show ¬ h.1 1 4 ≤ nI k; rw [hw.1]; exact nI_ge (by omega) (by omega))) (fun _ => ?_)
        iterate 2 refine er_s rfl ?_
        refine er_c rfl rfl ⟨Nat.le_of_ble_eq_true rfl, Nat.le_of_ble_eq_true rfl⟩ (W) ?_
        refine er_b rfl rfl (fun q => absurd q (bI_ne.mpr c1)) (fun _ => ?_)
        refine er_s rfl ?_
        refine er_b rfl rfl (fun _ => ?_) (fun q => absurd (by decide) q)
        refine er_s rfl ?_
        refine er_g rfl rfl ?_
        iterate 2 refine er_s rfl ?_
        refine er_g rfl rfl ?_
        rw [nI_1]
        exact er_sub (sub3 rfl rfl rfl) IH
      | some b =>
        obtain ⟨hb, hbs⟩ := wstN_ok k b hs
        have ob := (hw.2.2 b (by omega)).2 hbs
        have B2 := f_borne (d + 1) (b := b) (by omega) h ob (hm b (by omega) hbs)
        have el2 : h.2.1 27 b = LDw (h.1 1) (h.2.1 5) b := hl b (by omega) hbs
        have n1 := qt_nn hw hm (b := k) (by omega) c1
        have n2 := qt_nn hw hm (b := b) (by omega) hbs
        unfold qtF at n1 n2
        rw [hs] at e
        dsimp at e
        by_cases c2 : 0 < Op.cmpValue (FP.fcmp (qtF (h.1 1) (h.2.1 5) k) (qtF (h.1 1) (h.2.1 5) b)) .l
        · rw [if_pos c2] at e
          rw [e] at IH
          iterate 4 refine er_s rfl ?_
          refine er_il rfl rfl (vi (k := 4)) ?_
          refine er_b rfl rfl (fun q => absurd q (by show ¬ h.1 1 4 ≤ nI k; rw [hw.1]; exact nI_ge (by omega) (by omega))) (fun _ => ?_)
          iterate 2 refine er_s rfl ?_
          refine er_c rfl rfl ⟨Nat.le_of_ble_eq_true rfl, Nat.le_of_ble_eq_true rfl⟩ (W) ?_
          refine er_b rfl rfl (fun q => absurd q (bI_ne.mpr c1)) (fun _ => ?_)
          refine er_s rfl ?_
          refine er_b rfl rfl (fun q => absurd q (Int32.not_lt.mpr (nI_pos' (by omega)))) (fun _ => ?_)
          iterate 3 refine er_s rfl ?_
          refine er_fl rfl rfl (vi) ?_
          rw [cl k, el1]
          iterate 2 refine er_s rfl ?_
          refine er_c rfl rfl ⟨Nat.le_of_ble_eq_true rfl, Nat.le_of_ble_eq_true rfl⟩ (B1) ?_
          refine er_fdiv rfl n1 ?_
          iterate 3 refine er_s rfl ?_
          refine er_fl rfl rfl (vi (k := b)) ?_
          rw [show (oI (some b)).toNatClampNeg = b from cl b, el2]
          iterate 2 refine er_s rfl ?_
          refine er_c rfl rfl ⟨Nat.le_of_ble_eq_true rfl, Nat.le_of_ble_eq_true rfl⟩ (B2) ?_
          refine er_fdiv rfl n2 ?_
          refine er_s rfl ?_
          refine er_b rfl rfl (fun q => absurd q (Int32.not_le.mpr c2)) (fun _ => ?_)
          refine er_s rfl ?_
          refine er_g rfl rfl ?_
          iterate 2 refine er_s rfl ?_
          refine er_g rfl rfl ?_
          rw [nI_1]
          exact er_sub (sub3 rfl rfl rfl) IH
        · rw [if_neg c2] at e
          rw [e] at IH
          iterate 4 refine er_s rfl ?_
          refine er_il rfl rfl (vi (k := 4)) ?_
          refine er_b rfl rfl (fun q => absurd q (by show ¬ h.1 1 4 ≤ nI k; rw [hw.1]; exact nI_ge (by omega) (by omega))) (fun _ => ?_)
          iterate 2 refine er_s rfl ?_
          refine er_c rfl rfl ⟨Nat.le_of_ble_eq_true rfl, Nat.le_of_ble_eq_true rfl⟩ (W) ?_
          refine er_b rfl rfl (fun q => absurd q (bI_ne.mpr c1)) (fun _ => ?_)
          refine er_s rfl ?_
          refine er_b rfl rfl (fun q => absurd q (Int32.not_lt.mpr (nI_pos' (by omega)))) (fun _ => ?_)
          iterate 3 refine er_s rfl ?_
          refine er_fl rfl rfl (vi) ?_
          rw [cl k, el1]
          iterate 2 refine er_s rfl ?_
          refine er_c rfl rfl ⟨Nat.le_of_ble_eq_true rfl, Nat.le_of_ble_eq_true rfl⟩ (B1) ?_
          refine er_fdiv rfl n1 ?_
          iterate 3 refine er_s rfl ?_
          refine er_fl rfl rfl (vi (k := b)) ?_
          rw [show (oI (some b)).toNatClampNeg = b from cl b, el2]
          iterate 2 refine er_s rfl ?_
          refine er_c rfl rfl ⟨Nat.le_of_ble_eq_true rfl, Nat.le_of_ble_eq_true rfl⟩ (B2) ?_
          refine er_fdiv rfl n2 ?_
          refine er_s rfl ?_
          refine er_b rfl rfl (fun _ => ?_) (fun q => absurd (Int32.not_lt.mp c2) q)
          iterate 3 refine er_s rfl ?_
          refine er_g rfl rfl ?_
          rw [nI_1]
          exact er_sub (sub3 rfl rfl rfl) IH
    · rw [if_neg c1] at e
      rw [e] at IH
      iterate 4 refine er_s rfl ?_
      refine er_il rfl rfl (vi (k := 4)) ?_
      refine er_b rfl rfl (fun q => absurd q (by show ¬ h.1 1 4 ≤ nI k; rw [hw.1]; exact nI_ge (by omega) (by omega))) (fun _ => ?_)
      iterate 2 refine er_s rfl ?_
      refine er_c rfl rfl ⟨Nat.le_of_ble_eq_true rfl, Nat.le_of_ble_eq_true rfl⟩ (W) ?_
      refine er_b rfl rfl (fun _ => ?_) (fun q => absurd (bI_eq.mpr c1) q)
      refine er_s rfl ?_
      refine er_g rfl rfl ?_
      rw [nI_1]
      exact er_sub (sub3 rfl rfl rfl) IH
def worstC (r : Nat → Int32) : Int32 := if cntS r 1 (CN r) = 0 then 1 else 0
theorem f_worst (d : Nat) (h : AH) (hw : Wel (h.1 1)) (hm : MasW (h.1 1) (h.2.1 5)) (K : Nat) : WM (d + 6) mX11_worst [.ref 0] h (fun v h' => (∃ a, v = some (.int a) ∧ (worstC (h.1 1) = 0 → a = oI (wstN (h.1 1) (h.2.1 5) (CN (h.1 1))))) ∧ OpP h h' (worstC (h.1 1)) (h.1 0 12) (h.1 0 13) (h.1 1) (h.2.1 5) false K) := by
  have C := f_countState (d + 4) 1 h hw
  have c40 : cntS (h.1 1) 1 (CN (h.1 1)) ≤ 40 := Nat.le_trans (cntP_le _ _) hw.2.1
  have e1 : (hI h 0 0 0).1 1 = h.1 1 := hI_ne (by decide)
  by_cases c1 : cntS (h.1 1) 1 (CN (h.1 1)) = 0
  · have e : worstC (h.1 1) = 1 := by unfold worstC; rw [if_pos c1]
    rw [e]
    rw [c1] at C
    show WX _ _ 0 [(0, _)] [] _ _
    iterate 4 refine ex_s rfl ?_
    refine ex_c rfl rfl ⟨Nat.le_of_ble_eq_true rfl, Nat.le_of_ble_eq_true rfl⟩ (C) ?_
    refine ex_b rfl rfl (fun q => absurd q (fun q => q rfl)) (fun _ => ?_)
    refine ex_s rfl ?_
    refine ex_g rfl rfl ?_
    refine ex_c rfl rfl ⟨Nat.le_of_ble_eq_true rfl, Nat.le_of_ble_eq_true rfl⟩ (f_failsT _ _ _) ?_
    refine ex_b rfl rfl (fun q => absurd q (by decide)) (fun _ => ?_)
    refine ex_s rfl ?_
    refine ex_q rfl ?_
    exact ⟨⟨_, rfl, fun q => absurd q (by decide)⟩, OpP_x⟩
  · have e : worstC (h.1 1) = 0 := by unfold worstC; rw [if_neg c1]
    rw [e]
    have F := f_findLoads (d + 0) (hI h 0 0 0) (by rw [e1]; exact hw) (by rw [e1]; exact hm)
    rw [e1, show (hI h 0 0 0).2.1 5 = h.2.1 5 from rfl, show (hI h 0 0 0).2.1 27 = h.2.1 27 from rfl] at F
    have g1 : (hFr (hI h 0 0 0) 27 (loadsR (h.1 1) (h.2.1 5) (h.2.1 27))).1 1 = h.1 1 := e1
    have g5 : (hFr (hI h 0 0 0) 27 (loadsR (h.1 1) (h.2.1 5) (h.2.1 27))).2.1 5 = h.2.1 5 := hFr_ne _ _ (by decide)
    have L := f_worst_loop (d + 3) (hFr (hI h 0 0 0) 27 (loadsR (h.1 1) (h.2.1 5) (h.2.1 27))) (by rw [g1]; exact hw) (by rw [g1, g5]; exact hm) (by rw [g1, g5, hFr_27]; exact fun b hb hs => loadsR_at hw hm hb hs)  (CN (h.1 1)) 0 (by rw [g1]; omega)
    rw [g1, g5] at L
    show WX _ _ 0 [(0, _)] [] _ _
    iterate 4 refine ex_s rfl ?_
    refine ex_c rfl rfl ⟨Nat.le_of_ble_eq_true rfl, Nat.le_of_ble_eq_true rfl⟩ (C) ?_
    refine ex_b rfl rfl (fun _ => ?_) (fun q => absurd (fun q => c1 ((nI_z (by omega)).mp q)) q)
    refine ex_s rfl ?_
    refine ex_c rfl rfl ⟨Nat.le_of_ble_eq_true rfl, Nat.le_of_ble_eq_true rfl⟩ (f_failsF _ _ _) ?_
    refine ex_b rfl rfl (fun _ => ?_) (fun q => absurd rfl q)
    refine ex_s rfl ?_
    refine ex_c rfl rfl ⟨Nat.le_of_ble_eq_true rfl, Nat.le_of_ble_eq_true rfl⟩ (F) ?_
    iterate 4 refine ex_s rfl ?_
    exact ex_sub (sub3 rfl rfl rfl) (ex_of L ⟨⟨_, rfl, fun _ => rfl⟩, OpP_rd⟩)
end
