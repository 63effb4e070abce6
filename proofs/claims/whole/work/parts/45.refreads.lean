-- needs: 44
noncomputable section
theorem fcmp_self {x : UInt32} (h : x.toNat ≤ 2139095040) : FP.fcmp x x = some .eq := by rw [fcmp_b h h, Nat.compare_eq_eq.mpr rfl]
theorem f_isNaN (d : Nat) {x : UInt32} (hx : x.toNat ≤ 2139095040) (h : AH) : EvM d mJxf58ca_isNaN_12338 [.float x] h (some (.int 0)) h := by
  have e : Op.cmpValue (FP.fcmp x x) .l = 0 := by rw [fcmp_self hx]; rfl
  show EvR _ _ 0 [(0, _)] [] _ _ _
  iterate 3 refine er_s rfl ?_
  refine er_b rfl rfl (fun _ => ?_) (fun q => absurd e q)
  refine er_s rfl ?_
  refine er_q rfl ?_ ?_
  · rfl
  · rfl
theorem f_bits (d : Nat) {x : UInt32} (hx : x.toNat ≤ 2139095040) (h : AH) : EvM (d + 1) mJxf58ca_floatToIntBits_5c35a [.float x] h (some (.int x.toInt32)) h := by
  have N := f_isNaN d hx h
  show EvR _ _ 0 [(0, _)] [] _ _ _
  refine er_s rfl ?_
  refine er_c rfl rfl ⟨Nat.le_of_ble_eq_true rfl, Nat.le_of_ble_eq_true rfl⟩ (N) ?_
  refine er_b rfl rfl (fun q => absurd q (fun q => q rfl)) (fun _ => ?_)
  iterate 2 refine er_s rfl ?_
  refine er_q rfl ?_ ?_
  · rfl
  · rfl
/-- a call that changes nothing but what was thrown and the loads -/
theorem OpP_rd {h : AH} {code : Int32} {K : Nat} {ld : Nat → UInt32} : OpP h (hFr (hI h 0 0 code) 27 ld) code (h.1 0 12) (h.1 0 13) (h.1 1) (h.2.1 5) false K := by
  obtain ⟨a1, a2, a3, a4, a5, a6, a7⟩ := OpP_x (h := h) (code := code) (K := K)
  refine ⟨a1, a2, a3, a4, ?_, a6.to ⟨rfl, fun i hi => ⟨rfl, hFr_ne _ _ (by omega)⟩⟩, a7.tr ⟨fun _ _ _ => rfl, fun _ _ _ _ _ => rfl, fun a _ x _ => hFr_ne _ _ x, rfl⟩⟩
  rw [← a5]; exact hFr_ne _ _ (by decide)
def passC (n : Int32) : Int32 := if ¬ (1 ≤ n ∧ n ≤ 48) then 1 else 0
def passR (r : Nat → Int32) (w : Nat → UInt32) (n : Int32) : Nat → Int32 := if passC n = 0 then hoursR n.toNatClampNeg r w else r
def passW (r : Nat → Int32) (w : Nat → UInt32) (n : Int32) : Nat → UInt32 := if passC n = 0 then hoursW n.toNatClampNeg r w else w
abbrev goneN (r : Nat → Int32) : Nat := cntS r 2 (CN r)
theorem passT {d N : Nat} {g g' : AH} {a b : Nat} (Y1 : EvM (d + 8) mX11_countState [.ref 0, .int 2] g (some (.int (nI a))) g) (G : EvM (d + 8) mX11_goHours [.ref 0, .int (nI N)] g none g') (Y2 : EvM (d + 8) mX11_countState [.ref 0, .int 2] g' (some (.int (nI b))) g') : EvR (d + 9) mX11_pass 29 [(0, .ref 0), (1, .int (nI N))] [] g (some (.int (nI b - nI a))) g' := by
  iterate 2 refine er_s rfl ?_
  refine er_c rfl rfl ⟨Nat.le_of_ble_eq_true rfl, Nat.le_of_ble_eq_true rfl⟩ (Y1) ?_
  iterate 3 refine er_s rfl ?_
  refine er_c rfl rfl ⟨Nat.le_of_ble_eq_true rfl, Nat.le_of_ble_eq_true rfl⟩ (G) ?_
  iterate 2 refine er_s rfl ?_
  refine er_c rfl rfl ⟨Nat.le_of_ble_eq_true rfl, Nat.le_of_ble_eq_true rfl⟩ (Y2) ?_
  iterate 2 refine er_s rfl ?_
  refine er_q rfl ?_ ?_
  · rfl
  · rfl
theorem f_pass (d : Nat) (n : Int32) (h : AH) {B : Nat} (hS : HS B (h.1 1) (h.2.1 5)) (hB : B + 48 < 2 ^ 30) {K : Nat} (hK : K ≤ 8) (h11 : h.1 0 11 = nI K) : WM (d + 9) mX11_pass [.ref 0, .int n] h (fun v h' => (∃ a, v = some (.int a) ∧ (passC n = 0 → a = nI (goneN (passR (h.1 1) (h.2.1 5) n)) - nI (goneN (h.1 1)))) ∧ OpP h h' (passC n) (h.1 0 12) (h.1 0 13) (passR (h.1 1) (h.2.1 5) n) (passW (h.1 1) (h.2.1 5) n) (decide (passC n = 0) && !inT h) K) := by
  have T1 := f_isBetween (d + 8) n 1 48 h
  by_cases c1 : 1 ≤ n ∧ n ≤ 48
  · have e : passC n = 0 := by unfold passC; rw [if_neg (fun q => q c1)]
    obtain ⟨N, hN, rfl⟩ := nI_of2 (M := 48) (n := 48) rfl (Int32.not_lt.mpr (Int32.le_trans (by decide) c1.1)) c1.2
    have C := f_changeZ (d + 6) h hK h11
    unfold passR passW
    rw [e, decide_eq_true rfl, if_pos rfl, if_pos rfl, Bool.true_and, nI_clamp (by omega)]
    show WX _ _ 0 [(0, _), (1, _)] [] _ _
    iterate 5 refine ex_s rfl ?_
    refine ex_c rfl rfl ⟨Nat.le_of_ble_eq_true rfl, Nat.le_of_ble_eq_true rfl⟩ (T1) ?_
    refine ex_b rfl rfl (fun _ => ?_) (fun q => absurd (bI_ne.mpr c1) q)
    refine ex_s rfl ?_
    refine ex_c rfl rfl ⟨Nat.le_of_ble_eq_true rfl, Nat.le_of_ble_eq_true rfl⟩ (f_failsF _ _ _) ?_
    refine ex_b rfl rfl (fun _ => ?_) (fun q => absurd rfl q)
    refine ex_s rfl ?_
    refine ex_xc rfl rfl ⟨Nat.le_of_ble_eq_true rfl, Nat.le_of_ble_eq_true rfl⟩ (C) (fun rv9 h9 p9 => ?_)
    obtain ⟨rfl, p9⟩ := p9
    have hS1 := hS
    rw [← p9.2.2.2.1, ← p9.2.2.2.2.1] at hS1
    have Y1 := f_countState (d + 7) 2 h9 hS1.1
    have hS2 := hours_HS N hS1 (by omega)
    obtain ⟨ld, sh, G⟩ := f_goHours d N h9 (h9.1 1) (h9.2.1 5) (h9.2.1 27) (h9.1 28) hS1 (by omega)
    rw [hX_self] at G
    have Y2 := f_countState (d + 7) 2 (hX h9 (hoursR N (h9.1 1) (h9.2.1 5)) (hoursW N (h9.1 1) (h9.2.1 5)) ld sh) (by rw [hX_1]; exact hS2.1)
    rw [hX_1] at Y2
    have Z : EvR (d + 9) mX11_pass 29 [(0, .ref 0), (1, .int (nI N))] [] h9 (some (.int (nI (goneN (hoursR N (h9.1 1) (h9.2.1 5))) - nI (goneN (h9.1 1))))) (hX h9 (hoursR N (h9.1 1) (h9.2.1 5)) (hoursW N (h9.1 1) (h9.2.1 5)) ld sh) := by
      exact passT Y1 G Y2
    rw [p9.2.2.2.1, p9.2.2.2.2.1] at Z
    exact ex_sub (sub2 rfl rfl) (ex_of Z ⟨⟨_, rfl, fun _ => rfl⟩, OpP_hX p9⟩)
  · have e : passC n = 1 := by unfold passC; rw [if_pos c1]
    unfold passR passW
    rw [e, if_neg (by decide), if_neg (by decide), decide_eq_false (by decide), Bool.false_and]
    show WX _ _ 0 [(0, _), (1, _)] [] _ _
    iterate 5 refine ex_s rfl ?_
    refine ex_c rfl rfl ⟨Nat.le_of_ble_eq_true rfl, Nat.le_of_ble_eq_true rfl⟩ (T1) ?_
    refine ex_b rfl rfl (fun q => absurd q (fun q => q (bI_eq.mpr c1))) (fun _ => ?_)
    refine ex_s rfl ?_
    refine ex_g rfl rfl ?_
    refine ex_c rfl rfl ⟨Nat.le_of_ble_eq_true rfl, Nat.le_of_ble_eq_true rfl⟩ (f_failsT _ _ _) ?_
    refine ex_b rfl rfl (fun q => absurd q (by decide)) (fun _ => ?_)
    refine ex_s rfl ?_
    refine ex_q rfl ?_
    exact ⟨⟨_, rfl, fun q => absurd q (by decide)⟩, OpP_x⟩
def loadC (r : Nat → Int32) (x : Int32) : Int32 := if ¬ (0 ≤ x ∧ x ≤ r 4 - 1) then 1 else if ofB r x.toNatClampNeg 2 = 1 then 0 else 2
def loadV (r : Nat → Int32) (w : Nat → UInt32) (x ag : Int32) : UInt32 := if ag = 0 then LDw r w x.toNatClampNeg else bornR r w x.toNatClampNeg
theorem hI_22 {h : AH} {x y : Int32} : hI (hI h 0 0 x) 0 0 y = hI h 0 0 y := hI_2
theorem f_load (d : Nat) (x ag : Int32) (h : AH) (hw : Wel (h.1 1)) (hm : MasW (h.1 1) (h.2.1 5)) (K : Nat) : WM (d + 6) mX11_load [.ref 0, .int x, .int ag] h (fun v h' => (∃ a, v = some (.int a) ∧ (loadC (h.1 1) x = 0 → a = (loadV (h.1 1) (h.2.1 5) x ag).toInt32)) ∧ OpP h h' (loadC (h.1 1) x) (h.1 0 12) (h.1 0 13) (h.1 1) (h.2.1 5) false K) := by
  have B1 := f_isBlock (d + 4) x h
  have e1 : (hI h 0 0 0).1 1 = h.1 1 := hI_ne (by decide)
  have h40 := hw.2.1
  by_cases c1 : 0 ≤ x ∧ x ≤ h.1 1 4 - 1
  · obtain ⟨b, hb, rfl⟩ := (blk_or hw x).resolve_right (fun q => q c1)
    have W := f_isOnWall (d + 4) (b := b) (by omega) (hI h 0 0 0)
    rw [e1] at W
    have eb : (nI b).toNatClampNeg = b := nI_clamp (by omega)
    by_cases c2 : ofB (h.1 1) b 2 = 1
    · have e : loadC (h.1 1) (nI b) = 0 := by unfold loadC; rw [if_neg (fun q => q c1), eb, if_pos c2]
      unfold loadV
      rw [e, eb]
      have F := f_findLoads (d + 0) (hI h 0 0 0) (by rw [e1]; exact hw) (by rw [e1]; exact hm)
      rw [e1, show (hI h 0 0 0).2.1 5 = h.2.1 5 from rfl, show (hI h 0 0 0).2.1 27 = h.2.1 27 from rfl] at F
      have ho := (hw.2.2 b hb).2 c2
      by_cases c3 : ag = 0
      · rw [if_pos c3]
        have L := f_bits (d + 4) (x := LDw (h.1 1) (h.2.1 5) b) (Nat.le_of_lt (LDw_ok hw hm hb).1) (hFr (hI h 0 0 0) 27 (loadsR (h.1 1) (h.2.1 5) (h.2.1 27)))
        show WX _ _ 0 [(0, _), (1, _), (2, _)] [] _ _
        iterate 4 refine ex_s rfl ?_
        refine ex_c rfl rfl ⟨Nat.le_of_ble_eq_true rfl, Nat.le_of_ble_eq_true rfl⟩ (B1) ?_
        refine ex_b rfl rfl (fun _ => ?_) (fun q => absurd (bI_ne.mpr c1) q)
        refine ex_s rfl ?_
        refine ex_c rfl rfl ⟨Nat.le_of_ble_eq_true rfl, Nat.le_of_ble_eq_true rfl⟩ (f_failsF _ _ _) ?_
        refine ex_b rfl rfl (fun q => absurd q (fun q => q rfl)) (fun _ => ?_)
        iterate 4 refine ex_s rfl ?_
        refine ex_c rfl rfl ⟨Nat.le_of_ble_eq_true rfl, Nat.le_of_ble_eq_true rfl⟩ (W) ?_
        refine ex_b rfl rfl (fun _ => ?_) (fun q => absurd (bI_ne.mpr c2) q)
        refine ex_s rfl ?_
        refine ex_c rfl rfl ⟨Nat.le_of_ble_eq_true rfl, Nat.le_of_ble_eq_true rfl⟩ (f_failsF _ _ _) ?_
        refine ex_b rfl rfl (fun _ => ?_) (fun q => absurd rfl q)
        refine ex_s rfl ?_
        rw [hI_2]
        refine ex_c rfl rfl ⟨Nat.le_of_ble_eq_true rfl, Nat.le_of_ble_eq_true rfl⟩ (F) ?_
        refine ex_s rfl ?_
        refine ex_b rfl rfl (fun _ => ?_) (fun q => absurd c3 q)
        iterate 3 refine ex_s rfl ?_
        refine ex_fl rfl rfl (vi) ?_
        rw [cl _, hFr_27, loadsR_at hw hm hb c2]
        refine ex_c rfl rfl ⟨Nat.le_of_ble_eq_true rfl, Nat.le_of_ble_eq_true rfl⟩ (L) ?_
        refine ex_q rfl ?_
        exact ⟨⟨_, rfl, fun _ => rfl⟩, OpP_rd⟩
      · rw [if_neg c3]
        have Bn := f_borne (d + 4) (b := b) (by omega) (hFr (hI h 0 0 0) 27 (loadsR (h.1 1) (h.2.1 5) (h.2.1 27))) (by rw [hFr_1, e1]; exact ho) (by rw [hFr_ne _ _ (by decide)]; exact hm b hb c2)
        rw [hFr_1, e1, hFr_ne _ _ (by decide), show (hI h 0 0 0).2.1 5 = h.2.1 5 from rfl] at Bn
        have L := f_bits (d + 4) (x := bornR (h.1 1) (h.2.1 5) b) (Nat.le_of_lt (born_ok (hm b hb c2) (show JT (h.1 1) b < 10 by have := ho.2.2.2.2.2; omega)).2.1) (hFr (hI h 0 0 0) 27 (loadsR (h.1 1) (h.2.1 5) (h.2.1 27)))
        show WX _ _ 0 [(0, _), (1, _), (2, _)] [] _ _
        iterate 4 refine ex_s rfl ?_
        refine ex_c rfl rfl ⟨Nat.le_of_ble_eq_true rfl, Nat.le_of_ble_eq_true rfl⟩ (B1) ?_
        refine ex_b rfl rfl (fun _ => ?_) (fun q => absurd (bI_ne.mpr c1) q)
        refine ex_s rfl ?_
        refine ex_c rfl rfl ⟨Nat.le_of_ble_eq_true rfl, Nat.le_of_ble_eq_true rfl⟩ (f_failsF _ _ _) ?_
        refine ex_b rfl rfl (fun q => absurd q (fun q => q rfl)) (fun _ => ?_)
        iterate 4 refine ex_s rfl ?_
        refine ex_c rfl rfl ⟨Nat.le_of_ble_eq_true rfl, Nat.le_of_ble_eq_true rfl⟩ (W) ?_
        refine ex_b rfl rfl (fun _ => ?_) (fun q => absurd (bI_ne.mpr c2) q)
        refine ex_s rfl ?_
        refine ex_c rfl rfl ⟨Nat.le_of_ble_eq_true rfl, Nat.le_of_ble_eq_true rfl⟩ (f_failsF _ _ _) ?_
        refine ex_b rfl rfl (fun _ => ?_) (fun q => absurd rfl q)
        refine ex_s rfl ?_
        rw [hI_2]
        refine ex_c rfl rfl ⟨Nat.le_of_ble_eq_true rfl, Nat.le_of_ble_eq_true rfl⟩ (F) ?_
        refine ex_s rfl ?_
        refine ex_b rfl rfl (fun q => absurd q c3) (fun _ => ?_)
        iterate 2 refine ex_s rfl ?_
        refine ex_c rfl rfl ⟨Nat.le_of_ble_eq_true rfl, Nat.le_of_ble_eq_true rfl⟩ (Bn) ?_
        refine ex_g rfl rfl ?_
        refine ex_c rfl rfl ⟨Nat.le_of_ble_eq_true rfl, Nat.le_of_ble_eq_true rfl⟩ (L) ?_
        refine ex_q rfl ?_
        exact ⟨⟨_, rfl, fun _ => rfl⟩, OpP_rd⟩
    · have e : loadC (h.1 1) (nI b) = 2 := by unfold loadC; rw [if_neg (fun q => q c1), eb, if_neg c2]
      rw [e]
      show WX _ _ 0 [(0, _), (1, _), (2, _)] [] _ _
      iterate 4 refine ex_s rfl ?_
      refine ex_c rfl rfl ⟨Nat.le_of_ble_eq_true rfl, Nat.le_of_ble_eq_true rfl⟩ (B1) ?_
      refine ex_b rfl rfl (fun _ => ?_) (fun q => absurd (bI_ne.mpr c1) q)
      refine ex_s rfl ?_
      refine ex_c rfl rfl ⟨Nat.le_of_ble_eq_true rfl, Nat.le_of_ble_eq_true rfl⟩ (f_failsF _ _ _) ?_
      refine ex_b rfl rfl (fun q => absurd q (fun q => q rfl)) (fun _ => ?_)
      iterate 4 refine ex_s rfl ?_
      refine ex_c rfl rfl ⟨Nat.le_of_ble_eq_true rfl, Nat.le_of_ble_eq_true rfl⟩ (W) ?_
      refine ex_b rfl rfl (fun q => absurd q (fun q => q (bI_eq.mpr c2))) (fun _ => ?_)
      refine ex_s rfl ?_
      refine ex_g rfl rfl ?_
      refine ex_c rfl rfl ⟨Nat.le_of_ble_eq_true rfl, Nat.le_of_ble_eq_true rfl⟩ (f_failsT _ _ _) ?_
      refine ex_b rfl rfl (fun q => absurd q (by decide)) (fun _ => ?_)
      rw [hI_2]
      refine ex_s rfl ?_
      refine ex_q rfl ?_
      exact ⟨⟨_, rfl, fun q => absurd q (by decide)⟩, OpP_x⟩
  · have e : loadC (h.1 1) x = 1 := by unfold loadC; rw [if_pos c1]
    rw [e]
    show WX _ _ 0 [(0, _), (1, _), (2, _)] [] _ _
    iterate 4 refine ex_s rfl ?_
    refine ex_c rfl rfl ⟨Nat.le_of_ble_eq_true rfl, Nat.le_of_ble_eq_true rfl⟩ (B1) ?_
    refine ex_b rfl rfl (fun q => absurd q (fun q => q (bI_eq.mpr c1))) (fun _ => ?_)
    refine ex_s rfl ?_
    refine ex_g rfl rfl ?_
    refine ex_c rfl rfl ⟨Nat.le_of_ble_eq_true rfl, Nat.le_of_ble_eq_true rfl⟩ (f_failsT _ _ _) ?_
    refine ex_b rfl rfl (fun _ => ?_) (fun q => absurd (by decide) q)
    refine ex_s rfl ?_
    refine ex_q rfl ?_
    exact ⟨⟨_, rfl, fun q => absurd q (by decide)⟩, OpP_x⟩
theorem f_loadAgain (d : Nat) (x : Int32) (h : AH) (hw : Wel (h.1 1)) (hm : MasW (h.1 1) (h.2.1 5)) (K : Nat) : WM (d + 12) mX11_loadAgain [.ref 0, .int x] h (fun v h' => (∃ a, v = some (.int a) ∧ (loadC (h.1 1) x = 0 → a = (loadV (h.1 1) (h.2.1 5) x 0).toInt32)) ∧ OpP h h' (loadC (h.1 1) x) (h.1 0 12) (h.1 0 13) (h.1 1) (h.2.1 5) false K) := by
  have B1 := f_isBlock (d + 10) x h
  have e1 : (hI h 0 0 0).1 1 = h.1 1 := hI_ne (by decide)
  have h40 := hw.2.1
  by_cases c1 : 0 ≤ x ∧ x ≤ h.1 1 4 - 1
  · obtain ⟨b, hb, rfl⟩ := (blk_or hw x).resolve_right (fun q => q c1)
    have W := f_isOnWall (d + 10) (b := b) (by omega) (hI h 0 0 0)
    rw [e1] at W
    have eb : (nI b).toNatClampNeg = b := nI_clamp (by omega)
    by_cases c2 : ofB (h.1 1) b 2 = 1
    · have e : loadC (h.1 1) (nI b) = 0 := by unfold loadC; rw [if_neg (fun q => q c1), eb, if_pos c2]
      unfold loadV
      rw [e, eb, if_pos rfl]
      have ho := (hw.2.2 b hb).2 c2
      have F := f_loadOf (hI h 0 0 0) (by rw [e1]; exact hw) (by rw [e1]; exact hm) (7 - CU (h.1 1) b) (d + CU (h.1 1) b) b (by rw [e1]; exact hb) (by rw [e1]; exact c2) (by rw [e1])
      rw [e1, show d + CU (h.1 1) b + (7 - CU (h.1 1) b) + 4 = d + 11 from by have := ho.2.2.2.1; omega, show (hI h 0 0 0).2.1 5 = h.2.1 5 from rfl] at F
      have L := f_bits (d + 10) (x := LDw (h.1 1) (h.2.1 5) b) (Nat.le_of_lt (LDw_ok hw hm hb).1) (hI h 0 0 0)
      show WX _ _ 0 [(0, _), (1, _)] [] _ _
      iterate 4 refine ex_s rfl ?_
      refine ex_c rfl rfl ⟨Nat.le_of_ble_eq_true rfl, Nat.le_of_ble_eq_true rfl⟩ (B1) ?_
      refine ex_b rfl rfl (fun _ => ?_) (fun q => absurd (bI_ne.mpr c1) q)
      refine ex_s rfl ?_
      refine ex_c rfl rfl ⟨Nat.le_of_ble_eq_true rfl, Nat.le_of_ble_eq_true rfl⟩ (f_failsF _ _ _) ?_
      refine ex_b rfl rfl (fun q => absurd q (fun q => q rfl)) (fun _ => ?_)
      iterate 4 refine ex_s rfl ?_
      refine ex_c rfl rfl ⟨Nat.le_of_ble_eq_true rfl, Nat.le_of_ble_eq_true rfl⟩ (W) ?_
      refine ex_b rfl rfl (fun _ => ?_) (fun q => absurd (bI_ne.mpr c2) q)
      refine ex_s rfl ?_
      refine ex_c rfl rfl ⟨Nat.le_of_ble_eq_true rfl, Nat.le_of_ble_eq_true rfl⟩ (f_failsF _ _ _) ?_
      refine ex_b rfl rfl (fun _ => ?_) (fun q => absurd rfl q)
      iterate 2 refine ex_s rfl ?_
      rw [hI_2]
      refine ex_c rfl rfl ⟨Nat.le_of_ble_eq_true rfl, Nat.le_of_ble_eq_true rfl⟩ (F) ?_
      refine ex_c rfl rfl ⟨Nat.le_of_ble_eq_true rfl, Nat.le_of_ble_eq_true rfl⟩ (L) ?_
      refine ex_q rfl ?_
      exact ⟨⟨_, rfl, fun _ => rfl⟩, OpP_x⟩
    · have e : loadC (h.1 1) (nI b) = 2 := by unfold loadC; rw [if_neg (fun q => q c1), eb, if_neg c2]
      rw [e]
      show WX _ _ 0 [(0, _), (1, _)] [] _ _
      iterate 4 refine ex_s rfl ?_
      refine ex_c rfl rfl ⟨Nat.le_of_ble_eq_true rfl, Nat.le_of_ble_eq_true rfl⟩ (B1) ?_
      refine ex_b rfl rfl (fun _ => ?_) (fun q => absurd (bI_ne.mpr c1) q)
      refine ex_s rfl ?_
      refine ex_c rfl rfl ⟨Nat.le_of_ble_eq_true rfl, Nat.le_of_ble_eq_true rfl⟩ (f_failsF _ _ _) ?_
      refine ex_b rfl rfl (fun q => absurd q (fun q => q rfl)) (fun _ => ?_)
      iterate 4 refine ex_s rfl ?_
      refine ex_c rfl rfl ⟨Nat.le_of_ble_eq_true rfl, Nat.le_of_ble_eq_true rfl⟩ (W) ?_
      refine ex_b rfl rfl (fun q => absurd q (fun q => q (bI_eq.mpr c2))) (fun _ => ?_)
      refine ex_s rfl ?_
      refine ex_g rfl rfl ?_
      refine ex_c rfl rfl ⟨Nat.le_of_ble_eq_true rfl, Nat.le_of_ble_eq_true rfl⟩ (f_failsT _ _ _) ?_
      refine ex_b rfl rfl (fun q => absurd q (by decide)) (fun _ => ?_)
      rw [hI_2]
      refine ex_s rfl ?_
      refine ex_q rfl ?_
      exact ⟨⟨_, rfl, fun q => absurd q (by decide)⟩, OpP_x⟩
  · have e : loadC (h.1 1) x = 1 := by unfold loadC; rw [if_pos c1]
    rw [e]
    show WX _ _ 0 [(0, _), (1, _)] [] _ _
    iterate 4 refine ex_s rfl ?_
    refine ex_c rfl rfl ⟨Nat.le_of_ble_eq_true rfl, Nat.le_of_ble_eq_true rfl⟩ (B1) ?_
    refine ex_b rfl rfl (fun q => absurd q (fun q => q (bI_eq.mpr c1))) (fun _ => ?_)
    refine ex_s rfl ?_
    refine ex_g rfl rfl ?_
    refine ex_c rfl rfl ⟨Nat.le_of_ble_eq_true rfl, Nat.le_of_ble_eq_true rfl⟩ (f_failsT _ _ _) ?_
    refine ex_b rfl rfl (fun _ => ?_) (fun q => absurd (by decide) q)
    refine ex_s rfl ?_
    refine ex_q rfl ?_
    exact ⟨⟨_, rfl, fun q => absurd q (by decide)⟩, OpP_x⟩
def blockC (r : Nat → Int32) (x f : Int32) : Int32 := if ¬ (0 ≤ x ∧ x ≤ r 4 - 1) then 1 else if 0 ≤ f ∧ f ≤ 7 then 0 else 2
theorem f_blockOf (d : Nat) (x f : Int32) (h : AH) (hw : Wel (h.1 1)) (K : Nat) : WM (d + 2) mX11_blockOf [.ref 0, .int x, .int f] h (fun v h' => (∃ a, v = some (.int a) ∧ (blockC (h.1 1) x f = 0 → a = ofB (h.1 1) x.toNatClampNeg f.toNatClampNeg)) ∧ OpP h h' (blockC (h.1 1) x f) (h.1 0 12) (h.1 0 13) (h.1 1) (h.2.1 5) false K) := by
  have B1 := f_isBlock (d + 0) x h
  have T1 := f_isBetween (d + 1) f 0 7 (hI h 0 0 0)
  have e1 : (hI h 0 0 0).1 1 = h.1 1 := hI_ne (by decide)
  have h40 := hw.2.1
  by_cases c1 : 0 ≤ x ∧ x ≤ h.1 1 4 - 1
  · obtain ⟨b, hb, rfl⟩ := (blk_or hw x).resolve_right (fun q => q c1)
    have eb : (nI b).toNatClampNeg = b := nI_clamp (by omega)
    by_cases c2 : 0 ≤ f ∧ f ≤ 7
    · have e : blockC (h.1 1) (nI b) f = 0 := by unfold blockC; rw [if_neg (fun q => q c1), if_pos c2]
      obtain ⟨n, hn, rfl⟩ := nI_of2 (M := 7) (n := 7) rfl (Int32.not_lt.mpr c2.1) c2.2
      rw [e, eb, nI_clamp (by omega)]
      have O := f_of (d + 1) (b := b) (by omega) (x := n) (by omega) (hI h 0 0 0)
      rw [e1] at O
      show WX _ _ 0 [(0, _), (1, _), (2, _)] [] _ _
      iterate 4 refine ex_s rfl ?_
      refine ex_c rfl rfl ⟨Nat.le_of_ble_eq_true rfl, Nat.le_of_ble_eq_true rfl⟩ (B1) ?_
      refine ex_b rfl rfl (fun _ => ?_) (fun q => absurd (bI_ne.mpr c1) q)
      refine ex_s rfl ?_
      refine ex_c rfl rfl ⟨Nat.le_of_ble_eq_true rfl, Nat.le_of_ble_eq_true rfl⟩ (f_failsF _ _ _) ?_
      refine ex_b rfl rfl (fun q => absurd q (fun q => q rfl)) (fun _ => ?_)
      iterate 5 refine ex_s rfl ?_
      refine ex_c rfl rfl ⟨Nat.le_of_ble_eq_true rfl, Nat.le_of_ble_eq_true rfl⟩ (T1) ?_
      refine ex_b rfl rfl (fun _ => ?_) (fun q => absurd (bI_ne.mpr c2) q)
      refine ex_s rfl ?_
      refine ex_c rfl rfl ⟨Nat.le_of_ble_eq_true rfl, Nat.le_of_ble_eq_true rfl⟩ (f_failsF _ _ _) ?_
      refine ex_b rfl rfl (fun _ => ?_) (fun q => absurd rfl q)
      rw [hI_2]
      iterate 3 refine ex_s rfl ?_
      refine ex_c rfl rfl ⟨Nat.le_of_ble_eq_true rfl, Nat.le_of_ble_eq_true rfl⟩ (O) ?_
      refine ex_q rfl ?_
      exact ⟨⟨_, rfl, fun _ => rfl⟩, OpP_x⟩
    · have e : blockC (h.1 1) (nI b) f = 2 := by unfold blockC; rw [if_neg (fun q => q c1), if_neg c2]
      rw [e]
      show WX _ _ 0 [(0, _), (1, _), (2, _)] [] _ _
      iterate 4 refine ex_s rfl ?_
      refine ex_c rfl rfl ⟨Nat.le_of_ble_eq_true rfl, Nat.le_of_ble_eq_true rfl⟩ (B1) ?_
      refine ex_b rfl rfl (fun _ => ?_) (fun q => absurd (bI_ne.mpr c1) q)
      refine ex_s rfl ?_
      refine ex_c rfl rfl ⟨Nat.le_of_ble_eq_true rfl, Nat.le_of_ble_eq_true rfl⟩ (f_failsF _ _ _) ?_
      refine ex_b rfl rfl (fun q => absurd q (fun q => q rfl)) (fun _ => ?_)
      iterate 5 refine ex_s rfl ?_
      refine ex_c rfl rfl ⟨Nat.le_of_ble_eq_true rfl, Nat.le_of_ble_eq_true rfl⟩ (T1) ?_
      refine ex_b rfl rfl (fun q => absurd q (fun q => q (bI_eq.mpr c2))) (fun _ => ?_)
      refine ex_s rfl ?_
      refine ex_g rfl rfl ?_
      refine ex_c rfl rfl ⟨Nat.le_of_ble_eq_true rfl, Nat.le_of_ble_eq_true rfl⟩ (f_failsT _ _ _) ?_
      refine ex_b rfl rfl (fun q => absurd q (by decide)) (fun _ => ?_)
      rw [hI_2]
      refine ex_s rfl ?_
      refine ex_q rfl ?_
      exact ⟨⟨_, rfl, fun q => absurd q (by decide)⟩, OpP_x⟩
  · have e : blockC (h.1 1) x f = 1 := by unfold blockC; rw [if_pos c1]
    rw [e]
    show WX _ _ 0 [(0, _), (1, _), (2, _)] [] _ _
    iterate 4 refine ex_s rfl ?_
    refine ex_c rfl rfl ⟨Nat.le_of_ble_eq_true rfl, Nat.le_of_ble_eq_true rfl⟩ (B1) ?_
    refine ex_b rfl rfl (fun q => absurd q (fun q => q (bI_eq.mpr c1))) (fun _ => ?_)
    refine ex_s rfl ?_
    refine ex_g rfl rfl ?_
    refine ex_c rfl rfl ⟨Nat.le_of_ble_eq_true rfl, Nat.le_of_ble_eq_true rfl⟩ (f_failsT _ _ _) ?_
    refine ex_b rfl rfl (fun _ => ?_) (fun q => absurd (by decide) q)
    refine ex_s rfl ?_
    refine ex_q rfl ?_
    exact ⟨⟨_, rfl, fun q => absurd q (by decide)⟩, OpP_x⟩
def massC (r : Nat → Int32) (x : Int32) : Int32 := if ¬ (0 ≤ x ∧ x ≤ r 4 - 1) then 1 else if ofB r x.toNatClampNeg 2 = 2 then 2 else 0
theorem f_mass (d : Nat) (x : Int32) (h : AH) (hw : Wel (h.1 1)) (K : Nat) : WM (d + 2) mX11_mass [.ref 0, .int x] h (fun v h' => (∃ a, v = some (.float a) ∧ (massC (h.1 1) x = 0 → a = h.2.1 5 x.toNatClampNeg) ∧ (massC (h.1 1) x ≠ 0 → a = 0)) ∧ OpP h h' (massC (h.1 1) x) (h.1 0 12) (h.1 0 13) (h.1 1) (h.2.1 5) false K) := by
  have B1 := f_isBlock (d + 0) x h
  have e1 : (hI h 0 0 0).1 1 = h.1 1 := hI_ne (by decide)
  have h40 := hw.2.1
  by_cases c1 : 0 ≤ x ∧ x ≤ h.1 1 4 - 1
  · obtain ⟨b, hb, rfl⟩ := (blk_or hw x).resolve_right (fun q => q c1)
    have eb : (nI b).toNatClampNeg = b := nI_clamp (by omega)
    have O := f_of (d + 1) (b := b) (by omega) (x := 2) (by omega) (hI h 0 0 0)
    rw [e1] at O
    by_cases c2 : ofB (h.1 1) b 2 = 2
    · have e : massC (h.1 1) (nI b) = 2 := by unfold massC; rw [if_neg (fun q => q c1), eb, if_pos c2]
      rw [e]
      show WX _ _ 0 [(0, _), (1, _)] [] _ _
      iterate 4 refine ex_s rfl ?_
      refine ex_c rfl rfl ⟨Nat.le_of_ble_eq_true rfl, Nat.le_of_ble_eq_true rfl⟩ (B1) ?_
      refine ex_b rfl rfl (fun _ => ?_) (fun q => absurd (bI_ne.mpr c1) q)
      refine ex_s rfl ?_
      refine ex_c rfl rfl ⟨Nat.le_of_ble_eq_true rfl, Nat.le_of_ble_eq_true rfl⟩ (f_failsF _ _ _) ?_
      refine ex_b rfl rfl (fun q => absurd q (fun q => q rfl)) (fun _ => ?_)
      iterate 5 refine ex_s rfl ?_
      refine ex_c rfl rfl ⟨Nat.le_of_ble_eq_true rfl, Nat.le_of_ble_eq_true rfl⟩ (O) ?_
      refine ex_s rfl ?_
      refine ex_b rfl rfl (fun q => absurd q (fun q => q c2)) (fun _ => ?_)
      refine ex_s rfl ?_
      refine ex_g rfl rfl ?_
      refine ex_c rfl rfl ⟨Nat.le_of_ble_eq_true rfl, Nat.le_of_ble_eq_true rfl⟩ (f_failsT _ _ _) ?_
      refine ex_b rfl rfl (fun q => absurd q (by decide)) (fun _ => ?_)
      rw [hI_2]
      refine ex_s rfl ?_
      refine ex_q rfl ?_
      exact ⟨⟨_, rfl, fun q => absurd q (by decide), fun _ => rfl⟩, OpP_x⟩
    · have e : massC (h.1 1) (nI b) = 0 := by unfold massC; rw [if_neg (fun q => q c1), eb, if_neg c2]
      rw [e, eb]
      show WX _ _ 0 [(0, _), (1, _)] [] _ _
      iterate 4 refine ex_s rfl ?_
      refine ex_c rfl rfl ⟨Nat.le_of_ble_eq_true rfl, Nat.le_of_ble_eq_true rfl⟩ (B1) ?_
      refine ex_b rfl rfl (fun _ => ?_) (fun q => absurd (bI_ne.mpr c1) q)
      refine ex_s rfl ?_
      refine ex_c rfl rfl ⟨Nat.le_of_ble_eq_true rfl, Nat.le_of_ble_eq_true rfl⟩ (f_failsF _ _ _) ?_
      refine ex_b rfl rfl (fun q => absurd q (fun q => q rfl)) (fun _ => ?_)
      iterate 5 refine ex_s rfl ?_
      refine ex_c rfl rfl ⟨Nat.le_of_ble_eq_true rfl, Nat.le_of_ble_eq_true rfl⟩ (O) ?_
      refine ex_s rfl ?_
      refine ex_b rfl rfl (fun _ => ?_) (fun q => absurd c2 q)
      refine ex_s rfl ?_
      refine ex_c rfl rfl ⟨Nat.le_of_ble_eq_true rfl, Nat.le_of_ble_eq_true rfl⟩ (f_failsF _ _ _) ?_
      refine ex_b rfl rfl (fun _ => ?_) (fun q => absurd rfl q)
      rw [hI_2]
      iterate 3 refine ex_s rfl ?_
      refine ex_fl rfl rfl (vi) ?_
      refine ex_q rfl ?_
      exact ⟨⟨_, rfl, fun _ => by rw [cl _]; rfl, fun q => absurd rfl q⟩, OpP_x⟩
  · have e : massC (h.1 1) x = 1 := by unfold massC; rw [if_pos c1]
    rw [e]
    show WX _ _ 0 [(0, _), (1, _)] [] _ _
    iterate 4 refine ex_s rfl ?_
    refine ex_c rfl rfl ⟨Nat.le_of_ble_eq_true rfl, Nat.le_of_ble_eq_true rfl⟩ (B1) ?_
    refine ex_b rfl rfl (fun q => absurd q (fun q => q (bI_eq.mpr c1))) (fun _ => ?_)
    refine ex_s rfl ?_
    refine ex_g rfl rfl ?_
    refine ex_c rfl rfl ⟨Nat.le_of_ble_eq_true rfl, Nat.le_of_ble_eq_true rfl⟩ (f_failsT _ _ _) ?_
    refine ex_b rfl rfl (fun _ => ?_) (fun q => absurd (by decide) q)
    refine ex_s rfl ?_
    refine ex_q rfl ?_
    exact ⟨⟨_, rfl, fun q => absurd q (by decide), fun _ => rfl⟩, OpP_x⟩
def atC (y z : Int32) : Int32 := if (0 ≤ y ∧ y ≤ 11) ∧ (0 ≤ z ∧ z ≤ 7) then 0 else 1
theorem f_at (d : Nat) (y z : Int32) (h : AH) (K : Nat) : WM (d + 2) mX11_at [.ref 0, .int y, .int z] h (fun v h' => (∃ a, v = some (.int a) ∧ (atC y z = 0 → a = gAt (h.1 1) z.toNatClampNeg y.toNatClampNeg)) ∧ OpP h h' (atC y z) (h.1 0 12) (h.1 0 13) (h.1 1) (h.2.1 5) false K) := by
  have T1 := f_isBetween (d + 1) y 0 11 h
  have T2 := f_isBetween (d + 1) z 0 7 h
  have e1 : (hI h 0 0 0).1 1 = h.1 1 := hI_ne (by decide)
  by_cases c1 : 0 ≤ y ∧ y ≤ 11
  · by_cases c2 : 0 ≤ z ∧ z ≤ 7
    · have e : atC y z = 0 := by unfold atC; rw [if_pos ⟨c1, c2⟩]
      obtain ⟨j, hj, rfl⟩ := nI_of2 (M := 11) (n := 11) rfl (Int32.not_lt.mpr c1.1) c1.2
      obtain ⟨c, hc, rfl⟩ := nI_of2 (M := 7) (n := 7) rfl (Int32.not_lt.mpr c2.1) c2.2
      rw [e, nI_clamp (by omega), nI_clamp (by omega)]
      have G := f_gridAt (d + 1) (c := c) (j := j) (by omega) (by omega) (hI h 0 0 0)
      rw [e1] at G
      show WX _ _ 0 [(0, _), (1, _), (2, _)] [] _ _
      iterate 5 refine ex_s rfl ?_
      refine ex_c rfl rfl ⟨Nat.le_of_ble_eq_true rfl, Nat.le_of_ble_eq_true rfl⟩ (T1) ?_
      refine ex_b rfl rfl (fun q => absurd q (fun q => bI_eq.mp q c1)) (fun _ => ?_)
      iterate 3 refine ex_s rfl ?_
      refine ex_c rfl rfl ⟨Nat.le_of_ble_eq_true rfl, Nat.le_of_ble_eq_true rfl⟩ (T2) ?_
      refine ex_b rfl rfl (fun _ => ?_) (fun q => absurd (bI_ne.mpr c2) q)
      refine ex_s rfl ?_
      refine ex_c rfl rfl ⟨Nat.le_of_ble_eq_true rfl, Nat.le_of_ble_eq_true rfl⟩ (f_failsF _ _ _) ?_
      refine ex_b rfl rfl (fun _ => ?_) (fun q => absurd rfl q)
      iterate 3 refine ex_s rfl ?_
      refine ex_c rfl rfl ⟨Nat.le_of_ble_eq_true rfl, Nat.le_of_ble_eq_true rfl⟩ (G) ?_
      refine ex_q rfl ?_
      exact ⟨⟨_, rfl, fun _ => rfl⟩, OpP_x⟩
    · have e : atC y z = 1 := by unfold atC; rw [if_neg (fun q => c2 q.2)]
      rw [e]
      show WX _ _ 0 [(0, _), (1, _), (2, _)] [] _ _
      iterate 5 refine ex_s rfl ?_
      refine ex_c rfl rfl ⟨Nat.le_of_ble_eq_true rfl, Nat.le_of_ble_eq_true rfl⟩ (T1) ?_
      refine ex_b rfl rfl (fun q => absurd q (fun q => bI_eq.mp q c1)) (fun _ => ?_)
      iterate 3 refine ex_s rfl ?_
      refine ex_c rfl rfl ⟨Nat.le_of_ble_eq_true rfl, Nat.le_of_ble_eq_true rfl⟩ (T2) ?_
      refine ex_b rfl rfl (fun q => absurd q (fun q => q (bI_eq.mpr c2))) (fun _ => ?_)
      refine ex_s rfl ?_
      refine ex_g rfl rfl ?_
      refine ex_c rfl rfl ⟨Nat.le_of_ble_eq_true rfl, Nat.le_of_ble_eq_true rfl⟩ (f_failsT _ _ _) ?_
      refine ex_b rfl rfl (fun q => absurd q (by decide)) (fun _ => ?_)
      refine ex_s rfl ?_
      refine ex_q rfl ?_
      exact ⟨⟨_, rfl, fun q => absurd q (by decide)⟩, OpP_x⟩
  · have e : atC y z = 1 := by unfold atC; rw [if_neg (fun q => c1 q.1)]
    rw [e]
    show WX _ _ 0 [(0, _), (1, _), (2, _)] [] _ _
    iterate 5 refine ex_s rfl ?_
    refine ex_c rfl rfl ⟨Nat.le_of_ble_eq_true rfl, Nat.le_of_ble_eq_true rfl⟩ (T1) ?_
    refine ex_b rfl rfl (fun _ => ?_) (fun q => absurd (bI_eq.mpr c1) q)
    refine ex_s rfl ?_
    refine ex_g rfl rfl ?_
    refine ex_c rfl rfl ⟨Nat.le_of_ble_eq_true rfl, Nat.le_of_ble_eq_true rfl⟩ (f_failsT _ _ _) ?_
    refine ex_b rfl rfl (fun q => absurd q (by decide)) (fun _ => ?_)
    refine ex_s rfl ?_
    refine ex_q rfl ?_
    exact ⟨⟨_, rfl, fun q => absurd q (by decide)⟩, OpP_x⟩
def heightC (y : Int32) : Int32 := if 0 ≤ y ∧ y ≤ 11 then 0 else 1
theorem f_height (d : Nat) (y : Int32) (h : AH) (K : Nat) : WM (d + 3) mX11_height [.ref 0, .int y] h (fun v h' => (∃ a, v = some (.int a) ∧ (heightC y = 0 → a = nI (hgtN (h.1 1) y.toNatClampNeg 8))) ∧ OpP h h' (heightC y) (h.1 0 12) (h.1 0 13) (h.1 1) (h.2.1 5) false K) := by
  have T1 := f_isBetween (d + 2) y 0 11 h
  have e1 : (hI h 0 0 0).1 1 = h.1 1 := hI_ne (by decide)
  by_cases c1 : 0 ≤ y ∧ y ≤ 11
  · have e : heightC y = 0 := by unfold heightC; rw [if_pos c1]
    obtain ⟨j, hj, rfl⟩ := nI_of2 (M := 11) (n := 11) rfl (Int32.not_lt.mpr c1.1) c1.2
    rw [e, nI_clamp (by omega)]
    have G := f_heightOf (d + 0) (j := j) (by omega) (hI h 0 0 0)
    rw [e1] at G
    show WX _ _ 0 [(0, _), (1, _)] [] _ _
    iterate 5 refine ex_s rfl ?_
    refine ex_c rfl rfl ⟨Nat.le_of_ble_eq_true rfl, Nat.le_of_ble_eq_true rfl⟩ (T1) ?_
    refine ex_b rfl rfl (fun _ => ?_) (fun q => absurd (bI_ne.mpr c1) q)
    refine ex_s rfl ?_
    refine ex_c rfl rfl ⟨Nat.le_of_ble_eq_true rfl, Nat.le_of_ble_eq_true rfl⟩ (f_failsF _ _ _) ?_
    refine ex_b rfl rfl (fun _ => ?_) (fun q => absurd rfl q)
    iterate 2 refine ex_s rfl ?_
    refine ex_c rfl rfl ⟨Nat.le_of_ble_eq_true rfl, Nat.le_of_ble_eq_true rfl⟩ (G) ?_
    refine ex_q rfl ?_
    exact ⟨⟨_, rfl, fun _ => rfl⟩, OpP_x⟩
  · have e : heightC y = 1 := by unfold heightC; rw [if_neg c1]
    rw [e]
    show WX _ _ 0 [(0, _), (1, _)] [] _ _
    iterate 5 refine ex_s rfl ?_
    refine ex_c rfl rfl ⟨Nat.le_of_ble_eq_true rfl, Nat.le_of_ble_eq_true rfl⟩ (T1) ?_
    refine ex_b rfl rfl (fun q => absurd q (fun q => q (bI_eq.mpr c1))) (fun _ => ?_)
    refine ex_s rfl ?_
    refine ex_g rfl rfl ?_
    refine ex_c rfl rfl ⟨Nat.le_of_ble_eq_true rfl, Nat.le_of_ble_eq_true rfl⟩ (f_failsT _ _ _) ?_
    refine ex_b rfl rfl (fun q => absurd q (by decide)) (fun _ => ?_)
    refine ex_s rfl ?_
    refine ex_g rfl rfl ?_
    refine ex_q rfl ?_
    exact ⟨⟨_, rfl, fun q => absurd q (by decide)⟩, OpP_x⟩
def shadyC (r : Nat → Int32) (x hr : Int32) : Int32 := if ¬ ((0 ≤ x ∧ x ≤ r 4 - 1) ∧ 0 ≤ hr ∧ hr ≤ 23) then 1 else if ofB r x.toNatClampNeg 2 = 1 then 0 else 2
theorem f_isShady (d : Nat) (x hr : Int32) (h : AH) (hw : Wel (h.1 1)) (K : Nat) : WM (d + 4) mX11_isShady [.ref 0, .int x, .int hr] h (fun v h' => (∃ a, v = some (.int a) ∧ (shadyC (h.1 1) x hr = 0 → a = bI (shadR (h.1 1) x.toNatClampNeg hr = true)) ∧ (shadyC (h.1 1) x hr ≠ 0 → a = 0)) ∧ OpP h h' (shadyC (h.1 1) x hr) (h.1 0 12) (h.1 0 13) (h.1 1) (h.2.1 5) false K) := by
  have B1 := f_isBlock (d + 2) x h
  have H1 := f_isHour (d + 2) hr h
  have e1 : (hI h 0 0 0).1 1 = h.1 1 := hI_ne (by decide)
  have h40 := hw.2.1
  by_cases c1 : 0 ≤ x ∧ x ≤ h.1 1 4 - 1
  · obtain ⟨b, hb, rfl⟩ := (blk_or hw x).resolve_right (fun q => q c1)
    have eb : (nI b).toNatClampNeg = b := nI_clamp (by omega)
    have W := f_isOnWall (d + 2) (b := b) (by omega) (hI h 0 0 0)
    rw [e1] at W
    by_cases c2 : 0 ≤ hr ∧ hr ≤ 23
    · by_cases c3 : ofB (h.1 1) b 2 = 1
      · have e : shadyC (h.1 1) (nI b) hr = 0 := by unfold shadyC; rw [if_neg (fun q => q ⟨c1, c2⟩), eb, if_pos c3]
        rw [e, eb]
        have S := f_isInShadow (d + 0) (b := b) (by omega) hr (hI h 0 0 0) (by rw [e1]; exact (hw.2.2 b hb).1) (by rw [e1]; exact (hw.2.2 b hb).2 c3)
        rw [e1] at S
        show WX _ _ 0 [(0, _), (1, _), (2, _)] [] _ _
        iterate 4 refine ex_s rfl ?_
        refine ex_c rfl rfl ⟨Nat.le_of_ble_eq_true rfl, Nat.le_of_ble_eq_true rfl⟩ (B1) ?_
        refine ex_b rfl rfl (fun q => absurd q (fun q => bI_eq.mp q c1)) (fun _ => ?_)
        refine ex_s rfl ?_
        refine ex_c rfl rfl ⟨Nat.le_of_ble_eq_true rfl, Nat.le_of_ble_eq_true rfl⟩ (H1) ?_
        refine ex_b rfl rfl (fun _ => ?_) (fun q => absurd (bI_ne.mpr c2) q)
        refine ex_s rfl ?_
        refine ex_c rfl rfl ⟨Nat.le_of_ble_eq_true rfl, Nat.le_of_ble_eq_true rfl⟩ (f_failsF _ _ _) ?_
        refine ex_b rfl rfl (fun q => absurd q (fun q => q rfl)) (fun _ => ?_)
        iterate 4 refine ex_s rfl ?_
        refine ex_c rfl rfl ⟨Nat.le_of_ble_eq_true rfl, Nat.le_of_ble_eq_true rfl⟩ (W) ?_
        refine ex_b rfl rfl (fun _ => ?_) (fun q => absurd (bI_ne.mpr c3) q)
        refine ex_s rfl ?_
        refine ex_c rfl rfl ⟨Nat.le_of_ble_eq_true rfl, Nat.le_of_ble_eq_true rfl⟩ (f_failsF _ _ _) ?_
        refine ex_b rfl rfl (fun _ => ?_) (fun q => absurd rfl q)
        rw [hI_2]
        iterate 3 refine ex_s rfl ?_
        refine ex_c rfl rfl ⟨Nat.le_of_ble_eq_true rfl, Nat.le_of_ble_eq_true rfl⟩ (S) ?_
        refine ex_q (ret_bK rfl kOk_bI) ?_
        exact ⟨⟨_, rfl, fun _ => rfl, fun q => absurd rfl q⟩, OpP_x⟩
      · have e : shadyC (h.1 1) (nI b) hr = 2 := by unfold shadyC; rw [if_neg (fun q => q ⟨c1, c2⟩), eb, if_neg c3]
        rw [e]
        show WX _ _ 0 [(0, _), (1, _), (2, _)] [] _ _
        iterate 4 refine ex_s rfl ?_
        refine ex_c rfl rfl ⟨Nat.le_of_ble_eq_true rfl, Nat.le_of_ble_eq_true rfl⟩ (B1) ?_
        refine ex_b rfl rfl (fun q => absurd q (fun q => bI_eq.mp q c1)) (fun _ => ?_)
        refine ex_s rfl ?_
        refine ex_c rfl rfl ⟨Nat.le_of_ble_eq_true rfl, Nat.le_of_ble_eq_true rfl⟩ (H1) ?_
        refine ex_b rfl rfl (fun _ => ?_) (fun q => absurd (bI_ne.mpr c2) q)
        refine ex_s rfl ?_
        refine ex_c rfl rfl ⟨Nat.le_of_ble_eq_true rfl, Nat.le_of_ble_eq_true rfl⟩ (f_failsF _ _ _) ?_
        refine ex_b rfl rfl (fun q => absurd q (fun q => q rfl)) (fun _ => ?_)
        iterate 4 refine ex_s rfl ?_
        refine ex_c rfl rfl ⟨Nat.le_of_ble_eq_true rfl, Nat.le_of_ble_eq_true rfl⟩ (W) ?_
        refine ex_b rfl rfl (fun q => absurd q (fun q => q (bI_eq.mpr c3))) (fun _ => ?_)
        refine ex_s rfl ?_
        refine ex_g rfl rfl ?_
        refine ex_c rfl rfl ⟨Nat.le_of_ble_eq_true rfl, Nat.le_of_ble_eq_true rfl⟩ (f_failsT _ _ _) ?_
        refine ex_b rfl rfl (fun q => absurd q (by decide)) (fun _ => ?_)
        rw [hI_2]
        refine ex_s rfl ?_
        refine ex_q rfl ?_
        exact ⟨⟨_, rfl, fun q => absurd q (by decide), fun _ => rfl⟩, OpP_x⟩
    · have e : shadyC (h.1 1) (nI b) hr = 1 := by unfold shadyC; rw [if_pos (fun q => c2 q.2)]
      rw [e]
      show WX _ _ 0 [(0, _), (1, _), (2, _)] [] _ _
      iterate 4 refine ex_s rfl ?_
      refine ex_c rfl rfl ⟨Nat.le_of_ble_eq_true rfl, Nat.le_of_ble_eq_true rfl⟩ (B1) ?_
      refine ex_b rfl rfl (fun q => absurd q (fun q => bI_eq.mp q c1)) (fun _ => ?_)
      refine ex_s rfl ?_
      refine ex_c rfl rfl ⟨Nat.le_of_ble_eq_true rfl, Nat.le_of_ble_eq_true rfl⟩ (H1) ?_
      refine ex_b rfl rfl (fun q => absurd q (fun q => q (bI_eq.mpr c2))) (fun _ => ?_)
      refine ex_s rfl ?_
      refine ex_g rfl rfl ?_
      refine ex_c rfl rfl ⟨Nat.le_of_ble_eq_true rfl, Nat.le_of_ble_eq_true rfl⟩ (f_failsT _ _ _) ?_
      refine ex_b rfl rfl (fun _ => ?_) (fun q => absurd (by decide) q)
      refine ex_s rfl ?_
      refine ex_q rfl ?_
      exact ⟨⟨_, rfl, fun q => absurd q (by decide), fun _ => rfl⟩, OpP_x⟩
  · have e : shadyC (h.1 1) x hr = 1 := by unfold shadyC; rw [if_pos (fun q => c1 q.1)]
    rw [e]
    show WX _ _ 0 [(0, _), (1, _), (2, _)] [] _ _
    iterate 4 refine ex_s rfl ?_
    refine ex_c rfl rfl ⟨Nat.le_of_ble_eq_true rfl, Nat.le_of_ble_eq_true rfl⟩ (B1) ?_
    refine ex_b rfl rfl (fun _ => ?_) (fun q => absurd (bI_eq.mpr c1) q)
    refine ex_s rfl ?_
    refine ex_g rfl rfl ?_
    refine ex_c rfl rfl ⟨Nat.le_of_ble_eq_true rfl, Nat.le_of_ble_eq_true rfl⟩ (f_failsT _ _ _) ?_
    refine ex_b rfl rfl (fun _ => ?_) (fun q => absurd (by decide) q)
    refine ex_s rfl ?_
    refine ex_q rfl ?_
    exact ⟨⟨_, rfl, fun q => absurd q (by decide), fun _ => rfl⟩, OpP_x⟩
end
