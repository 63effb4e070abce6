-- needs: 78
noncomputable section
/-- a number of the row's head put anew -/
theorem Pal_upd {h h' : AH} {r : Nat → Int32} {w : Nat → UInt32} (P : Pal h 32 r w) {i : Nat} {x : Int32} (hi : i < 29) (h4 : i ≠ 4) (a1 : ∀ j, j < 5 → h'.1 32 j = upd r i x j) (a2 : ∀ j, j < 24 → h'.1 33 j = upd r i x (5 + j)) (a3 : ∀ a, a ≠ 32 → a ≠ 33 → h'.1 a = h.1 a) (a4 : h'.2 = h.2) : Pal h' 32 (upd r i x) w := by
  obtain ⟨p1, p2, p3, p4, p5, p6⟩ := P
  have eb : ∀ b y, ofB (upd r i x) b y = ofB r b y := fun b y => upd_ne (by omega)
  have eC : CN (upd r i x) = CN r := upd_CN h4
  refine ⟨a1, a2, fun b hb => ?_, fun b hb hb2 => ?_, fun j hj => ?_, fun q p hq hp => ?_⟩
  · rw [eC] at hb
    obtain ⟨b1, b2, b3, b4⟩ := p3 b hb
    refine ⟨by rw [a3 _ (by decide) (by decide), eb]; exact b1, by rw [a3 _ (by decide) (by decide), eb]; exact b2, by rw [a4]; exact b3, fun o h2 h8 => by rw [a3 _ (by omega) (by omega), eb]; exact b4 o h2 h8⟩
  · rw [eC] at hb
    rw [a3 _ (by decide) (by decide), a3 _ (by decide) (by decide), a3 _ (by decide) (by decide), a3 _ (by decide) (by decide), a3 _ (by decide) (by decide), a3 _ (by decide) (by decide)]
    exact p4 b hb hb2
  · rw [a3 _ (by decide) (by decide), upd_ne (by omega)]
    exact p5 j hj
  · rw [a3 _ (by decide) (by decide), eC]
    have e : blkIn (upd r i x) (nI q) (nI p) = blkIn r (nI q) (nI p) := by
      show fstP _ (CN (upd r i x)) (CN (upd r i x)) 0 = _
      rw [eC]
      exact fstP_congr _ _ (fun j _ _ => by unfold inP; rw [eb, eb, eb])
    rw [e]
    exact p6 q p hq hp
theorem p_setT (d : Nat) {h : AH} {r : Nat → Int32} {w : Nat → UInt32} (P : Pal h 32 r w) {n : Nat} (hn : n < 24) (te : Int32) : WM (d + 2) mX9_setTemperature [.ref 71, .ref 32, .int (nI n), .int te] h (fun v h' => v = some (.int (r (5 + n))) ∧ Pal h' 32 (upd r (5 + n) te) w ∧ FrP 32 h h') := by
  have T := p_temperatureAt (d + 0) palL32 hn h
  rw [P.tm hn] at T
  have H := p_isHour (d + 1) (nI n) h
  have c : 0 ≤ nI n ∧ nI n < 24 := ⟨nI_pos' (by omega), Int32.not_le.mp (nI_ge (b := 24) (by omega) (by decide))⟩
  have PA : Pal (hI h 33 n te) 32 (upd r (5 + n) te) w := Pal_upd P (by omega) (by omega) (fun j hj => by rw [hI_ne (by decide), upd_ne (by omega)]; exact P.hd hj) (fun j hj => by
    rw [hI_at]
    by_cases e : j = n
    · subst e; rw [upd_eq, upd_eq]
    · rw [upd_ne e, upd_ne (by omega)]; exact P.tm hj) (fun a _ h2 => hI_ne h2) rfl
  show WX _ _ 0 [(0, _), (1, _), (2, _), (3, _)] [] _ _
  iterate 2 refine ex_s rfl ?_
  refine ex_c rfl rfl ⟨Nat.le_of_ble_eq_true rfl, Nat.le_of_ble_eq_true rfl⟩ (T) ?_
  iterate 2 refine ex_s rfl ?_
  refine ex_c rfl rfl ⟨Nat.le_of_ble_eq_true rfl, Nat.le_of_ble_eq_true rfl⟩ (H) ?_
  refine ex_b rfl rfl (fun q => absurd q (fun q => absurd q (bI_ne.mpr c))) (fun _ => ?_)
  iterate 4 refine ex_s rfl ?_
  refine ex_is rfl rfl (vi) ?_
  refine ex_s rfl ?_
  refine ex_q rfl ?_
  rw [cl n]
  exact ⟨rfl, PA, ⟨fun a ha => ⟨hI_ne (show a ≠ 33 by omega), rfl⟩, rfl⟩⟩
theorem p_setV (d : Nat) {h : AH} {r : Nat → Int32} {w : Nat → UInt32} (P : Pal h 32 r w) (v : Int32) : WM (d + 2) mX9_setVisitors [.ref 71, .ref 32, .int v] h (fun v9 h' => v9 = some (.int (r 3)) ∧ Pal h' 32 (upd r 3 v) w ∧ FrP 32 h h') := by
  have e3 := P.hd (i := 3) (by decide)
  have PA : Pal (hI h 32 3 v) 32 (upd r 3 v) w := Pal_upd P (by decide) (by decide) (fun j hj => by
    rw [hI_at]
    by_cases e : j = 3
    · subst e; rw [upd_eq, upd_eq]
    · rw [upd_ne e, upd_ne e]; exact P.hd hj) (fun j hj => by rw [hI_ne (by decide), upd_ne (by omega)]; exact P.tm hj) (fun a h1 _ => hI_ne h1) rfl
  show WX _ _ 0 [(0, _), (1, _), (2, _)] [] _ _
  iterate 7 refine ex_s rfl ?_
  refine ex_q rfl ?_
  exact ⟨congrArg (fun x => some (Value.int x)) e3, PA, ⟨fun a ha => ⟨hI_ne (show a ≠ 32 by omega), rfl⟩, rfl⟩⟩
/-- the class's faults by sign, and what is noted -/
def clF (o : Int32) (r : Nat → Int32) (q : Int32 × Int32 × Int32) : Int32 := if o = 115 then sawC r q.1 q.2.1 q.2.2 else if o = 108 then layK (layC r q.1 q.2.1 q.2.2) else if o = 116 then heatC q.1 q.2.1 else if o = 118 then (if visitC q.1 = 0 then 0 else 2) else if o = 120 then layK (takeC r q.1) else (if passC q.1 = 0 then 0 else 2)
def clD (o : Int32) (r : Nat → Int32) (q : Int32 × Int32 × Int32) : Int32 × Int32 := if o = 115 then sawQ r q.1 q.2.1 q.2.2 else if o = 108 then layQ r q.1.toNatClampNeg q.2.1.toNatClampNeg q.2.2.toNatClampNeg else (6, q.1)
def SgO (o : Int32) : Prop := o = 115 ∨ o = 108 ∨ o = 116 ∨ o = 118 ∨ o = 120 ∨ o = 104
theorem cl_115 {r : Nat → Int32} {q : Int32 × Int32 × Int32} : clF 115 r q = sawC r q.1 q.2.1 q.2.2 ∧ clD 115 r q = sawQ r q.1 q.2.1 q.2.2 := ⟨if_pos rfl, if_pos rfl⟩
theorem cl_108 {r : Nat → Int32} {q : Int32 × Int32 × Int32} : clF 108 r q = layK (layC r q.1 q.2.1 q.2.2) ∧ clD 108 r q = layQ r q.1.toNatClampNeg q.2.1.toNatClampNeg q.2.2.toNatClampNeg := by
  refine ⟨?_, ?_⟩
  · unfold clF; rw [if_neg (by decide), if_pos rfl]
  · unfold clD; rw [if_neg (by decide), if_pos rfl]
theorem cl_116 {r : Nat → Int32} {q : Int32 × Int32 × Int32} : clF 116 r q = heatC q.1 q.2.1 := by
  unfold clF; rw [if_neg (by decide), if_neg (by decide), if_pos rfl]
theorem cl_118 {r : Nat → Int32} {q : Int32 × Int32 × Int32} : clF 118 r q = (if visitC q.1 = 0 then 0 else 2) := by
  unfold clF; rw [if_neg (by decide), if_neg (by decide), if_neg (by decide), if_pos rfl]
theorem cl_120 {r : Nat → Int32} {q : Int32 × Int32 × Int32} : clF 120 r q = layK (takeC r q.1) ∧ clD 120 r q = (6, q.1) := by
  refine ⟨?_, ?_⟩
  · unfold clF; rw [if_neg (by decide), if_neg (by decide), if_neg (by decide), if_neg (by decide), if_pos rfl]
  · unfold clD; rw [if_neg (by decide), if_neg (by decide)]
theorem cl_104 {r : Nat → Int32} {q : Int32 × Int32 × Int32} : clF 104 r q = (if passC q.1 = 0 then 0 else 2) := by
  unfold clF; rw [if_neg (by decide), if_neg (by decide), if_neg (by decide), if_neg (by decide), if_neg (by decide)]
theorem wkH_n {h : AH} {f re de : Int32} (e : f ≠ 3) : wkH h f re de = h := if_neg e
theorem heatC_3 {a b : Int32} : heatC a b ≠ 3 := by
  unfold heatC
  split
  · decide
  · split <;> decide
theorem p_faultOf (d : Nat) {h : AH} {r : Nat → Int32} {w : Nat → UInt32} (P : Pal h 32 r w) (hw : Wel r) {o : Int32} (ho : SgO o) (q9 : Int32 × Int32 × Int32) : EvM (d + 3) mX9_faultOf [.ref 71, .ref 32, .int o, .int q9.1, .int q9.2.1, .int q9.2.2] h (some (.int (clF o r q9))) (wkH h (clF o r q9) (clD o r q9).1 (clD o r q9).2) := by
  rcases ho with e | e | e | e | e | e <;> subst e
  · rw [cl_115.1, cl_115.2]
    have S := p_fSaw (d + 0) P hw q9.1 q9.2.1 q9.2.2
    show EvR _ _ 0 [(0, _), (1, _), (2, _), (3, _), (4, _), (5, _)] [] _ _ _
    refine er_s rfl ?_
    refine er_sw rfl rfl ?_
    iterate 5 refine er_s rfl ?_
    refine er_c rfl rfl ⟨Nat.le_of_ble_eq_true rfl, Nat.le_of_ble_eq_true rfl⟩ (S) ?_
    refine er_q rfl ?_ ?_
    · rfl
    · rfl
  · rw [cl_108.1, cl_108.2]
    have S := p_fLay (d + 0) P hw q9.1 q9.2.1 q9.2.2
    show EvR _ _ 0 [(0, _), (1, _), (2, _), (3, _), (4, _), (5, _)] [] _ _ _
    refine er_s rfl ?_
    refine er_sw rfl rfl ?_
    iterate 5 refine er_s rfl ?_
    refine er_c rfl rfl ⟨Nat.le_of_ble_eq_true rfl, Nat.le_of_ble_eq_true rfl⟩ (S) ?_
    refine er_q rfl ?_ ?_
    · rfl
    · rfl
  · rw [cl_116, wkH_n heatC_3]
    have S := p_fHeat (d + 1) q9.1 q9.2.1 h
    show EvR _ _ 0 [(0, _), (1, _), (2, _), (3, _), (4, _), (5, _)] [] _ _ _
    refine er_s rfl ?_
    refine er_sw rfl rfl ?_
    iterate 3 refine er_s rfl ?_
    refine er_c rfl rfl ⟨Nat.le_of_ble_eq_true rfl, Nat.le_of_ble_eq_true rfl⟩ (S) ?_
    refine er_q rfl ?_ ?_
    · rfl
    · rfl
  · rw [cl_118]
    by_cases c1 : 0 ≤ q9.1
    · by_cases c2 : q9.1 ≤ 50
      · rw [show visitC q9.1 = 0 by unfold visitC; rw [if_neg (fun q => q ⟨c1, c2⟩)], if_pos rfl, wkH_n (by decide)]
        show EvR _ _ 0 [(0, _), (1, _), (2, _), (3, _), (4, _), (5, _)] [] _ _ _
        refine er_s rfl ?_
        refine er_sw rfl rfl ?_
        refine er_s rfl ?_
        refine er_b rfl rfl (fun q => absurd q (Int32.not_lt.mpr c1)) (fun _ => ?_)
        iterate 2 refine er_s rfl ?_
        refine er_b rfl rfl (fun _ => ?_) (fun q => absurd c2 q)
        refine er_s rfl ?_
        refine er_q rfl ?_ ?_
        · rfl
        · rfl
      · rw [show visitC q9.1 = 1 by unfold visitC; rw [if_pos (fun q => c2 q.2)], if_neg (by decide), wkH_n (by decide)]
        show EvR _ _ 0 [(0, _), (1, _), (2, _), (3, _), (4, _), (5, _)] [] _ _ _
        refine er_s rfl ?_
        refine er_sw rfl rfl ?_
        refine er_s rfl ?_
        refine er_b rfl rfl (fun q => absurd q (Int32.not_lt.mpr c1)) (fun _ => ?_)
        iterate 2 refine er_s rfl ?_
        refine er_b rfl rfl (fun q => absurd q c2) (fun _ => ?_)
        refine er_s rfl ?_
        refine er_g rfl rfl ?_
        refine er_q rfl ?_ ?_
        · rfl
        · rfl
    · rw [show visitC q9.1 = 1 by unfold visitC; rw [if_pos (fun q => c1 q.1)], if_neg (by decide), wkH_n (by decide)]
      show EvR _ _ 0 [(0, _), (1, _), (2, _), (3, _), (4, _), (5, _)] [] _ _ _
      refine er_s rfl ?_
      refine er_sw rfl rfl ?_
      refine er_s rfl ?_
      refine er_b rfl rfl (fun _ => ?_) (fun q => absurd (Int32.not_le.mp c1) q)
      refine er_s rfl ?_
      refine er_g rfl rfl ?_
      refine er_q rfl ?_ ?_
      · rfl
      · rfl
  · rw [cl_120.1, cl_120.2]
    have S := p_fTake (d + 1) P hw q9.1
    show EvR _ _ 0 [(0, _), (1, _), (2, _), (3, _), (4, _), (5, _)] [] _ _ _
    refine er_s rfl ?_
    refine er_sw rfl rfl ?_
    iterate 3 refine er_s rfl ?_
    refine er_c rfl rfl ⟨Nat.le_of_ble_eq_true rfl, Nat.le_of_ble_eq_true rfl⟩ (S) ?_
    refine er_q rfl ?_ ?_
    · rfl
    · rfl
  · rw [cl_104]
    by_cases c1 : 1 ≤ q9.1
    · by_cases c2 : q9.1 ≤ 48
      · rw [show passC q9.1 = 0 by unfold passC; rw [if_neg (fun q => q ⟨c1, c2⟩)], if_pos rfl, wkH_n (by decide)]
        show EvR _ _ 0 [(0, _), (1, _), (2, _), (3, _), (4, _), (5, _)] [] _ _ _
        refine er_s rfl ?_
        refine er_sw rfl rfl ?_
        iterate 2 refine er_s rfl ?_
        refine er_b rfl rfl (fun q => absurd q (Int32.not_lt.mpr c1)) (fun _ => ?_)
        iterate 2 refine er_s rfl ?_
        refine er_b rfl rfl (fun _ => ?_) (fun q => absurd c2 q)
        refine er_s rfl ?_
        refine er_q rfl ?_ ?_
        · rfl
        · rfl
      · rw [show passC q9.1 = 1 by unfold passC; rw [if_pos (fun q => c2 q.2)], if_neg (by decide), wkH_n (by decide)]
        show EvR _ _ 0 [(0, _), (1, _), (2, _), (3, _), (4, _), (5, _)] [] _ _ _
        refine er_s rfl ?_
        refine er_sw rfl rfl ?_
        iterate 2 refine er_s rfl ?_
        refine er_b rfl rfl (fun q => absurd q (Int32.not_lt.mpr c1)) (fun _ => ?_)
        iterate 2 refine er_s rfl ?_
        refine er_b rfl rfl (fun q => absurd q c2) (fun _ => ?_)
        refine er_s rfl ?_
        refine er_g rfl rfl ?_
        refine er_q rfl ?_ ?_
        · rfl
        · rfl
    · rw [show passC q9.1 = 1 by unfold passC; rw [if_pos (fun q => c1 q.1)], if_neg (by decide), wkH_n (by decide)]
      show EvR _ _ 0 [(0, _), (1, _), (2, _), (3, _), (4, _), (5, _)] [] _ _ _
      refine er_s rfl ?_
      refine er_sw rfl rfl ?_
      iterate 2 refine er_s rfl ?_
      refine er_b rfl rfl (fun _ => ?_) (fun q => absurd (Int32.not_le.mp c1) q)
      refine er_s rfl ?_
      refine er_g rfl rfl ?_
      refine er_q rfl ?_ ?_
      · rfl
      · rfl
end
