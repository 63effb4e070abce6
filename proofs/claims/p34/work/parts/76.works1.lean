-- needs: 75
noncomputable section
theorem palL32 : PalL 32 := ⟨rfl, rfl, rfl, rfl, rfl, rfl, rfl, rfl, rfl, rfl, rfl, rfl, rfl⟩
theorem i_lt {x a b : Int32} (h : b.toInt = a.toInt + 1) : x < b ↔ x ≤ a := by
  rw [Int32.lt_iff_toInt_lt, Int32.le_iff_toInt_le, h]
  omega
theorem lt24 {x : Int32} : x < 24 ↔ x ≤ 23 := i_lt rfl
theorem lt12 {x : Int32} : x < 12 ↔ x ≤ 11 := i_lt rfl
theorem lt8 {x : Int32} : x < 8 ↔ x ≤ 7 := i_lt rfl
theorem lt2 {x : Int32} : x < 2 ↔ x ≤ 1 := i_lt rfl
/-- where a fault is a refusal it is noted -/
def wkH (h : AH) (f re de : Int32) : AH := if f = 3 then hI (hI h 71 1 re) 71 2 de else h
theorem p_refuse (d : Nat) (re de : Int32) (h : AH) : EvM d mX9_refuse [.ref 71, .int re, .int de] h (some (.int 3)) (wkH h 3 re de) := by
  show EvM d mX9_refuse [.ref 71, .int re, .int de] h (some (.int 3)) (hI (hI h 71 1 re) 71 2 de)
  show EvR _ _ 0 [(0, _), (1, _), (2, _)] [] _ _ _
  iterate 7 refine er_s rfl ?_
  refine er_q rfl ?_ ?_
  · rfl
  · rfl
theorem p_fHeat (d : Nat) (hr te : Int32) (h : AH) : EvM (d + 1) mX9_faultOfTemperature [.ref 71, .int hr, .int te] h (some (.int (heatC hr te))) h := by
  have H := p_isHour d hr h
  unfold heatC
  by_cases c1 : 0 ≤ hr ∧ hr ≤ 23
  · rw [if_neg (fun q => q c1)]
    have c1' : 0 ≤ hr ∧ hr < 24 := ⟨c1.1, lt24.mpr c1.2⟩
    by_cases c2 : -30 ≤ te
    · by_cases c3 : te ≤ 20
      · rw [if_neg (fun q => q ⟨c2, c3⟩)]
        show EvR _ _ 0 [(0, _), (1, _), (2, _)] [] _ _ _
        refine er_s rfl ?_
        refine er_c rfl rfl ⟨Nat.le_of_ble_eq_true rfl, Nat.le_of_ble_eq_true rfl⟩ (H) ?_
        refine er_b rfl rfl (fun _ => ?_) (fun q => absurd (bI_ne.mpr c1') q)
        iterate 2 refine er_s rfl ?_
        refine er_b rfl rfl (fun q => absurd q (Int32.not_lt.mpr c2)) (fun _ => ?_)
        iterate 2 refine er_s rfl ?_
        refine er_b rfl rfl (fun _ => ?_) (fun q => absurd c3 q)
        refine er_s rfl ?_
        refine er_q rfl ?_ ?_
        · rfl
        · rfl
      · rw [if_pos (fun q => c3 q.2)]
        show EvR _ _ 0 [(0, _), (1, _), (2, _)] [] _ _ _
        refine er_s rfl ?_
        refine er_c rfl rfl ⟨Nat.le_of_ble_eq_true rfl, Nat.le_of_ble_eq_true rfl⟩ (H) ?_
        refine er_b rfl rfl (fun _ => ?_) (fun q => absurd (bI_ne.mpr c1') q)
        iterate 2 refine er_s rfl ?_
        refine er_b rfl rfl (fun q => absurd q (Int32.not_lt.mpr c2)) (fun _ => ?_)
        iterate 2 refine er_s rfl ?_
        refine er_b rfl rfl (fun q => absurd q c3) (fun _ => ?_)
        refine er_s rfl ?_
        refine er_g rfl rfl ?_
        refine er_q rfl ?_ ?_
        · rfl
        · rfl
    · rw [if_pos (fun q => c2 q.1)]
      show EvR _ _ 0 [(0, _), (1, _), (2, _)] [] _ _ _
      refine er_s rfl ?_
      refine er_c rfl rfl ⟨Nat.le_of_ble_eq_true rfl, Nat.le_of_ble_eq_true rfl⟩ (H) ?_
      refine er_b rfl rfl (fun _ => ?_) (fun q => absurd (bI_ne.mpr c1') q)
      iterate 2 refine er_s rfl ?_
      refine er_b rfl rfl (fun _ => ?_) (fun q => absurd (Int32.not_le.mp c2) q)
      refine er_s rfl ?_
      refine er_g rfl rfl ?_
      refine er_q rfl ?_ ?_
      · rfl
      · rfl
  · rw [if_pos c1]
    have c1' : ¬ (0 ≤ hr ∧ hr < 24) := fun q => c1 ⟨q.1, lt24.mp q.2⟩
    show EvR _ _ 0 [(0, _), (1, _), (2, _)] [] _ _ _
    refine er_s rfl ?_
    refine er_c rfl rfl ⟨Nat.le_of_ble_eq_true rfl, Nat.le_of_ble_eq_true rfl⟩ (H) ?_
    refine er_b rfl rfl (fun q => absurd q (fun q => q (bI_eq.mpr c1'))) (fun _ => ?_)
    refine er_s rfl ?_
    refine er_q rfl ?_ ?_
    · rfl
    · rfl
theorem frC_fr {h : AH} {r : Nat → Int32} {w : Nat → UInt32} {k : Nat} (P : Pal h k r w) (h40 : CN r ≤ 40) {q : Nat} (hq : q < 2) {p : Nat} (hp : p < 5) : frC h k q p = frP r (nI q) p := by
  show frC h k q p = decide (¬ blkIn r (nI q) (nI p) < CN r)
  have e := P.rk hq hp
  unfold frC
  rw [e]
  have z := orM_neg (k := blkIn r (nI q) (nI p)) h40
  by_cases c : blkIn r (nI q) (nI p) < CN r
  · rw [decide_eq_false (fun y => (z.mp y) c), decide_eq_false (fun y => y c)]
  · rw [decide_eq_true (z.mpr c), decide_eq_true c]
theorem p_freeP (d : Nat) {k : Nat} (hL : PalL k) {h : AH} {r : Nat → Int32} {w : Nat → UInt32} (P : Pal h k r w) (h40 : CN r ≤ 40) {q : Nat} (hq : q < 2) : EvM (d + 1) mX8_freePlace [.ref k, .int (nI q)] h (some (.int (orM (freeP r (nI q)) 5))) h := by
  have Z := p_freePlace d hL hq h
  rw [show fstP (frC h k q) 5 5 0 = freeP r (nI q) from fstP_congr 5 0 (fun j _ hj => frC_fr P h40 hq (by omega))] at Z
  exact Z
theorem p_fSaw (d : Nat) {h : AH} {r : Nat → Int32} {w : Nat → UInt32} (P : Pal h 32 r w) (hw : Wel r) (kind len rack : Int32) : EvM (d + 2) mX9_faultOfSawing [.ref 71, .ref 32, .int kind, .int len, .int rack] h (some (.int (sawC r kind len rack))) (wkH h (sawC r kind len rack) (sawQ r kind len rack).1 (sawQ r kind len rack).2) := by
  have h40 := hw.2.1
  have R := p_isRack (d + 1) rack h
  have e1 := P.hd (i := 1) (by decide)
  have e2 := P.hd (i := 2) (by decide)
  have e4 := P.hd (i := 4) (by decide)
  unfold sawC
  by_cases c1 : 0 ≤ rack ∧ rack ≤ 1
  · have c1' : 0 ≤ rack ∧ rack < 2 := ⟨c1.1, lt2.mpr c1.2⟩
    rw [if_neg (fun q => q c1)]
    obtain ⟨q, hq, rfl⟩ := nI_of2 (x := rack) (M := 1) (n := 1) rfl (Int32.not_lt.mpr c1.1) c1.2
    have Fp := p_freeP (d + 0) palL32 P h40 (q := q) (by omega)
    by_cases k1 : 0 ≤ kind
    · by_cases k2 : kind ≤ 1
      · by_cases l1 : 1 ≤ len
        · by_cases l2 : len ≤ 6
          · rw [if_neg (fun q => q ⟨⟨k1, k2⟩, l1, l2⟩)]
            have K : ∀ (a b : Int32), sawQ r kind len (nI q) = (a, b) → a ≠ 0 → EvR (d + 2) mX9_faultOfSawing 32 [(0, .ref 71), (1, .ref 32), (2, .int kind), (3, .int len), (4, .int (nI q))] [] h (some (.int 3)) (hI (hI h 71 1 a) 71 2 b) → EvM (d + 2) mX9_faultOfSawing [.ref 71, .ref 32, .int kind, .int len, .int (nI q)] h (some (.int (if (sawQ r kind len (nI q)).1 ≠ 0 then 3 else 0))) (wkH h (if (sawQ r kind len (nI q)).1 ≠ 0 then 3 else 0) (sawQ r kind len (nI q)).1 (sawQ r kind len (nI q)).2) := by
              intro a b e ha Z
              rw [e, if_pos ha, show wkH h 3 (a, b).1 (a, b).2 = hI (hI h 71 1 a) 71 2 b from if_pos rfl]
              show EvR _ _ 0 [(0, _), (1, _), (2, _), (3, _), (4, _)] [] _ _ _
              refine er_s rfl ?_
              refine er_c rfl rfl ⟨Nat.le_of_ble_eq_true rfl, Nat.le_of_ble_eq_true rfl⟩ (R) ?_
              refine er_b rfl rfl (fun _ => ?_) (fun q => absurd (bI_ne.mpr c1') q)
              refine er_s rfl ?_
              refine er_b rfl rfl (fun q => absurd q (Int32.not_lt.mpr k1)) (fun _ => ?_)
              iterate 2 refine er_s rfl ?_
              refine er_b rfl rfl (fun q => absurd q (Int32.not_lt.mpr k2)) (fun _ => ?_)
              iterate 2 refine er_s rfl ?_
              refine er_b rfl rfl (fun q => absurd q (Int32.not_lt.mpr l1)) (fun _ => ?_)
              iterate 2 refine er_s rfl ?_
              refine er_b rfl rfl (fun _ => ?_) (fun q => absurd l2 q)
              exact er_sub (sub5 rfl rfl rfl rfl rfl) Z
            by_cases d1 : r 4 = 40
            · refine K 1 40 (by unfold sawQ; rw [if_pos d1]) (by decide) ?_
              iterate 3 refine er_s rfl ?_
              refine er_b rfl rfl (fun q => absurd q (by rw [e4, d1]; decide)) (fun _ => ?_)
              iterate 3 refine er_s rfl ?_
              refine er_c rfl rfl ⟨Nat.le_of_ble_eq_true rfl, Nat.le_of_ble_eq_true rfl⟩ (p_refuse _ _ _ _) ?_
              refine er_q rfl ?_ ?_
              · rfl
              · rfl
            have d1' : h.1 32 4 < 40 := by
              rw [e4, hw.1]
              have : CN r ≠ 40 := fun z => d1 (by rw [hw.1, z]; rfl)
              exact Int32.not_le.mp (nI_ge (b := 40) (by omega) (by decide))
            by_cases d2 : r 1 < 10
            · refine K 2 (r 1) (by unfold sawQ; rw [if_neg d1, if_pos d2]) (by decide) ?_
              iterate 3 refine er_s rfl ?_
              refine er_b rfl rfl (fun _ => ?_) (fun q => absurd d1' q)
              iterate 3 refine er_s rfl ?_
              refine er_b rfl rfl (fun q => absurd q (by rw [e1]; exact Int32.not_le.mpr d2)) (fun _ => ?_)
              iterate 4 refine er_s rfl ?_
              rw [show fv 0 (h.1 32 1) = Value.int (r 1) from congrArg Value.int e1]
              refine er_c rfl rfl ⟨Nat.le_of_ble_eq_true rfl, Nat.le_of_ble_eq_true rfl⟩ (p_refuse _ _ _ _) ?_
              refine er_q rfl ?_ ?_
              · rfl
              · rfl
            have d2' : 10 ≤ h.1 32 1 := by rw [e1]; exact Int32.not_lt.mp d2
            by_cases d3 : r 2 < len
            · refine K 3 (r 2) (by unfold sawQ; rw [if_neg d1, if_neg d2, if_pos d3]) (by decide) ?_
              iterate 3 refine er_s rfl ?_
              refine er_b rfl rfl (fun _ => ?_) (fun q => absurd d1' q)
              iterate 3 refine er_s rfl ?_
              refine er_b rfl rfl (fun _ => ?_) (fun q => absurd d2' q)
              iterate 3 refine er_s rfl ?_
              refine er_b rfl rfl (fun q => absurd q (by rw [e2]; exact Int32.not_le.mpr d3)) (fun _ => ?_)
              iterate 4 refine er_s rfl ?_
              rw [show fv 0 (h.1 32 2) = Value.int (r 2) from congrArg Value.int e2]
              refine er_c rfl rfl ⟨Nat.le_of_ble_eq_true rfl, Nat.le_of_ble_eq_true rfl⟩ (p_refuse _ _ _ _) ?_
              refine er_q rfl ?_ ?_
              · rfl
              · rfl
            have d3' : len ≤ h.1 32 2 := by rw [e2]; exact Int32.not_lt.mp d3
            have f5 : freeP r (nI q) ≤ 5 := (fstP_le (p := frP r (nI q)) (n := 5) 5 0 rfl).1
            by_cases d4 : freeP r (nI q) = 5
            · rw [d4] at Fp
              refine K 4 (nI q) (by unfold sawQ; rw [if_neg d1, if_neg d2, if_neg d3, if_pos d4]) (by decide) ?_
              iterate 3 refine er_s rfl ?_
              refine er_b rfl rfl (fun _ => ?_) (fun q => absurd d1' q)
              iterate 3 refine er_s rfl ?_
              refine er_b rfl rfl (fun _ => ?_) (fun q => absurd d2' q)
              iterate 3 refine er_s rfl ?_
              refine er_b rfl rfl (fun _ => ?_) (fun q => absurd d3' q)
              iterate 2 refine er_s rfl ?_
              refine er_c rfl rfl ⟨Nat.le_of_ble_eq_true rfl, Nat.le_of_ble_eq_true rfl⟩ (Fp) ?_
              refine er_b rfl rfl (fun q => absurd q (by decide)) (fun _ => ?_)
              iterate 3 refine er_s rfl ?_
              refine er_c rfl rfl ⟨Nat.le_of_ble_eq_true rfl, Nat.le_of_ble_eq_true rfl⟩ (p_refuse _ _ _ _) ?_
              refine er_q rfl ?_ ?_
              · rfl
              · rfl
            rw [orM_t (show freeP r (nI q) < 5 by omega)] at Fp
            by_cases d5 : kind ≠ nI q
            · refine K 5 (nI q) (by unfold sawQ; rw [if_neg d1, if_neg d2, if_neg d3, if_neg d4, if_pos d5]) (by decide) ?_
              iterate 3 refine er_s rfl ?_
              refine er_b rfl rfl (fun _ => ?_) (fun q => absurd d1' q)
              iterate 3 refine er_s rfl ?_
              refine er_b rfl rfl (fun _ => ?_) (fun q => absurd d2' q)
              iterate 3 refine er_s rfl ?_
              refine er_b rfl rfl (fun _ => ?_) (fun q => absurd d3' q)
              iterate 2 refine er_s rfl ?_
              refine er_c rfl rfl ⟨Nat.le_of_ble_eq_true rfl, Nat.le_of_ble_eq_true rfl⟩ (Fp) ?_
              refine er_b rfl rfl (fun _ => ?_) (fun q => absurd (nI_pos' (by omega)) q)
              iterate 2 refine er_s rfl ?_
              refine er_b rfl rfl (fun q => absurd q (fun z => d5 z.symm)) (fun _ => ?_)
              iterate 3 refine er_s rfl ?_
              refine er_c rfl rfl ⟨Nat.le_of_ble_eq_true rfl, Nat.le_of_ble_eq_true rfl⟩ (p_refuse _ _ _ _) ?_
              refine er_g rfl rfl ?_
              refine er_q rfl ?_ ?_
              · rfl
              · rfl
            rw [show sawQ r kind len (nI q) = (0, 0) by unfold sawQ; rw [if_neg d1, if_neg d2, if_neg d3, if_neg d4, if_neg d5], if_neg (fun z => z rfl), show wkH h 0 (0, 0).1 (0, 0).2 = h from if_neg (by decide)]
            show EvR _ _ 0 [(0, _), (1, _), (2, _), (3, _), (4, _)] [] _ _ _
            refine er_s rfl ?_
            refine er_c rfl rfl ⟨Nat.le_of_ble_eq_true rfl, Nat.le_of_ble_eq_true rfl⟩ (R) ?_
            refine er_b rfl rfl (fun _ => ?_) (fun q => absurd (bI_ne.mpr c1') q)
            refine er_s rfl ?_
            refine er_b rfl rfl (fun q => absurd q (Int32.not_lt.mpr k1)) (fun _ => ?_)
            iterate 2 refine er_s rfl ?_
            refine er_b rfl rfl (fun q => absurd q (Int32.not_lt.mpr k2)) (fun _ => ?_)
            iterate 2 refine er_s rfl ?_
            refine er_b rfl rfl (fun q => absurd q (Int32.not_lt.mpr l1)) (fun _ => ?_)
            iterate 2 refine er_s rfl ?_
            refine er_b rfl rfl (fun _ => ?_) (fun q => absurd l2 q)
            iterate 3 refine er_s rfl ?_
            refine er_b rfl rfl (fun _ => ?_) (fun q => absurd d1' q)
            iterate 3 refine er_s rfl ?_
            refine er_b rfl rfl (fun _ => ?_) (fun q => absurd d2' q)
            iterate 3 refine er_s rfl ?_
            refine er_b rfl rfl (fun _ => ?_) (fun q => absurd d3' q)
            iterate 2 refine er_s rfl ?_
            refine er_c rfl rfl ⟨Nat.le_of_ble_eq_true rfl, Nat.le_of_ble_eq_true rfl⟩ (Fp) ?_
            refine er_b rfl rfl (fun _ => ?_) (fun q => absurd (nI_pos' (by omega)) q)
            iterate 2 refine er_s rfl ?_
            refine er_b rfl rfl (fun _ => ?_) (fun q => absurd ((Decidable.not_not.mp d5).symm) q)
            refine er_s rfl ?_
            refine er_q rfl ?_ ?_
            · rfl
            · rfl
          · rw [if_pos (fun q => l2 q.2.2), show wkH h 2 (sawQ r kind len (nI q)).1 (sawQ r kind len (nI q)).2 = h from if_neg (by decide)]
            show EvR _ _ 0 [(0, _), (1, _), (2, _), (3, _), (4, _)] [] _ _ _
            refine er_s rfl ?_
            refine er_c rfl rfl ⟨Nat.le_of_ble_eq_true rfl, Nat.le_of_ble_eq_true rfl⟩ (R) ?_
            refine er_b rfl rfl (fun _ => ?_) (fun q => absurd (bI_ne.mpr c1') q)
            refine er_s rfl ?_
            refine er_b rfl rfl (fun q => absurd q (Int32.not_lt.mpr k1)) (fun _ => ?_)
            iterate 2 refine er_s rfl ?_
            refine er_b rfl rfl (fun q => absurd q (Int32.not_lt.mpr k2)) (fun _ => ?_)
            iterate 2 refine er_s rfl ?_
            refine er_b rfl rfl (fun q => absurd q (Int32.not_lt.mpr l1)) (fun _ => ?_)
            iterate 2 refine er_s rfl ?_
            refine er_b rfl rfl (fun q => absurd q l2) (fun _ => ?_)
            refine er_s rfl ?_
            refine er_q rfl ?_ ?_
            · rfl
            · rfl
        · rw [if_pos (fun q => l1 q.2.1), show wkH h 2 (sawQ r kind len (nI q)).1 (sawQ r kind len (nI q)).2 = h from if_neg (by decide)]
          show EvR _ _ 0 [(0, _), (1, _), (2, _), (3, _), (4, _)] [] _ _ _
          refine er_s rfl ?_
          refine er_c rfl rfl ⟨Nat.le_of_ble_eq_true rfl, Nat.le_of_ble_eq_true rfl⟩ (R) ?_
          refine er_b rfl rfl (fun _ => ?_) (fun q => absurd (bI_ne.mpr c1') q)
          refine er_s rfl ?_
          refine er_b rfl rfl (fun q => absurd q (Int32.not_lt.mpr k1)) (fun _ => ?_)
          iterate 2 refine er_s rfl ?_
          refine er_b rfl rfl (fun q => absurd q (Int32.not_lt.mpr k2)) (fun _ => ?_)
          iterate 2 refine er_s rfl ?_
          refine er_b rfl rfl (fun _ => ?_) (fun q => absurd (Int32.not_le.mp l1) q)
          refine er_s rfl ?_
          refine er_q rfl ?_ ?_
          · rfl
          · rfl
      · rw [if_pos (fun q => k2 q.1.2), show wkH h 2 (sawQ r kind len (nI q)).1 (sawQ r kind len (nI q)).2 = h from if_neg (by decide)]
        show EvR _ _ 0 [(0, _), (1, _), (2, _), (3, _), (4, _)] [] _ _ _
        refine er_s rfl ?_
        refine er_c rfl rfl ⟨Nat.le_of_ble_eq_true rfl, Nat.le_of_ble_eq_true rfl⟩ (R) ?_
        refine er_b rfl rfl (fun _ => ?_) (fun q => absurd (bI_ne.mpr c1') q)
        refine er_s rfl ?_
        refine er_b rfl rfl (fun q => absurd q (Int32.not_lt.mpr k1)) (fun _ => ?_)
        iterate 2 refine er_s rfl ?_
        refine er_b rfl rfl (fun _ => ?_) (fun q => absurd (Int32.not_le.mp k2) q)
        refine er_s rfl ?_
        refine er_q rfl ?_ ?_
        · rfl
        · rfl
    · rw [if_pos (fun q => k1 q.1.1), show wkH h 2 (sawQ r kind len (nI q)).1 (sawQ r kind len (nI q)).2 = h from if_neg (by decide)]
      show EvR _ _ 0 [(0, _), (1, _), (2, _), (3, _), (4, _)] [] _ _ _
      refine er_s rfl ?_
      refine er_c rfl rfl ⟨Nat.le_of_ble_eq_true rfl, Nat.le_of_ble_eq_true rfl⟩ (R) ?_
      refine er_b rfl rfl (fun _ => ?_) (fun q => absurd (bI_ne.mpr c1') q)
      refine er_s rfl ?_
      refine er_b rfl rfl (fun _ => ?_) (fun q => absurd (Int32.not_le.mp k1) q)
      refine er_s rfl ?_
      refine er_q rfl ?_ ?_
      · rfl
      · rfl
  · have c1' : ¬ (0 ≤ rack ∧ rack < 2) := fun q => c1 ⟨q.1, lt2.mp q.2⟩
    rw [if_pos c1, show wkH h 1 (sawQ r kind len rack).1 (sawQ r kind len rack).2 = h from if_neg (by decide)]
    show EvR _ _ 0 [(0, _), (1, _), (2, _), (3, _), (4, _)] [] _ _ _
    refine er_s rfl ?_
    refine er_c rfl rfl ⟨Nat.le_of_ble_eq_true rfl, Nat.le_of_ble_eq_true rfl⟩ (R) ?_
    refine er_b rfl rfl (fun q => absurd q (fun q => q (bI_eq.mpr c1'))) (fun _ => ?_)
    refine er_s rfl ?_
    refine er_q rfl ?_ ?_
    · rfl
    · rfl
end
