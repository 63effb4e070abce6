-- needs: 45
noncomputable section
/-- filled cells, and the room that begins at a cell -/
def fF (r : Nat → Int32) (c j : Nat) : Bool := decide (c < 8 ∧ 0 ≤ gAt r c j)
def rmP (r : Nat → Int32) (c k : Nat) : Bool := !(!fF r c k && fF r (c + 1) k)
abbrev rmK (r : Nat → Int32) (c j : Nat) : Nat := fstP (rmP r c) 12 (12 - j) j
def roomN (r : Nat → Int32) (c j : Nat) : Nat := if j ≠ 0 ∧ fF r c (j - 1) = true ∧ rmK r c j < 12 ∧ fF r c (rmK r c j) = true then rmK r c j - j else 0
theorem f_filB (d : Nat) {c j : Nat} (hc : c < 9) (hj : j < 100) (h : AH) : EvM (d + 1) mX11_isFilled [.ref 0, .int (nI j), .int (nI c)] h (some (.int (bI (fF (h.1 1) c j = true)))) h := by
  have F := f_isFilled d hc hj h
  rw [show bI (c < 8 ∧ 0 ≤ gAt (h.1 1) c j) = bI (fF (h.1 1) c j = true) by unfold fF; by_cases q : c < 8 ∧ 0 ≤ gAt (h.1 1) c j <;> simp [bI, q]] at F
  exact F
theorem f_room_tail (d : Nat) {c j k : Nat} (h : AH) (hc : c < 8) (hj : j ≤ k) (hk : k ≤ 12) : EvR (d + 2) mX11_roomAt 51 [(0, .ref 0), (1, .int (nI j)), (2, .int (nI c)), (3, .int (nI k))] [] h (some (.int (nI (if k < 12 ∧ fF (h.1 1) c k = true then k - j else 0)))) h := by
  have F := f_filB (d + 0) (c := c) (j := k) (by omega) (by omega) h
  by_cases c1 : k < 12
  · by_cases c2 : fF (h.1 1) c k = true
    · rw [if_pos ⟨c1, c2⟩]
      iterate 2 refine er_s rfl ?_
      refine er_b rfl rfl (fun q => absurd q (nI_ge (b := 12) (by omega) (by omega))) (fun _ => ?_)
      iterate 3 refine er_s rfl ?_
      refine er_c rfl rfl ⟨Nat.le_of_ble_eq_true rfl, Nat.le_of_ble_eq_true rfl⟩ (F) ?_
      refine er_b rfl rfl (fun q => absurd q (bI_ne.mpr c2)) (fun _ => ?_)
      iterate 3 refine er_s rfl ?_
      rw [nI_sub (by omega)]
      refine er_g rfl rfl ?_
      refine er_q rfl ?_ ?_
      · rfl
      · rfl
    · rw [if_neg (fun q => c2 q.2)]
      iterate 2 refine er_s rfl ?_
      refine er_b rfl rfl (fun q => absurd q (nI_ge (b := 12) (by omega) (by omega))) (fun _ => ?_)
      iterate 3 refine er_s rfl ?_
      refine er_c rfl rfl ⟨Nat.le_of_ble_eq_true rfl, Nat.le_of_ble_eq_true rfl⟩ (F) ?_
      refine er_b rfl rfl (fun _ => ?_) (fun q => absurd (bI_eq.mpr c2) q)
      refine er_s rfl ?_
      refine er_q rfl ?_ ?_
      · rfl
      · rfl
  · rw [if_neg (fun q => c1 q.1)]
    iterate 2 refine er_s rfl ?_
    refine er_b rfl rfl (fun _ => ?_) (fun q => absurd (nI_le (a := 12) (b := k) (by omega) (by omega)) q)
    refine er_s rfl ?_
    refine er_q rfl ?_ ?_
    · rfl
    · rfl
theorem f_room_loop (d : Nat) {c j : Nat} (h : AH) (hc : c < 8) : ∀ (m k : Nat), k + m = 12 → j ≤ k → EvR (d + 2) mX11_roomAt 19 [(0, .ref 0), (1, .int (nI j)), (2, .int (nI c)), (3, .int (nI k))] [] h (some (.int (nI (if fstP (rmP (h.1 1) c) 12 m k < 12 ∧ fF (h.1 1) c (fstP (rmP (h.1 1) c) 12 m k) = true then fstP (rmP (h.1 1) c) 12 m k - j else 0)))) h
  | 0, k, hk, hj => by
    have hk : k = 12 := by omega
    subst hk
    have T := f_room_tail d h hc hj (Nat.le_refl 12)
    iterate 2 refine er_s rfl ?_
    refine er_b rfl rfl (fun _ => ?_) (fun q => absurd (Int32.le_refl _) q)
    exact er_sub (sub4 rfl rfl rfl rfl) T
  | m + 1, k, hk, hj => by
    have F1 := f_filB (d + 0) (c := c) (j := k) (by omega) (by omega) h
    have F2 := f_filB (d + 0) (c := c + 1) (j := k) (by omega) (by omega) h
    by_cases c1 : fF (h.1 1) c k = true
    · rw [fstP_t (show rmP (h.1 1) c k = true by unfold rmP; rw [c1]; rfl)]
      have T := f_room_tail d h hc hj (show k ≤ 12 by omega)
      iterate 2 refine er_s rfl ?_
      refine er_b rfl rfl (fun q => absurd q (nI_ge (b := 12) (by omega) (by omega))) (fun _ => ?_)
      iterate 3 refine er_s rfl ?_
      refine er_c rfl rfl ⟨Nat.le_of_ble_eq_true rfl, Nat.le_of_ble_eq_true rfl⟩ (F1) ?_
      refine er_b rfl rfl (fun _ => ?_) (fun q => absurd (bI_ne.mpr c1) q)
      exact er_sub (sub4 rfl rfl rfl rfl) T
    · by_cases c2 : fF (h.1 1) (c + 1) k = true
      · rw [fstP_f (show ¬ rmP (h.1 1) c k = true by unfold rmP; rw [Bool.eq_false_iff.mpr c1, c2]; decide)]
        have IH := f_room_loop d (j := j) h hc m (k + 1) (by omega) (by omega)
        iterate 2 refine er_s rfl ?_
        refine er_b rfl rfl (fun q => absurd q (nI_ge (b := 12) (by omega) (by omega))) (fun _ => ?_)
        iterate 3 refine er_s rfl ?_
        refine er_c rfl rfl ⟨Nat.le_of_ble_eq_true rfl, Nat.le_of_ble_eq_true rfl⟩ (F1) ?_
        refine er_b rfl rfl (fun q => absurd q (fun q => absurd (bI_eq.mpr c1) q)) (fun _ => ?_)
        iterate 5 refine er_s rfl ?_
        rw [nI_1]
        refine er_c rfl rfl ⟨Nat.le_of_ble_eq_true rfl, Nat.le_of_ble_eq_true rfl⟩ (F2) ?_
        refine er_b rfl rfl (fun q => absurd q (bI_ne.mpr c2)) (fun _ => ?_)
        refine er_s rfl ?_
        refine er_g rfl rfl ?_
        rw [nI_1]
        exact er_sub (sub4 rfl rfl rfl rfl) IH
      · rw [fstP_t (show rmP (h.1 1) c k = true by unfold rmP; rw [Bool.eq_false_iff.mpr c2]; simp)]
        have T := f_room_tail d h hc hj (show k ≤ 12 by omega)
        iterate 2 refine er_s rfl ?_
        refine er_b rfl rfl (fun q => absurd q (nI_ge (b := 12) (by omega) (by omega))) (fun _ => ?_)
        iterate 3 refine er_s rfl ?_
        refine er_c rfl rfl ⟨Nat.le_of_ble_eq_true rfl, Nat.le_of_ble_eq_true rfl⟩ (F1) ?_
        refine er_b rfl rfl (fun q => absurd q (fun q => absurd (bI_eq.mpr c1) q)) (fun _ => ?_)
        iterate 5 refine er_s rfl ?_
        rw [nI_1]
        refine er_c rfl rfl ⟨Nat.le_of_ble_eq_true rfl, Nat.le_of_ble_eq_true rfl⟩ (F2) ?_
        refine er_b rfl rfl (fun _ => ?_) (fun q => absurd (bI_eq.mpr c2) q)
        exact er_sub (sub4 rfl rfl rfl rfl) T
theorem f_roomAt (d : Nat) {c j : Nat} (h : AH) (hc : c < 8) (hj : j < 12) : EvM (d + 2) mX11_roomAt [.ref 0, .int (nI j), .int (nI c)] h (some (.int (nI (roomN (h.1 1) c j)))) h := by
  by_cases c0 : j = 0
  · subst c0
    rw [show roomN (h.1 1) c 0 = 0 by unfold roomN; rw [if_neg (fun q => q.1 rfl)]]
    show EvR _ _ 0 [(0, _), (1, _), (2, _)] [] _ _ _
    refine er_s rfl ?_
    refine er_b rfl rfl (fun _ => ?_) (fun q => absurd rfl q)
    refine er_s rfl ?_
    refine er_q rfl ?_ ?_
    · rfl
    · rfl
  · have F := f_filB (d + 0) (c := c) (j := j - 1) (by omega) (by omega) h
    have L := f_room_loop d (j := j) h hc (12 - j) j (by omega) (Nat.le_refl j)
    by_cases c1 : fF (h.1 1) c (j - 1) = true
    · rw [show roomN (h.1 1) c j = (if rmK (h.1 1) c j < 12 ∧ fF (h.1 1) c (rmK (h.1 1) c j) = true then rmK (h.1 1) c j - j else 0) by
        unfold roomN
        by_cases q : rmK (h.1 1) c j < 12 ∧ fF (h.1 1) c (rmK (h.1 1) c j) = true
        · rw [if_pos q, if_pos ⟨c0, c1, q⟩]
        · rw [if_neg q, if_neg (fun z => q z.2.2)]]
      show EvR _ _ 0 [(0, _), (1, _), (2, _)] [] _ _ _
      refine er_s rfl ?_
      refine er_b rfl rfl (fun q => absurd q (fun q => c0 ((nI_z (by omega)).mp q))) (fun _ => ?_)
      iterate 5 refine er_s rfl ?_
      rw [nI_m1 (by omega)]
      refine er_c rfl rfl ⟨Nat.le_of_ble_eq_true rfl, Nat.le_of_ble_eq_true rfl⟩ (F) ?_
      refine er_b rfl rfl (fun _ => ?_) (fun q => absurd (bI_ne.mpr c1) q)
      iterate 2 refine er_s rfl ?_
      exact er_sub (sub4 rfl rfl rfl rfl) L
    · rw [show roomN (h.1 1) c j = 0 by unfold roomN; rw [if_neg (fun q => c1 q.2.1)]]
      show EvR _ _ 0 [(0, _), (1, _), (2, _)] [] _ _ _
      refine er_s rfl ?_
      refine er_b rfl rfl (fun q => absurd q (fun q => c0 ((nI_z (by omega)).mp q))) (fun _ => ?_)
      iterate 5 refine er_s rfl ?_
      rw [nI_m1 (by omega)]
      refine er_c rfl rfl ⟨Nat.le_of_ble_eq_true rfl, Nat.le_of_ble_eq_true rfl⟩ (F) ?_
      refine er_b rfl rfl (fun q => absurd q (fun q => absurd (bI_eq.mpr c1) q)) (fun _ => ?_)
      refine er_s rfl ?_
      refine er_q rfl ?_ ?_
      · rfl
      · rfl
/-- how many rooms, the widest, and where it begins -/
def rmS (r : Nat → Int32) (c k : Nat) (s : Nat × Nat × Int32) : Nat × Nat × Int32 := (s.1 + (if 0 < roomN r c k then 1 else 0), if s.2.1 < roomN r c k then roomN r c k else s.2.1, if s.2.1 < roomN r c k then nI k else s.2.2)
abbrev rmI (r : Nat → Int32) (c n : Nat) : Nat × Nat × Int32 := iterN (rmS r c) n (0, 0, -1)
theorem roomN_le {r : Nat → Int32} {c j : Nat} : roomN r c j ≤ 12 := by unfold roomN; split <;> omega
theorem rmI_le {r : Nat → Int32} {c : Nat} : ∀ n, (rmI r c n).2.1 ≤ 12
  | 0 => Nat.zero_le 12
  | n + 1 => by
    show (rmS r c n (rmI r c n)).2.1 ≤ 12
    unfold rmS
    have := rmI_le (r := r) (c := c) n
    have := roomN_le (r := r) (c := c) (j := n)
    dsimp
    split <;> assumption
def roomsA (r : Nat → Int32) (c : Nat) (q : Int32) : Int32 := if q = 0 then nI (rmI r c 12).1 else if q = 1 then nI (rmI r c 12).2.1 else (rmI r c 12).2.2
def roomsC (z q : Int32) : Int32 := if ¬ (0 ≤ z ∧ z ≤ 7) then 1 else if 0 ≤ q ∧ q ≤ 2 then 0 else 2
theorem f_rooms_loop (d : Nat) {c : Nat} (h : AH) (hc : c < 8) (q9 : Int32) : ∀ (m k : Nat), k + m = 12 → EvR (d + 3) mX11_rooms 58 [(0, .ref 0), (1, .int (nI c)), (2, .int q9), (3, .int (nI (rmI (h.1 1) c k).1)), (4, .int (nI (rmI (h.1 1) c k).2.1)), (5, .int (rmI (h.1 1) c k).2.2), (6, .int (nI k))] [] h (some (.int (roomsA (h.1 1) c q9))) h
  | 0, k, hk => by
    have hk : k = 12 := by omega
    subst hk
    unfold roomsA
    by_cases c1 : q9 = 0
    · rw [if_pos c1]
      iterate 2 refine er_s rfl ?_
      refine er_b rfl rfl (fun _ => ?_) (fun q => absurd (Int32.le_refl _) q)
      refine er_s rfl ?_
      refine er_b rfl rfl (fun q => absurd q (fun q => q c1)) (fun _ => ?_)
      refine er_s rfl ?_
      refine er_g rfl rfl ?_
      refine er_q rfl ?_ ?_
      · rfl
      · rfl
    · rw [if_neg c1]
      by_cases c2 : q9 = 1
      · rw [if_pos c2]
        iterate 2 refine er_s rfl ?_
        refine er_b rfl rfl (fun _ => ?_) (fun q => absurd (Int32.le_refl _) q)
        refine er_s rfl ?_
        refine er_b rfl rfl (fun _ => ?_) (fun q => absurd c1 q)
        iterate 2 refine er_s rfl ?_
        refine er_b rfl rfl (fun q => absurd q (fun q => q c2)) (fun _ => ?_)
        refine er_s rfl ?_
        refine er_g rfl rfl ?_
        refine er_q rfl ?_ ?_
        · rfl
        · rfl
      · rw [if_neg c2]
        iterate 2 refine er_s rfl ?_
        refine er_b rfl rfl (fun _ => ?_) (fun q => absurd (Int32.le_refl _) q)
        refine er_s rfl ?_
        refine er_b rfl rfl (fun _ => ?_) (fun q => absurd c1 q)
        iterate 2 refine er_s rfl ?_
        refine er_b rfl rfl (fun _ => ?_) (fun q => absurd c2 q)
        refine er_s rfl ?_
        refine er_q rfl ?_ ?_
        · rfl
        · rfl
  | m + 1, k, hk => by
    have R := f_roomAt (d + 0) (c := c) (j := k) h hc (by omega)
    have IH := f_rooms_loop d h hc q9 m (k + 1) (by omega)
    have e : rmI (h.1 1) c (k + 1) = rmS (h.1 1) c k (rmI (h.1 1) c k) := rfl
    have l1 := rmI_le (r := h.1 1) (c := c) k
    have l2 := roomN_le (r := h.1 1) (c := c) (j := k)
    unfold rmS at e
    by_cases c1 : (rmI (h.1 1) c k).2.1 < roomN (h.1 1) c k
    · rw [if_pos c1, if_pos c1, if_pos (by omega)] at e
      rw [e] at IH
      iterate 2 refine er_s rfl ?_
      refine er_b rfl rfl (fun q => absurd q (nI_ge (b := 12) (by omega) (by omega))) (fun _ => ?_)
      iterate 3 refine er_s rfl ?_
      refine er_c rfl rfl ⟨Nat.le_of_ble_eq_true rfl, Nat.le_of_ble_eq_true rfl⟩ (R) ?_
      iterate 3 refine er_s rfl ?_
      refine er_b rfl rfl (fun q => absurd q (nI_nle (by omega) (by omega))) (fun _ => ?_)
      refine er_s rfl ?_
      refine er_g rfl rfl ?_
      iterate 4 refine er_s rfl ?_
      refine er_b rfl rfl (fun q => absurd q (nI_ge (by omega) (by omega))) (fun _ => ?_)
      refine er_s rfl ?_
      refine er_g rfl rfl ?_
      iterate 3 refine er_s rfl ?_
      refine er_b rfl rfl (fun q => absurd q (nI_ge (by omega) (by omega))) (fun _ => ?_)
      refine er_s rfl ?_
      refine er_g rfl rfl ?_
      iterate 2 refine er_s rfl ?_
      refine er_g rfl rfl ?_
      rw [nI_1, nI_1]
      exact er_sub (sub7 rfl rfl rfl rfl rfl rfl rfl) IH
    · rw [if_neg c1, if_neg c1] at e
      by_cases c2 : 0 < roomN (h.1 1) c k
      · rw [if_pos c2] at e
        rw [e] at IH
        iterate 2 refine er_s rfl ?_
        refine er_b rfl rfl (fun q => absurd q (nI_ge (b := 12) (by omega) (by omega))) (fun _ => ?_)
        iterate 3 refine er_s rfl ?_
        refine er_c rfl rfl ⟨Nat.le_of_ble_eq_true rfl, Nat.le_of_ble_eq_true rfl⟩ (R) ?_
        iterate 3 refine er_s rfl ?_
        refine er_b rfl rfl (fun q => absurd q (nI_nle (by omega) (by omega))) (fun _ => ?_)
        refine er_s rfl ?_
        refine er_g rfl rfl ?_
        iterate 4 refine er_s rfl ?_
        refine er_b rfl rfl (fun _ => ?_) (fun q => absurd (nI_le (by omega) (by omega)) q)
        iterate 4 refine er_s rfl ?_
        refine er_b rfl rfl (fun _ => ?_) (fun q => absurd (nI_le (by omega) (by omega)) q)
        iterate 3 refine er_s rfl ?_
        refine er_g rfl rfl ?_
        rw [nI_1, nI_1]
        exact er_sub (sub7 rfl rfl rfl rfl rfl rfl rfl) IH
      · rw [if_neg c2, Nat.add_zero] at e
        rw [e] at IH
        iterate 2 refine er_s rfl ?_
        refine er_b rfl rfl (fun q => absurd q (nI_ge (b := 12) (by omega) (by omega))) (fun _ => ?_)
        iterate 3 refine er_s rfl ?_
        refine er_c rfl rfl ⟨Nat.le_of_ble_eq_true rfl, Nat.le_of_ble_eq_true rfl⟩ (R) ?_
        iterate 3 refine er_s rfl ?_
        refine er_b rfl rfl (fun _ => ?_) (fun q => absurd (nI_le (b := 0) (by omega) (by omega)) q)
        iterate 5 refine er_s rfl ?_
        refine er_b rfl rfl (fun _ => ?_) (fun q => absurd (nI_le (by omega) (by omega)) q)
        iterate 4 refine er_s rfl ?_
        refine er_b rfl rfl (fun _ => ?_) (fun q => absurd (nI_le (by omega) (by omega)) q)
        iterate 3 refine er_s rfl ?_
        refine er_g rfl rfl ?_
        rw [nI_1, Int32.add_zero]
        exact er_sub (sub7 rfl rfl rfl rfl rfl rfl rfl) IH
theorem f_rooms (d : Nat) (z q9 : Int32) (h : AH) (K : Nat) : WM (d + 3) mX11_rooms [.ref 0, .int z, .int q9] h (fun v h' => (∃ a, v = some (.int a) ∧ (roomsC z q9 = 0 → a = roomsA (h.1 1) z.toNatClampNeg q9)) ∧ OpP h h' (roomsC z q9) (h.1 0 12) (h.1 0 13) (h.1 1) (h.2.1 5) false K) := by
  have T1 := f_isBetween (d + 2) z 0 7 h
  have T2 := f_isBetween (d + 2) q9 0 2 (hI h 0 0 0)
  have e1 : (hI h 0 0 0).1 1 = h.1 1 := hI_ne (by decide)
  by_cases c1 : 0 ≤ z ∧ z ≤ 7
  · obtain ⟨c, hc, rfl⟩ := nI_of2 (M := 7) (n := 7) rfl (Int32.not_lt.mpr c1.1) c1.2
    by_cases c2 : 0 ≤ q9 ∧ q9 ≤ 2
    · have e : roomsC (nI c) q9 = 0 := by unfold roomsC; rw [if_neg (fun q => q c1), if_pos c2]
      have L := f_rooms_loop d (c := c) (hI h 0 0 0) (by omega) q9 12 0 (by omega)
      rw [e1] at L
      rw [e, nI_clamp (by omega)]
      show WX _ _ 0 [(0, _), (1, _), (2, _)] [] _ _
      iterate 5 refine ex_s rfl ?_
      refine ex_c rfl rfl ⟨Nat.le_of_ble_eq_true rfl, Nat.le_of_ble_eq_true rfl⟩ (T1) ?_
      refine ex_b rfl rfl (fun _ => ?_) (fun q => absurd (bI_ne.mpr c1) q)
      refine ex_s rfl ?_
      refine ex_c rfl rfl ⟨Nat.le_of_ble_eq_true rfl, Nat.le_of_ble_eq_true rfl⟩ (f_failsF _ _ _) ?_
      refine ex_b rfl rfl (fun q => absurd q (fun q => q rfl)) (fun _ => ?_)
      iterate 5 refine ex_s rfl ?_
      refine ex_c rfl rfl ⟨Nat.le_of_ble_eq_true rfl, Nat.le_of_ble_eq_true rfl⟩ (T2) ?_
      refine ex_b rfl rfl (fun _ => ?_) (fun q => absurd (bI_ne.mpr c2) q)
      refine ex_s rfl ?_
      refine ex_c rfl rfl ⟨Nat.le_of_ble_eq_true rfl, Nat.le_of_ble_eq_true rfl⟩ (f_failsF _ _ _) ?_
      refine ex_b rfl rfl (fun _ => ?_) (fun q => absurd rfl q)
      rw [hI_2]
      iterate 8 refine ex_s rfl ?_
      exact ex_sub (sub7 rfl rfl rfl rfl rfl rfl rfl) (ex_of L ⟨⟨_, rfl, fun _ => rfl⟩, OpP_x⟩)
    · have e : roomsC (nI c) q9 = 2 := by unfold roomsC; rw [if_neg (fun q => q c1), if_neg c2]
      rw [e]
      show WX _ _ 0 [(0, _), (1, _), (2, _)] [] _ _
      iterate 5 refine ex_s rfl ?_
      refine ex_c rfl rfl ⟨Nat.le_of_ble_eq_true rfl, Nat.le_of_ble_eq_true rfl⟩ (T1) ?_
      refine ex_b rfl rfl (fun _ => ?_) (fun q => absurd (bI_ne.mpr c1) q)
      refine ex_s rfl ?_
      refine ex_c rfl rfl ⟨Nat.le_of_ble_eq_true rfl, Nat.le_of_ble_eq_true rfl⟩ (f_failsF _ _ _) ?_
      refine ex_b rfl rfl (fun q => absurd q (fun q => q rfl)) (fun _ => ?_)
      iterate 5 refine ex_s rfl ?_
      refine ex_c rfl rfl ⟨Nat.le_of_ble_eq_true rfl, Nat.le_of_ble_eq_true rfl⟩ (T2) ?_
      refine ex_b rfl rfl (fun q => absurd q (fun q => q (bI_eq.mpr c2))) (fun _ => ?_)
      refine ex_s rfl ?_
      refine ex_g rfl rfl ?_
      refine ex_c rfl rfl ⟨Nat.le_of_ble_eq_true rfl, Nat.le_of_ble_eq_true rfl⟩ (f_failsT _ _ _) ?_
      refine ex_b rfl rfl (fun q => absurd q (by decide)) (fun _ => ?_)
      rw [hI_2]
      refine ex_s rfl ?_
      refine ex_q rfl ?_
      exact ⟨⟨_, rfl, fun q => absurd q (by decide)⟩, OpP_x⟩
  · have e : roomsC z q9 = 1 := by unfold roomsC; rw [if_pos c1]
    rw [e]
    show WX _ _ 0 [(0, _), (1, _), (2, _)] [] _ _
    iterate 5 refine ex_s rfl ?_
    refine ex_c rfl rfl ⟨Nat.le_of_ble_eq_true rfl, Nat.le_of_ble_eq_true rfl⟩ (T1) ?_
    refine ex_b rfl rfl (fun q => absurd q (fun q => q (bI_eq.mpr c1))) (fun _ => ?_)
    refine ex_s rfl ?_
    refine ex_g rfl rfl ?_
    refine ex_c rfl rfl ⟨Nat.le_of_ble_eq_true rfl, Nat.le_of_ble_eq_true rfl⟩ (f_failsT _ _ _) ?_
    refine ex_b rfl rfl (fun _ => ?_) (fun q => absurd (by decide) q)
    refine ex_s rfl ?_
    refine ex_q rfl ?_
    exact ⟨⟨_, rfl, fun q => absurd q (by decide)⟩, OpP_x⟩
def inRackC (p y : Int32) : Int32 := if (0 ≤ p ∧ p ≤ 1) ∧ (0 ≤ y ∧ y ≤ 4) then 0 else 1
theorem f_inRack (d : Nat) (p y : Int32) (h : AH) (hw : Wel (h.1 1)) (K : Nat) : WM (d + 2) mX11_inRack [.ref 0, .int p, .int y] h (fun v h' => (∃ a, v = some (.int a) ∧ (inRackC p y = 0 → a = orM (blkIn (h.1 1) p y) (CN (h.1 1)))) ∧ OpP h h' (inRackC p y) (h.1 0 12) (h.1 0 13) (h.1 1) (h.2.1 5) false K) := by
  have T1 := f_isBetween (d + 1) p 0 1 h
  have T2 := f_isBetween (d + 1) y 0 4 h
  have e1 : (hI h 0 0 0).1 1 = h.1 1 := hI_ne (by decide)
  by_cases c1 : 0 ≤ p ∧ p ≤ 1
  · by_cases c2 : 0 ≤ y ∧ y ≤ 4
    · have e : inRackC p y = 0 := by unfold inRackC; rw [if_pos ⟨c1, c2⟩]
      have G := f_blockIn (d + 0) p y (hI h 0 0 0) (by rw [e1]; exact hw)
      rw [e1] at G
      rw [e]
      show WX _ _ 0 [(0, _), (1, _), (2, _)] [] _ _
      iterate 5 refine ex_s rfl ?_
      refine ex_c rfl rfl ⟨Nat.le_of_ble_eq_true rfl, Nat.le_of_ble_eq_true rfl⟩ (T1) ?_
      refine ex_b rfl rfl (fun q => absurd q (fun q => bI_eq.mp q c1)) (fun _ => ?_)
      iterate 3 refine ex_s rfl ?_
      refine ex_c rfl rfl ⟨Nat.le_of_ble_eq_true rfl, Nat.le_of_ble_eq_true rfl⟩ (T2) ?_
      refine ex_b rfl rfl (fun _ => ?_) (fun q => absurd (bI_ne.mpr c2) q)
      refine ex_s rfl ?_
      refine ex_c rfl rfl ⟨Nat.le_of_ble_eq_true rfl, Nat.le_of_ble_eq_true rfl⟩ (f_failsF _ _ _) ?_
      refine ex_b rfl rfl (fun _ => ?_) (fun q => absurd rfl q)
      iterate 3 refine ex_s rfl ?_
      refine ex_c rfl rfl ⟨Nat.le_of_ble_eq_true rfl, Nat.le_of_ble_eq_true rfl⟩ (G) ?_
      refine ex_q rfl ?_
      exact ⟨⟨_, rfl, fun _ => rfl⟩, OpP_x⟩
    · have e : inRackC p y = 1 := by unfold inRackC; rw [if_neg (fun q => c2 q.2)]
      rw [e]
      show WX _ _ 0 [(0, _), (1, _), (2, _)] [] _ _
      iterate 5 refine ex_s rfl ?_
      refine ex_c rfl rfl ⟨Nat.le_of_ble_eq_true rfl, Nat.le_of_ble_eq_true rfl⟩ (T1) ?_
      refine ex_b rfl rfl (fun q => absurd q (fun q => bI_eq.mp q c1)) (fun _ => ?_)
      iterate 3 refine ex_s rfl ?_
      refine ex_c rfl rfl ⟨Nat.le_of_ble_eq_true rfl, Nat.le_of_ble_eq_true rfl⟩ (T2) ?_
      refine ex_b rfl rfl (fun q => absurd q (fun q => q (bI_eq.mpr c2))) (fun _ => ?_)
      refine ex_s rfl ?_
      refine ex_g rfl rfl ?_
      refine ex_c rfl rfl ⟨Nat.le_of_ble_eq_true rfl, Nat.le_of_ble_eq_true rfl⟩ (f_failsT _ _ _) ?_
      refine ex_b rfl rfl (fun q => absurd q (by decide)) (fun _ => ?_)
      refine ex_s rfl ?_
      refine ex_g rfl rfl ?_
      refine ex_q rfl ?_
      exact ⟨⟨_, rfl, fun q => absurd q (by decide)⟩, OpP_x⟩
  · have e : inRackC p y = 1 := by unfold inRackC; rw [if_neg (fun q => c1 q.1)]
    rw [e]
    show WX _ _ 0 [(0, _), (1, _), (2, _)] [] _ _
    iterate 5 refine ex_s rfl ?_
    refine ex_c rfl rfl ⟨Nat.le_of_ble_eq_true rfl, Nat.le_of_ble_eq_true rfl⟩ (T1) ?_
    refine ex_b rfl rfl (fun _ => ?_) (fun q => absurd (bI_eq.mpr c1) q)
    refine ex_s rfl ?_
    refine ex_g rfl rfl ?_
    refine ex_c rfl rfl ⟨Nat.le_of_ble_eq_true rfl, Nat.le_of_ble_eq_true rfl⟩ (f_failsT _ _ _) ?_
    refine ex_b rfl rfl (fun q => absurd q (by decide)) (fun _ => ?_)
    refine ex_s rfl ?_
    refine ex_g rfl rfl ?_
    refine ex_q rfl ?_
    exact ⟨⟨_, rfl, fun q => absurd q (by decide)⟩, OpP_x⟩
end
