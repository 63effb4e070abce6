-- needs: 40
noncomputable section
def mapI (g : Nat → Int32) (i : Nat) (f : Nat → Int32) : Nat → Int32 := fun b => if b < i then g b else f b
theorem mapI_u {g f : Nat → Int32} {i : Nat} : upd (mapI g i f) i (g i) = mapI g (i + 1) f := by
  funext b
  unfold upd mapI
  by_cases e1 : b = i
  · rw [if_pos e1, if_pos (by omega), e1]
  · rw [if_neg e1]
    by_cases e2 : b < i
    · rw [if_pos e2, if_pos (by omega)]
    · rw [if_neg e2, if_neg (by omega)]
theorem mapI_0 {g f : Nat → Int32} : mapI g 0 f = f := by funext b; exact if_neg (Nat.not_lt_zero b)
theorem mapI_lt {g f : Nat → Int32} {n i : Nat} (h : i < n) : mapI g n f i = g i := if_pos h
theorem mapF_lt {g f : Nat → UInt32} {n i : Nat} (h : i < n) : mapF g n f i = g i := if_pos h
theorem hFr_hIr {h : AH} {a b i : Nat} {f : Nat → UInt32} {x : Int32} : hI (hFr h b f) a i x = hFr (hI h a i x) b f := rfl
theorem f_copyAll (d : Nat) {a b fa fb : Nat} {s1 s2 s3 s4 : List Nat} (l1 : layAt a = (1, 445, s1)) (l2 : layAt fa = (4, 40, s2)) (l3 : layAt b = (1, 445, s3)) (l4 : layAt fb = (4, 40, s4)) (hab : a ≠ b) (hf : fa ≠ fb) (h : AH) : EvM d mX11_copyAll [.ref a, .ref fa, .ref b, .ref fb] h none (hFr (hIr h b (mapI (h.1 a) 445 (h.1 b))) fb (mapF (h.2.1 fa) 40 (h.2.1 fb))) := by
  have A : ∀ (n i : Nat), i + n = 40 → EvR d mX11_copyAll 28 [(0, .ref a), (1, .ref fa), (2, .ref b), (3, .ref fb), (4, .int (nI i))] [] (hFr (hIr h b (mapI (h.1 a) 445 (h.1 b))) fb (mapF (h.2.1 fa) i (h.2.1 fb))) none (hFr (hIr h b (mapI (h.1 a) 445 (h.1 b))) fb (mapF (h.2.1 fa) 40 (h.2.1 fb))) := by
    intro n
    induction n with
    | zero =>
      intro i hi
      have hi : i = 40 := by omega
      subst hi
      iterate 2 refine er_s rfl ?_
      refine er_b rfl rfl (fun _ => ?_) (fun q => absurd (Int32.le_refl _) q)
      refine er_q rfl ?_ ?_
      · rfl
      · rfl
    | succ n ih =>
      intro i hi
      have IH := ih (i + 1) (by omega)
      rw [← mapF_u (i := i) rfl] at IH
      iterate 2 refine er_s rfl ?_
      refine er_b rfl rfl (fun q => absurd q (nI_ge (b := 40) (by omega) (by decide))) (fun _ => ?_)
      iterate 4 refine er_s rfl ?_
      refine er_fl rfl l2 (vi) ?_
      rw [hFr_ne _ _ hf, hIr_f, cl i]
      refine er_fs rfl l4 (vi) ?_
      refine er_s rfl ?_
      refine er_g rfl rfl ?_
      rw [nI_1, cl i, hF_r2]
      exact er_sub (sub5 rfl rfl rfl rfl rfl) IH
  have B : ∀ (n i : Nat), i + n = 445 → EvR d mX11_copyAll 3 [(0, .ref a), (1, .ref fa), (2, .ref b), (3, .ref fb), (4, .int (nI i))] [] (hIr h b (mapI (h.1 a) i (h.1 b))) none (hFr (hIr h b (mapI (h.1 a) 445 (h.1 b))) fb (mapF (h.2.1 fa) 40 (h.2.1 fb))) := by
    intro n
    induction n with
    | zero =>
      intro i hi
      have hi : i = 445 := by omega
      subst hi
      have Z := A 40 0 rfl
      rw [mapF_0, show hFr (hIr h b (mapI (h.1 a) 445 (h.1 b))) fb (h.2.1 fb) = hIr h b (mapI (h.1 a) 445 (h.1 b)) from hFr_self _ fb] at Z
      iterate 2 refine er_s rfl ?_
      refine er_b rfl rfl (fun _ => ?_) (fun q => absurd (Int32.le_refl _) q)
      iterate 2 refine er_s rfl ?_
      exact er_sub (sub5 rfl rfl rfl rfl rfl) Z
    | succ n ih =>
      intro i hi
      have IH := ih (i + 1) (by omega)
      rw [← mapI_u] at IH
      iterate 2 refine er_s rfl ?_
      refine er_b rfl rfl (fun q => absurd q (nI_ge (b := 445) (by omega) (by decide))) (fun _ => ?_)
      iterate 4 refine er_s rfl ?_
      refine er_il rfl l1 (vi) ?_
      rw [hIr_ne hab, cl i]
      refine er_is rfl l3 (vi) ?_
      refine er_s rfl ?_
      refine er_g rfl rfl ?_
      rw [nI_1, cl i, hI_hIr]
      exact er_sub (sub5 rfl rfl rfl rfl rfl) IH
  have Z := B 445 0 rfl
  rw [mapI_0, hIr_self] at Z
  show EvR _ _ 0 [(0, _), (1, _), (2, _), (3, _)] [] _ _ _
  iterate 2 refine er_s rfl ?_
  exact er_sub (sub5 rfl rfl rfl rfl rfl) Z
theorem hl_r : ∀ i ∈ List.range 8, layAt (10 + i) = (1, 445, []) ∧ layAt (19 + i) = (4, 40, []) := by decide +kernel
theorem hl_a : ∀ i ∈ List.range 8, ([10, 11, 12, 13, 14, 15, 16, 17] : List Nat)[i]? = some (10 + i) ∧ ([19, 20, 21, 22, 23, 24, 25, 26] : List Nat)[i]? = some (19 + i) := by decide +kernel
theorem hl_10 {i : Nat} (h : i < 8) : layAt (10 + i) = (1, 445, []) := (hl_r i (List.mem_range.mpr h)).1
theorem hl_19 {i : Nat} (h : i < 8) : layAt (19 + i) = (4, 40, []) := (hl_r i (List.mem_range.mpr h)).2
theorem ha_10 {i : Nat} (h : i < 8) : ([10, 11, 12, 13, 14, 15, 16, 17] : List Nat)[(nI i).toNatClampNeg]? = some (10 + i) := by rw [nI_clamp (by omega)]; exact (hl_a i (List.mem_range.mpr h)).1
theorem ha_19 {i : Nat} (h : i < 8) : ([19, 20, 21, 22, 23, 24, 25, 26] : List Nat)[(nI i).toNatClampNeg]? = some (19 + i) := by rw [nI_clamp (by omega)]; exact (hl_a i (List.mem_range.mpr h)).2
/-- what remembering leaves: the head but for kept, and all rows but the history's -/
def FrK (h h' : AH) : Prop := (∀ j, j ≠ 11 → h'.1 0 j = h.1 0 j) ∧ (∀ a, a ≠ 0 → (a < 10 ∨ 17 < a) → h'.1 a = h.1 a) ∧ (∀ a, (a < 19 ∨ 26 < a) → h'.2.1 a = h.2.1 a) ∧ h'.2.2 = h.2.2
theorem FrK.rf {h : AH} : FrK h h := ⟨fun _ _ => rfl, fun _ _ _ => rfl, fun _ _ => rfl, rfl⟩
theorem FrK.tr {a b c : AH} (h1 : FrK a b) (h2 : FrK b c) : FrK a c := ⟨fun j hj => (h2.1 j hj).trans (h1.1 j hj), fun x h0 hx => (h2.2.1 x h0 hx).trans (h1.2.1 x h0 hx), fun x hx => (h2.2.2.1 x hx).trans (h1.2.2.1 x hx), h2.2.2.2.trans h1.2.2.2⟩
theorem FrK.cp {h : AH} {i : Nat} {f : Nat → Int32} {g : Nat → UInt32} (hi : i < 8) : FrK h (hFr (hIr h (10 + i) f) (19 + i) g) := ⟨fun j _ => by rw [hFr_1, hIr_ne (by omega)], fun a h0 ha => by rw [hFr_1, hIr_ne (by omega)], fun a ha => by rw [hFr_ne _ _ (by omega)]; rfl, rfl⟩
/-- the history's row i holds what the row a held, its masses those of fa -/
def HRow (h' : AH) (i : Nat) (h : AH) (a fa : Nat) : Prop := (∀ j, j < 445 → h'.1 (10 + i) j = h.1 a j) ∧ ∀ j, j < 40 → h'.2.1 (19 + i) j = h.2.1 fa j
theorem f_shift (d : Nat) (h0 : AH) {c1 c2 : Nat} {Q : Option Value → AH → Prop} (K : ∀ h, (∀ i, i < 7 → HRow h i h0 (10 + (i + 1)) (19 + (i + 1))) → FrK h0 h → h.1 0 11 = nI 7 → WX (d + 1) mX11_remember 66 [(0, .ref 0), (1, .ref c1), (2, .ref c2)] [] h Q) : ∀ (n k : Nat) (h : AH), k + n = 7 → h.1 0 11 = nI 7 → (∀ i, i < k → HRow h i h0 (10 + (i + 1)) (19 + (i + 1))) → (∀ i, k ≤ i → i < 8 → h.1 (10 + i) = h0.1 (10 + i) ∧ h.2.1 (19 + i) = h0.2.1 (19 + i)) → FrK h0 h → WX (d + 1) mX11_remember 21 [(0, .ref 0), (1, .ref c1), (2, .ref c2), (3, .int (nI k))] [] h Q
  | 0, k, h, hk, h11, hA, hB, F => by
    have hk : k = 7 := by omega
    subst hk
    have Z := K h hA F h11
    iterate 3 refine ex_s rfl ?_
    refine ex_b rfl rfl (fun _ => ?_) (fun q => absurd (by show h.1 0 11 ≤ _; rw [h11]; exact Int32.le_refl _) q)
    exact ex_sub (sub3 rfl rfl rfl) Z
  | n + 1, k, h, hk, h11, hA, hB, F => by
    have C := f_copyAll d (hl_10 (i := k + 1) (by omega)) (hl_19 (i := k + 1) (by omega)) (hl_10 (i := k) (by omega)) (hl_19 (i := k) (by omega)) (by omega) (by omega) h
    have IH := f_shift d h0 K n (k + 1) (hFr (hIr h (10 + k) (mapI (h.1 (10 + (k + 1))) 445 (h.1 (10 + k)))) (19 + k) (mapF (h.2.1 (19 + (k + 1))) 40 (h.2.1 (19 + k)))) (by omega) (by rw [hFr_1, hIr_ne (by omega)]; exact h11) (fun i hi => by
      by_cases e : i = k
      · subst e
        obtain ⟨b1, b2⟩ := hB (i + 1) (by omega) (by omega)
        exact ⟨fun j hj => by rw [hFr_1, hIr_at, mapI_lt hj, b1], fun j hj => by rw [hFr_at, mapF_lt hj, b2]⟩
      · obtain ⟨a1, a2⟩ := hA i (by omega)
        exact ⟨fun j hj => by rw [hFr_1, hIr_ne (by omega)]; exact a1 j hj, fun j hj => by rw [hFr_ne _ _ (by omega)]; exact a2 j hj⟩) (fun i h1 h2 => by
      obtain ⟨b1, b2⟩ := hB i (by omega) h2
      exact ⟨by rw [hFr_1, hIr_ne (by omega)]; exact b1, by rw [hFr_ne _ _ (by omega)]; exact b2⟩) (F.tr (FrK.cp (by omega)))
    iterate 3 refine ex_s rfl ?_
    refine ex_b rfl rfl (fun q => absurd q (by show ¬ h.1 0 11 ≤ _; rw [h11]; exact nI_ge (by omega) (by omega))) (fun _ => ?_)
    iterate 5 refine ex_s rfl ?_
    rw [nI_1]
    refine ex_aal rfl rfl (by decide) (vi) (ha_10 (by omega)) ?_
    iterate 5 refine ex_s rfl ?_
    rw [nI_1]
    refine ex_aal rfl rfl (by decide) (vi) (ha_19 (by omega)) ?_
    iterate 3 refine ex_s rfl ?_
    refine ex_aal rfl rfl (by decide) (vi) (ha_10 (by omega)) ?_
    iterate 3 refine ex_s rfl ?_
    refine ex_aal rfl rfl (by decide) (vi) (ha_19 (by omega)) ?_
    refine ex_c rfl rfl ⟨Nat.le_of_ble_eq_true rfl, Nat.le_of_ble_eq_true rfl⟩ (C) ?_
    refine ex_s rfl ?_
    refine ex_g rfl rfl ?_
    rw [nI_1]
    exact ex_sub (sub4 rfl rfl rfl rfl) IH
theorem f_remL (d : Nat) {a fa K : Nat} {s1 s2 : List Nat} (l1 : layAt a = (1, 445, s1)) (l2 : layAt fa = (4, 40, s2)) (ha : a < 10) (hf : fa < 19) (h : AH) (hK : K < 8) (h11 : h.1 0 11 = nI K) : WX (d + 1) mX11_remember 66 [(0, .ref 0), (1, .ref a), (2, .ref fa)] [] h (fun v h' => v = none ∧ HRow h' K h a fa ∧ h'.1 0 11 = nI (K + 1) ∧ FrK h h' ∧ ∀ i, i < 8 → i ≠ K → h'.1 (10 + i) = h.1 (10 + i) ∧ h'.2.1 (19 + i) = h.2.1 (19 + i)) := by
  have C := f_copyAll d l1 l2 (hl_10 hK) (hl_19 hK) (by omega) (by omega) h
  iterate 6 refine ex_s rfl ?_
  rw [show fv 0 (h.1 0 11) = Value.int (nI K) from congrArg Value.int h11]
  refine ex_aal rfl rfl (by decide) (vi) (ha_10 hK) ?_
  iterate 4 refine ex_s rfl ?_
  rw [show fv 0 (h.1 0 11) = Value.int (nI K) from congrArg Value.int h11]
  refine ex_aal rfl rfl (by decide) (vi) (ha_19 hK) ?_
  refine ex_c rfl rfl ⟨Nat.le_of_ble_eq_true rfl, Nat.le_of_ble_eq_true rfl⟩ (C) ?_
  iterate 6 refine ex_s rfl ?_
  refine ex_q rfl ?_
  refine ⟨rfl, ⟨fun j hj => ?_, fun j hj => ?_⟩, ?_, ⟨fun j hj => ?_, fun x h0 hx => ?_, fun x hx => ?_, rfl⟩, fun i hi hne => ⟨?_, ?_⟩⟩
  · rw [hI_ne (by omega), hFr_1, hIr_at, mapI_lt hj]
  · rw [hI_f, hFr_at, mapF_lt hj]
  · rw [hI_at, upd_eq, hFr_1, hIr_ne (by omega), h11, nI_1]
  · rw [hI_at, upd_ne hj, hFr_1, hIr_ne (by omega)]
  · rw [hI_ne h0, hFr_1, hIr_ne (by omega)]
  · rw [hI_f, hFr_ne _ _ (by omega)]; rfl
  · rw [hI_ne (by omega), hFr_1, hIr_ne (by omega)]
  · rw [hI_f, hFr_ne _ _ (by omega)]; rfl
/-- the row goes to the history's end; where that is full its first row gives way -/
theorem f_remember (d : Nat) {a fa K : Nat} {s1 s2 : List Nat} (l1 : layAt a = (1, 445, s1)) (l2 : layAt fa = (4, 40, s2)) (ha : a < 10) (ha0 : a ≠ 0) (hf : fa < 19) (h : AH) (hK : K ≤ 8) (h11 : h.1 0 11 = nI K) : WM (d + 1) mX11_remember [.ref 0, .ref a, .ref fa] h (fun v h' => v = none ∧ FrK h h' ∧ h'.1 0 11 = nI (min (K + 1) 8) ∧ (∀ i, i < min K 7 → HRow h' i h (10 + (if K = 8 then i + 1 else i)) (19 + (if K = 8 then i + 1 else i))) ∧ HRow h' (min K 7) h a fa) := by
  by_cases e : K = 8
  · subst e
    have S := f_shift d h (c1 := a) (c2 := fa) (Q := fun v h' => v = none ∧ FrK h h' ∧ h'.1 0 11 = nI (min (8 + 1) 8) ∧ (∀ i, i < min 8 7 → HRow h' i h (10 + (if 8 = 8 then i + 1 else i)) (19 + (if 8 = 8 then i + 1 else i))) ∧ HRow h' (min 8 7) h a fa) (fun g hA F g11 => by
      refine (f_remL d l1 l2 ha hf g (K := 7) (by decide) g11).mono (fun v h' z => ?_)
      obtain ⟨z1, ⟨z2, z2b⟩, z3, z4, z5⟩ := z
      refine ⟨z1, F.tr z4, z3, fun i hi => ?_, fun j hj => ?_, fun j hj => ?_⟩
      · obtain ⟨a1, a2⟩ := hA i (by omega)
        obtain ⟨b1, b2⟩ := z5 i (by omega) (by omega)
        rw [if_pos rfl]
        exact ⟨fun j hj => by rw [b1]; exact a1 j hj, fun j hj => by rw [b2]; exact a2 j hj⟩
      · exact (z2 j hj).trans (congrFun (F.2.1 a ha0 (by omega)) j)
      · exact (z2b j hj).trans (congrFun (F.2.2.1 fa (by omega)) j)) 7 0 (hI h 0 11 (nI 7)) rfl (by rw [hI_at, upd_eq]) (fun i hi => absurd hi (Nat.not_lt_zero i)) (fun i _ hi => ⟨hI_ne (by omega), rfl⟩) ⟨fun j hj => by rw [hI_at, upd_ne hj], fun x h0 _ => hI_ne h0, fun _ _ => rfl, rfl⟩
    show WX _ _ 0 [(0, _), (1, _), (2, _)] [] _ _
    iterate 3 refine ex_s rfl ?_
    refine ex_b rfl rfl (fun q => absurd q (fun q => q h11)) (fun _ => ?_)
    iterate 8 refine ex_s rfl ?_
    rw [show hI h 0 11 (h.1 0 11 - 1) = hI h 0 11 (nI 7) from congrArg (hI h 0 11) (by rw [h11]; decide)]
    exact ex_sub (sub4 rfl rfl rfl rfl) S
  · have S := (f_remL d l1 l2 ha hf h (K := K) (by omega) h11).mono (P := fun v h' => v = none ∧ FrK h h' ∧ h'.1 0 11 = nI (min (K + 1) 8) ∧ (∀ i, i < min K 7 → HRow h' i h (10 + (if K = 8 then i + 1 else i)) (19 + (if K = 8 then i + 1 else i))) ∧ HRow h' (min K 7) h a fa) (fun v h' z => by
      obtain ⟨z1, z2, z3, z4, z5⟩ := z
      rw [Nat.min_eq_left (by omega), Nat.min_eq_left (by omega)]
      refine ⟨z1, z4, z3, fun i hi => ?_, z2⟩
      rw [if_neg e]
      obtain ⟨b1, b2⟩ := z5 i (by omega) (by omega)
      exact ⟨fun j _ => by rw [b1], fun j _ => by rw [b2]⟩)
    show WX _ _ 0 [(0, _), (1, _), (2, _)] [] _ _
    iterate 3 refine ex_s rfl ?_
    refine ex_b rfl rfl (fun _ => ?_) (fun q => absurd (by show h.1 0 11 ≠ 8; rw [h11]; exact fun q => e ((nI_eq (b := 8) (by omega) (by decide)).mp q)) q)
    exact ex_sub (sub3 rfl rfl rfl) S
theorem f_begin (d : Nat) (h : AH) : EvM (d + 1) mX11_begin [.ref 0] h none (hFr (hIr h 3 (mapI (h.1 1) 445 (h.1 3))) 7 (mapF (h.2.1 5) 40 (h.2.1 7))) := by
  have C := f_copyAll d (a := 1) (b := 3) (fa := 5) (fb := 7) rfl rfl rfl rfl (by decide) (by decide) h
  show EvR _ _ 0 [(0, _)] [] _ _ _
  iterate 8 refine er_s rfl ?_
  refine er_c rfl rfl ⟨Nat.le_of_ble_eq_true rfl, Nat.le_of_ble_eq_true rfl⟩ (C) ?_
  refine er_q rfl ?_ ?_
  · rfl
  · rfl
theorem f_end (d : Nat) (h : AH) : EvM (d + 1) mX11_end [.ref 0] h none (hFr (hIr h 1 (mapI (h.1 3) 445 (h.1 1))) 5 (mapF (h.2.1 7) 40 (h.2.1 5))) := by
  have C := f_copyAll d (a := 3) (b := 1) (fa := 7) (fb := 5) rfl rfl rfl rfl (by decide) (by decide) h
  show EvR _ _ 0 [(0, _)] [] _ _ _
  iterate 8 refine er_s rfl ?_
  refine er_c rfl rfl ⟨Nat.le_of_ble_eq_true rfl, Nat.le_of_ble_eq_true rfl⟩ (C) ?_
  refine er_q rfl ?_ ?_
  · rfl
  · rfl
end
