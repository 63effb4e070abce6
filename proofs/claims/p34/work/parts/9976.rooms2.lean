noncomputable section
theorem m1_le {n : Nat} (h : n < 2 ^ 31) : (-1 : Int32) ≤ nI n := Int32.le_trans (by decide) (nI_pos' h)
section
variable {p : Program} {l : Launch} {e : Env} {R : Room} {s : State} {m : MethodId} {args : Array Value} {below : List Frame} {meth : Method} {c : Code} {Q : State → Prop} {KC : Nat} {D : va_G} {ca : Nat → ClassId} {ad0 ad : Nat → Nat} {A : Nat → Prop} {E : EX} {G : Nat → Nat → Int32} {kc : Nat} {h : AH} {r : Nat → Int32} {w : Nat → UInt32} {S : Sv} {K : Hs} {q : Int32 × Int32} {T : Tx} {B : Nat}
theorem ar_loop {c9 : Nat} (hc : c9 < 8) (KE : ∀ (h : AH), CS h r w S K q T → WL p l e R s m args below meth c Q mL_areRooms 22 KC D ca ad0 A ad E G kc 130 [(0, .ref 31), (1, .int (nI c9)), (2, .int (nI (mnN r c9 12))), (3, .int (nI (wdN r c9 12)))] [] h) : ∀ (n i : Nat) (h : AH), i + n = 12 → CS h r w S K q T → WL p l e R s m args below meth c Q mL_areRooms 22 KC D ca ad0 A ad E G kc 10 [(0, .ref 31), (1, .int (nI c9)), (2, .int (nI (mnN r c9 i))), (3, .int (nI (wdN r c9 i))), (4, .int (oI (roS r c9 i))), (5, .int (nI i))] [] h := by
  intro n
  induction n with
  | zero =>
    intro i h hi C
    have hi : i = 12 := by omega
    subst hi
    iterate 2 refine wl_s rfl rfl ?_
    refine wl_b rfl rfl (fun _ => ?_) (fun q => absurd (Int32.le_refl _) q)
    exact wl_sub (sub4 rfl rfl rfl rfl) (KE _ C)
  | succ n ih =>
    intro i h hi C
    have hw9 := wd_le (r := r) (c := c9) i
    have KD : ∀ (h : AH), CS h r w S K q T → WL p l e R s m args below meth c Q mL_areRooms 22 KC D ca ad0 A ad E G kc 95 [(0, .ref 31), (1, .int (nI c9)), (2, .int (nI (mnN r c9 (i + 1)))), (3, .int (nI (wdN r c9 (i + 1)))), (4, .int (oI (roS r c9 i))), (5, .int (nI i)), (6, .int (bI (fF r c9 i = true))), (7, .int (bI (fF r (c9 + 1) i = true)))] [] h := by
      intro h C
      have IH := ih (i + 1) h (by omega) C
      by_cases f : fF r c9 i = true
      · have s1 : roS r c9 (i + 1) = some 0 := by unfold roS; rw [if_pos f]
        rw [s1] at IH
        refine wl_s rfl rfl ?_
        refine wl_b rfl rfl (fun q => absurd q (bI_ne.mpr f)) (fun _ => ?_)
        refine wl_s rfl rfl ?_
        refine wl_g rfl rfl ?_
        iterate 2 refine wl_s rfl rfl ?_
        refine wl_g rfl rfl ?_
        rw [nI_1]
        exact wl_sub (sub6 rfl rfl rfl rfl rfl rfl) IH
      · obtain hs | ⟨t, hs⟩ : roS r c9 i = none ∨ ∃ t, roS r c9 i = some t := by
          cases roS r c9 i with
          | none => exact Or.inl rfl
          | some t => exact Or.inr ⟨t, rfl⟩
        · have eo : oI (roS r c9 i) = -1 := by rw [hs]; rfl
          have s1 : roS r c9 (i + 1) = none := by unfold roS; rw [if_neg f, hs]
          rw [s1] at IH
          refine wl_s rfl rfl ?_
          refine wl_b rfl rfl (fun _ => ?_) (fun q => absurd (bI_eq.mpr f) q)
          refine wl_s rfl rfl ?_
          refine wl_b rfl rfl (fun _ => ?_) (fun q => absurd (by rw [eo]; decide) q)
          iterate 3 refine wl_s rfl rfl ?_
          refine wl_g rfl rfl ?_
          rw [nI_1]
          exact wl_sub (sub6 rfl rfl rfl rfl rfl rfl) IH
        · have eo : oI (roS r c9 i) = nI t := by rw [hs]; rfl
          have ht := (roS_s i t hs).1
          by_cases g : fF r (c9 + 1) i = true
          · have s1 : roS r c9 (i + 1) = some (t + 1) := by unfold roS; rw [if_neg f, hs]; simp only [g, if_true]
            have e1 : oI (roS r c9 (i + 1)) = oI (roS r c9 i) + 1 := by rw [s1, eo]; exact (nI_1 t).symm
            rw [e1] at IH
            refine wl_s rfl rfl ?_
            refine wl_b rfl rfl (fun _ => ?_) (fun q => absurd (bI_eq.mpr f) q)
            refine wl_s rfl rfl ?_
            refine wl_b rfl rfl (fun q => absurd q (by rw [eo]; exact nI_pos (by omega))) (fun _ => ?_)
            refine wl_s rfl rfl ?_
            refine wl_b rfl rfl (fun q => absurd q (bI_ne.mpr g)) (fun _ => ?_)
            iterate 3 refine wl_s rfl rfl ?_
            refine wl_g rfl rfl ?_
            iterate 2 refine wl_s rfl rfl ?_
            refine wl_g rfl rfl ?_
            rw [nI_1]
            exact wl_sub (sub6 rfl rfl rfl rfl rfl rfl) IH
          · have s1 : roS r c9 (i + 1) = none := by
              unfold roS
              rw [if_neg f, hs]
              exact if_neg g
            rw [s1] at IH
            refine wl_s rfl rfl ?_
            refine wl_b rfl rfl (fun _ => ?_) (fun q => absurd (bI_eq.mpr f) q)
            refine wl_s rfl rfl ?_
            refine wl_b rfl rfl (fun q => absurd q (by rw [eo]; exact nI_pos (by omega))) (fun _ => ?_)
            refine wl_s rfl rfl ?_
            refine wl_b rfl rfl (fun _ => ?_) (fun q => absurd (bI_eq.mpr g) q)
            iterate 3 refine wl_s rfl rfl ?_
            refine wl_g rfl rfl ?_
            rw [nI_1]
            exact wl_sub (sub6 rfl rfl rfl rfl rfl rfl) IH
    have KC9 : ∀ (h : AH), CS h r w S K q T → WL p l e R s m args below meth c Q mL_areRooms 22 KC D ca ad0 A ad E G kc 77 [(0, .ref 31), (1, .int (nI c9)), (2, .int (nI (mnN r c9 (i + 1)))), (3, .int (nI (wdN r c9 i))), (4, .int (oI (roS r c9 i))), (5, .int (nI i)), (6, .int (bI (fF r c9 i = true))), (7, .int (bI (fF r (c9 + 1) i = true)))] [] h := by
      intro h C
      have D9 := KD h C
      have w1 : wdN r c9 (i + 1) = if fF r c9 i = true ∧ wdN r c9 i < opN r c9 i then opN r c9 i else wdN r c9 i := rfl
      by_cases f : fF r c9 i = true
      · obtain hs | ⟨t, hs⟩ : roS r c9 i = none ∨ ∃ t, roS r c9 i = some t := by
          cases roS r c9 i with
          | none => exact Or.inl rfl
          | some t => exact Or.inr ⟨t, rfl⟩
        · have eo : oI (roS r c9 i) = -1 := by rw [hs]; rfl
          have op : opN r c9 i = 0 := by unfold opN; rw [hs]; rfl
          rw [w1, op, if_neg (fun z => absurd z.2 (Nat.not_lt_zero _))] at D9
          refine wl_s rfl rfl ?_
          refine wl_b rfl rfl (fun q => absurd q (bI_ne.mpr f)) (fun _ => ?_)
          iterate 2 refine wl_s rfl rfl ?_
          refine wl_b rfl rfl (fun _ => ?_) (fun q => absurd (by rw [eo]; exact m1_le (by omega)) q)
          iterate 2 refine wl_s rfl rfl ?_
          exact wl_sub (sub8 rfl rfl rfl rfl rfl rfl rfl rfl) D9
        · have eo : oI (roS r c9 i) = nI t := by rw [hs]; rfl
          have op : opN r c9 i = t := by unfold opN; rw [hs]; rfl
          have ht := (roS_s i t hs).1
          by_cases z : wdN r c9 i < t
          · rw [w1, op, if_pos ⟨f, z⟩, ← eo] at D9
            refine wl_s rfl rfl ?_
            refine wl_b rfl rfl (fun q => absurd q (bI_ne.mpr f)) (fun _ => ?_)
            iterate 2 refine wl_s rfl rfl ?_
            refine wl_b rfl rfl (fun q => absurd q (by rw [eo]; exact nI_ge z (by omega))) (fun _ => ?_)
            refine wl_s rfl rfl ?_
            refine wl_g rfl rfl ?_
            refine wl_s rfl rfl ?_
            exact wl_sub (sub8 rfl rfl rfl rfl rfl rfl rfl rfl) D9
          · rw [w1, op, if_neg (fun y => z y.2)] at D9
            refine wl_s rfl rfl ?_
            refine wl_b rfl rfl (fun q => absurd q (bI_ne.mpr f)) (fun _ => ?_)
            iterate 2 refine wl_s rfl rfl ?_
            refine wl_b rfl rfl (fun _ => ?_) (fun q => absurd (by rw [eo]; exact nI_le (by omega) (by omega)) q)
            iterate 2 refine wl_s rfl rfl ?_
            exact wl_sub (sub8 rfl rfl rfl rfl rfl rfl rfl rfl) D9
      · rw [w1, if_neg (fun y => f y.1)] at D9
        refine wl_s rfl rfl ?_
        refine wl_b rfl rfl (fun _ => ?_) (fun q => absurd (bI_eq.mpr f) q)
        iterate 2 refine wl_s rfl rfl ?_
        exact wl_sub (sub8 rfl rfl rfl rfl rfl rfl rfl rfl) D9
    have KB : ∀ (h : AH), CS h r w S K q T → WL p l e R s m args below meth c Q mL_areRooms 22 KC D ca ad0 A ad E G kc 59 [(0, .ref 31), (1, .int (nI c9)), (2, .int (nI (mnN r c9 i))), (3, .int (nI (wdN r c9 i))), (4, .int (oI (roS r c9 i))), (5, .int (nI i)), (6, .int (bI (fF r c9 i = true))), (7, .int (bI (fF r (c9 + 1) i = true)))] [] h := by
      intro h C
      have D9 := KC9 h C
      have w1 : mnN r c9 (i + 1) = mnN r c9 i + if fF r c9 i = true ∧ 0 < opN r c9 i then 1 else 0 := rfl
      have z0 : nI (mnN r c9 i + 0) = nI (mnN r c9 i) + 0 := (nI_add _ 0).symm
      by_cases f : fF r c9 i = true
      · obtain hs | ⟨t, hs⟩ : roS r c9 i = none ∨ ∃ t, roS r c9 i = some t := by
          cases roS r c9 i with
          | none => exact Or.inl rfl
          | some t => exact Or.inr ⟨t, rfl⟩
        · have eo : oI (roS r c9 i) = -1 := by rw [hs]; rfl
          have op : opN r c9 i = 0 := by unfold opN; rw [hs]; rfl
          rw [w1, op, if_neg (fun z => absurd z.2 (Nat.lt_irrefl _)), z0] at D9
          iterate 2 refine wl_s rfl rfl ?_
          refine wl_b rfl rfl (fun q => absurd q (bI_ne.mpr f)) (fun _ => ?_)
          refine wl_s rfl rfl ?_
          refine wl_b rfl rfl (fun _ => ?_) (fun q => absurd (by rw [eo]; decide) q)
          iterate 3 refine wl_s rfl rfl ?_
          exact wl_sub (sub8 rfl rfl rfl rfl rfl rfl rfl rfl) D9
        · have eo : oI (roS r c9 i) = nI t := by rw [hs]; rfl
          have op : opN r c9 i = t := by unfold opN; rw [hs]; rfl
          have ht := (roS_s i t hs).1
          by_cases z : 0 < t
          · rw [w1, op, if_pos ⟨f, z⟩, ← nI_1] at D9
            iterate 2 refine wl_s rfl rfl ?_
            refine wl_b rfl rfl (fun q => absurd q (bI_ne.mpr f)) (fun _ => ?_)
            refine wl_s rfl rfl ?_
            refine wl_b rfl rfl (fun q => absurd q (by rw [eo]; exact nI_nle z (by omega))) (fun _ => ?_)
            refine wl_s rfl rfl ?_
            refine wl_g rfl rfl ?_
            iterate 2 refine wl_s rfl rfl ?_
            exact wl_sub (sub8 rfl rfl rfl rfl rfl rfl rfl rfl) D9
          · rw [w1, op, if_neg (fun y => z y.2), z0] at D9
            have t0 : t = 0 := by omega
            iterate 2 refine wl_s rfl rfl ?_
            refine wl_b rfl rfl (fun q => absurd q (bI_ne.mpr f)) (fun _ => ?_)
            refine wl_s rfl rfl ?_
            refine wl_b rfl rfl (fun _ => ?_) (fun q => absurd (by rw [eo, t0]; decide) q)
            iterate 3 refine wl_s rfl rfl ?_
            exact wl_sub (sub8 rfl rfl rfl rfl rfl rfl rfl rfl) D9
      · rw [w1, if_neg (fun y => f y.1), z0] at D9
        iterate 2 refine wl_s rfl rfl ?_
        refine wl_b rfl rfl (fun _ => ?_) (fun q => absurd (bI_eq.mpr f) q)
        iterate 3 refine wl_s rfl rfl ?_
        exact wl_sub (sub8 rfl rfl rfl rfl rfl rfl rfl rfl) D9
    have KA : ∀ (h : AH), CS h r w S K q T → WL p l e R s m args below meth c Q mL_areRooms 22 KC D ca ad0 A ad E G kc 34 [(0, .ref 31), (1, .int (nI c9)), (2, .int (nI (mnN r c9 i))), (3, .int (nI (wdN r c9 i))), (4, .int (oI (roS r c9 i))), (5, .int (nI i)), (6, .int (bI (fF r c9 i = true)))] [] h := by
      intro h C
      by_cases c7 : c9 < 7
      · by_cases g : 0 ≤ gAt r (c9 + 1) i
        · have e7 : bI (fF r (c9 + 1) i = true) = 1 := bI_t (decide_eq_true ⟨by omega, g⟩)
          rw [e7] at KB
          iterate 2 refine wl_s rfl rfl ?_
          refine wl_b rfl rfl (fun q => absurd q (nI_ge (b := 7) c7 (by decide))) (fun _ => ?_)
          iterate 5 refine wl_s rfl rfl ?_
          rw [nI_1]
          refine wl_v (i := 140) (mj := mX10_at) (na := 2) rfl (by decide +kernel) rfl ⟨Nat.le_of_ble_eq_true rfl, Nat.le_of_ble_eq_true rfl⟩ (by decide) (p_op_at 1 19 C _ _) (px_good (atC_ok (by omega) (by omega))) (fun v9 h9 p9 => ?_)
          obtain ⟨rfl, C⟩ := p9
          rw [cl (c9 + 1), cl i]
          refine wl_b rfl rfl (fun q => absurd q (Int32.not_lt.mpr g)) (fun _ => ?_)
          refine wl_s rfl rfl ?_
          refine wl_g rfl rfl ?_
          refine wl_s rfl rfl ?_
          exact wl_sub (sub8 rfl rfl rfl rfl rfl rfl rfl rfl) (KB _ C)
        · have e7 : bI (fF r (c9 + 1) i = true) = 0 := bI_f (fun z => g (of_decide_eq_true z).2)
          rw [e7] at KB
          iterate 2 refine wl_s rfl rfl ?_
          refine wl_b rfl rfl (fun q => absurd q (nI_ge (b := 7) c7 (by decide))) (fun _ => ?_)
          iterate 5 refine wl_s rfl rfl ?_
          rw [nI_1]
          refine wl_v (i := 140) (mj := mX10_at) (na := 2) rfl (by decide +kernel) rfl ⟨Nat.le_of_ble_eq_true rfl, Nat.le_of_ble_eq_true rfl⟩ (by decide) (p_op_at 1 19 C _ _) (px_good (atC_ok (by omega) (by omega))) (fun v9 h9 p9 => ?_)
          obtain ⟨rfl, C⟩ := p9
          rw [cl (c9 + 1), cl i]
          refine wl_b rfl rfl (fun _ => ?_) (fun q => absurd (Int32.not_le.mp g) q)
          iterate 2 refine wl_s rfl rfl ?_
          exact wl_sub (sub8 rfl rfl rfl rfl rfl rfl rfl rfl) (KB _ C)
      · have e7 : bI (fF r (c9 + 1) i = true) = 0 := bI_f (fun z => absurd (of_decide_eq_true z).1 (by omega))
        rw [e7] at KB
        iterate 2 refine wl_s rfl rfl ?_
        refine wl_b rfl rfl (fun _ => ?_) (fun q => absurd (nI_le (a := 7) (by omega) (by omega)) q)
        iterate 2 refine wl_s rfl rfl ?_
        exact wl_sub (sub8 rfl rfl rfl rfl rfl rfl rfl rfl) (KB _ C)
    by_cases g : 0 ≤ gAt r c9 i
    · have e6 : bI (fF r c9 i = true) = 1 := bI_t (decide_eq_true ⟨hc, g⟩)
      rw [e6] at KA
      iterate 2 refine wl_s rfl rfl ?_
      refine wl_b rfl rfl (fun q => absurd q (nI_ge (b := 12) (by omega) (by decide))) (fun _ => ?_)
      iterate 3 refine wl_s rfl rfl ?_
      refine wl_v (i := 140) (mj := mX10_at) (na := 2) rfl (by decide +kernel) rfl ⟨Nat.le_of_ble_eq_true rfl, Nat.le_of_ble_eq_true rfl⟩ (by decide) (p_op_at 1 19 C _ _) (px_good (atC_ok (by omega) hc)) (fun v9 h9 p9 => ?_)
      obtain ⟨rfl, C⟩ := p9
      rw [cl c9, cl i]
      refine wl_b rfl rfl (fun q => absurd q (Int32.not_lt.mpr g)) (fun _ => ?_)
      refine wl_s rfl rfl ?_
      refine wl_g rfl rfl ?_
      refine wl_s rfl rfl ?_
      exact wl_sub (sub7 rfl rfl rfl rfl rfl rfl rfl) (KA _ C)
    · have e6 : bI (fF r c9 i = true) = 0 := bI_f (fun z => g (of_decide_eq_true z).2)
      rw [e6] at KA
      iterate 2 refine wl_s rfl rfl ?_
      refine wl_b rfl rfl (fun q => absurd q (nI_ge (b := 12) (by omega) (by decide))) (fun _ => ?_)
      iterate 3 refine wl_s rfl rfl ?_
      refine wl_v (i := 140) (mj := mX10_at) (na := 2) rfl (by decide +kernel) rfl ⟨Nat.le_of_ble_eq_true rfl, Nat.le_of_ble_eq_true rfl⟩ (by decide) (p_op_at 1 19 C _ _) (px_good (atC_ok (by omega) hc)) (fun v9 h9 p9 => ?_)
      obtain ⟨rfl, C⟩ := p9
      rw [cl c9, cl i]
      refine wl_b rfl rfl (fun _ => ?_) (fun q => absurd (Int32.not_le.mp g) q)
      iterate 2 refine wl_s rfl rfl ?_
      exact wl_sub (sub7 rfl rfl rfl rfl rfl rfl rfl) (KA _ C)
end
theorem rooms_0 {r : Nat → Int32} {c : Nat} : roomsA r c 0 = nI (mnN r c 12) := by unfold roomsA; rw [if_pos rfl, rooms_eq.1]
theorem rooms_1 {r : Nat → Int32} {c : Nat} : roomsA r c 1 = nI (wdN r c 12) := by unfold roomsA; rw [if_neg (by decide), if_pos rfl, rooms_eq.2]
theorem rooms_2 {r : Nat → Int32} {c : Nat} : (mnN r c 12 = 0 → roomsA r c 2 = -1) ∧ (mnN r c 12 ≠ 0 → roomsA r c 2 ≠ -1) := by
  have e : roomsA r c 2 = (rmI r c 12).2.2 := by unfold roomsA; rw [if_neg (by decide), if_neg (by decide)]
  obtain ⟨h1, h2⟩ := rooms_w (r := r) (c := c) 12 (Nat.le_refl _)
  rw [rooms_eq.1] at h1 h2
  rw [e]
  refine ⟨fun z => (h1 z).2, fun z => ?_⟩
  obtain ⟨-, k, hk, e9⟩ := h2 z
  rw [e9]
  exact fun y => nI_pos (n := k) (by omega) (by rw [y]; decide)
/-- rooms as they are counted from the left -/
theorem c_areRooms {l : Launch} (hfl : l.stackTraces = false) {h : AH} {r : Nat → Int32} {w : Nat → UInt32} {S : Sv} {K : Hs} {q : Int32 × Int32} {T : Tx} (C : CS h r w S K q T) {c9 : Nat} (hc : c9 < 8) : LX l mL_areRooms 22 0 [.ref 31, .int (nI c9)] h (fun v h' => v = some (.int 1) ∧ CS h' r w S K q T) := by
  have hm := mn_le (r := r) (c := c9) 12
  refine lc_mk hfl (by decide) (Nat.le_of_ble_eq_true rfl) (fun p e R s m args below meth c D ca A ad => ?_)
  show WL p l e R s m args below meth c _ mL_areRooms 22 0 D ca ad A ad [] _ 0 0 [(0, .ref 31), (1, .int (nI c9))] [] h
  iterate 8 refine wl_s rfl rfl ?_
  refine wl_sub (sub6 rfl rfl rfl rfl rfl rfl) (ar_loop hc (fun h C => ?_) 12 0 h rfl C)
  by_cases z : mnN r c9 12 = 0
  · have e2 := rooms_2.1 z
    have e3 : nI (mnN r c9 12) = 0 := by rw [z]; rfl
    iterate 3 refine wl_s rfl rfl ?_
    refine wl_v (i := 189) (mj := mX10_rooms) (na := 2) rfl (by decide +kernel) rfl ⟨Nat.le_of_ble_eq_true rfl, Nat.le_of_ble_eq_true rfl⟩ (by decide) (p_op_rooms 1 18 C _ _) (px_good (roomsC_ok (y := 0) hc (by decide))) (fun v9 h9 p9 => ?_)
    obtain ⟨rfl, C⟩ := p9
    rw [cl c9, rooms_0]
    refine wl_s rfl rfl ?_
    refine wl_b rfl rfl (fun q => absurd q (fun z => z rfl)) (fun _ => ?_)
    iterate 3 refine wl_s rfl rfl ?_
    refine wl_v (i := 189) (mj := mX10_rooms) (na := 2) rfl (by decide +kernel) rfl ⟨Nat.le_of_ble_eq_true rfl, Nat.le_of_ble_eq_true rfl⟩ (by decide) (p_op_rooms 1 18 C _ _) (px_good (roomsC_ok (y := 1) hc (by decide))) (fun v9 h9 p9 => ?_)
    obtain ⟨rfl, C⟩ := p9
    rw [cl c9, rooms_1]
    refine wl_s rfl rfl ?_
    refine wl_b rfl rfl (fun q => absurd q (fun z => z rfl)) (fun _ => ?_)
    iterate 3 refine wl_s rfl rfl ?_
    refine wl_v (i := 189) (mj := mX10_rooms) (na := 2) rfl (by decide +kernel) rfl ⟨Nat.le_of_ble_eq_true rfl, Nat.le_of_ble_eq_true rfl⟩ (by decide) (p_op_rooms 1 18 C _ _) (px_good (roomsC_ok (y := 2) hc (by decide))) (fun v9 h9 p9 => ?_)
    obtain ⟨rfl, C⟩ := p9
    rw [cl c9]
    refine wl_s rfl rfl ?_
    refine wl_b rfl rfl (fun q => absurd q (fun y => y e2)) (fun _ => ?_)
    refine wl_s rfl rfl ?_
    refine wl_g rfl rfl ?_
    refine wl_s rfl rfl ?_
    refine wl_b rfl rfl (fun q => absurd q (fun y => y e3)) (fun _ => ?_)
    refine wl_s rfl rfl ?_
    refine wl_g rfl rfl ?_
    refine wl_b rfl rfl (fun q => absurd q (fun z => z rfl)) (fun _ => ?_)
    refine wl_s rfl rfl ?_
    refine wl_g rfl rfl ?_
    refine wl_q (by decide) rfl (fun k q => by cases q) ?_
    exact ⟨rfl, C⟩
  · have e2 := rooms_2.2 z
    have e3 : nI (mnN r c9 12) ≠ 0 := fun y => z ((nI_z (by omega)).mp y)
    iterate 3 refine wl_s rfl rfl ?_
    refine wl_v (i := 189) (mj := mX10_rooms) (na := 2) rfl (by decide +kernel) rfl ⟨Nat.le_of_ble_eq_true rfl, Nat.le_of_ble_eq_true rfl⟩ (by decide) (p_op_rooms 1 18 C _ _) (px_good (roomsC_ok (y := 0) hc (by decide))) (fun v9 h9 p9 => ?_)
    obtain ⟨rfl, C⟩ := p9
    rw [cl c9, rooms_0]
    refine wl_s rfl rfl ?_
    refine wl_b rfl rfl (fun q => absurd q (fun z => z rfl)) (fun _ => ?_)
    iterate 3 refine wl_s rfl rfl ?_
    refine wl_v (i := 189) (mj := mX10_rooms) (na := 2) rfl (by decide +kernel) rfl ⟨Nat.le_of_ble_eq_true rfl, Nat.le_of_ble_eq_true rfl⟩ (by decide) (p_op_rooms 1 18 C _ _) (px_good (roomsC_ok (y := 1) hc (by decide))) (fun v9 h9 p9 => ?_)
    obtain ⟨rfl, C⟩ := p9
    rw [cl c9, rooms_1]
    refine wl_s rfl rfl ?_
    refine wl_b rfl rfl (fun q => absurd q (fun z => z rfl)) (fun _ => ?_)
    iterate 3 refine wl_s rfl rfl ?_
    refine wl_v (i := 189) (mj := mX10_rooms) (na := 2) rfl (by decide +kernel) rfl ⟨Nat.le_of_ble_eq_true rfl, Nat.le_of_ble_eq_true rfl⟩ (by decide) (p_op_rooms 1 18 C _ _) (px_good (roomsC_ok (y := 2) hc (by decide))) (fun v9 h9 p9 => ?_)
    obtain ⟨rfl, C⟩ := p9
    rw [cl c9]
    refine wl_s rfl rfl ?_
    refine wl_b rfl rfl (fun _ => ?_) (fun q => absurd e2 q)
    iterate 2 refine wl_s rfl rfl ?_
    refine wl_b rfl rfl (fun _ => ?_) (fun q => absurd e3 q)
    refine wl_s rfl rfl ?_
    refine wl_b rfl rfl (fun q => absurd q (fun z => z rfl)) (fun _ => ?_)
    refine wl_s rfl rfl ?_
    refine wl_g rfl rfl ?_
    refine wl_q (by decide) rfl (fun k q => by cases q) ?_
    exact ⟨rfl, C⟩
end
