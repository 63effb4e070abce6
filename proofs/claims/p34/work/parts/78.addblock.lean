-- needs: 77
noncomputable section
theorem fstP_ext {p p' : Nat → Bool} {n : Nat} (h : ∀ j, j < n → p' j = p j) : (fstP p n n 0 < n → fstP p' (n + 1) (n + 1) 0 = fstP p n n 0) ∧ (¬ fstP p n n 0 < n → (p' n = true → fstP p' (n + 1) (n + 1) 0 = n) ∧ (¬ p' n = true → fstP p' (n + 1) (n + 1) 0 = n + 1)) := by
  refine ⟨fun c => ?_, fun c => ⟨fun q => ?_, fun q => ?_⟩⟩
  · refine fstP_eq (n + 1) 0 (by omega) (Nat.zero_le _) (by omega) (by rw [h _ c]; exact fstP_p n 0 c) (fun j _ hj => ?_)
    rw [h j (by omega)]
    exact fstP_lt n 0 (by omega) j (Nat.zero_le j) hj
  · refine fstP_eq (n + 1) 0 (by omega) (Nat.zero_le _) (by omega) q (fun j _ hj => ?_)
    rw [h j hj]
    exact fstP_no n 0 (by omega) c j (Nat.zero_le j) hj
  · refine fstP_none (n + 1) 0 (by omega) (fun j _ hj => ?_)
    by_cases e : j = n
    · rw [e]; exact q
    · rw [h j (by omega)]
      exact fstP_no n 0 (by omega) c j (Nat.zero_le j) (by omega)
def addH (h : AH) (n q p : Nat) (kind len r2 : Int32) (m : UInt32) : AH := hI (hI (hI (hI (hI (hF (hI (hI h 34 n kind) 35 n len) 36 n m) 37 n 0) 41 n (nI p)) 44 (q * 5 + p) (nI n)) 32 2 r2) 32 4 (nI (n + 1))
theorem hF_i {h : AH} {k i a : Nat} {x : UInt32} : (hF h k i x).1 a = h.1 a := rfl
theorem addH_o {h : AH} {n q p : Nat} {kind len r2 : Int32} {m : UInt32} {a : Nat} (e : a ≠ 34 ∧ a ≠ 35 ∧ a ≠ 37 ∧ a ≠ 41 ∧ a ≠ 44 ∧ a ≠ 32) : (addH h n q p kind len r2 m).1 a = h.1 a := by
  unfold addH
  rw [hI_ne e.2.2.2.2.2, hI_ne e.2.2.2.2.2, hI_ne e.2.2.2.2.1, hI_ne e.2.2.2.1, hI_ne e.2.2.1, hF_i, hI_ne e.2.1, hI_ne e.1]
theorem addH_34 {h : AH} {n q p : Nat} {kind len r2 : Int32} {m : UInt32} : (addH h n q p kind len r2 m).1 34 = upd (h.1 34) n kind := by
  unfold addH
  rw [hI_ne (by decide), hI_ne (by decide), hI_ne (by decide), hI_ne (by decide), hI_ne (by decide), hF_i, hI_ne (by decide), hI_at]
theorem addH_35 {h : AH} {n q p : Nat} {kind len r2 : Int32} {m : UInt32} : (addH h n q p kind len r2 m).1 35 = upd (h.1 35) n len := by
  unfold addH
  rw [hI_ne (by decide), hI_ne (by decide), hI_ne (by decide), hI_ne (by decide), hI_ne (by decide), hF_i, hI_at, hI_ne (by decide)]
theorem addH_37 {h : AH} {n q p : Nat} {kind len r2 : Int32} {m : UInt32} : (addH h n q p kind len r2 m).1 37 = upd (h.1 37) n 0 := by
  unfold addH
  rw [hI_ne (by decide), hI_ne (by decide), hI_ne (by decide), hI_ne (by decide), hI_at, hF_i, hI_ne (by decide), hI_ne (by decide)]
theorem addH_41 {h : AH} {n q p : Nat} {kind len r2 : Int32} {m : UInt32} : (addH h n q p kind len r2 m).1 41 = upd (h.1 41) n (nI p) := by
  unfold addH
  rw [hI_ne (by decide), hI_ne (by decide), hI_ne (by decide), hI_at, hI_ne (by decide), hF_i, hI_ne (by decide), hI_ne (by decide)]
theorem addH_44 {h : AH} {n q p : Nat} {kind len r2 : Int32} {m : UInt32} : (addH h n q p kind len r2 m).1 44 = upd (h.1 44) (q * 5 + p) (nI n) := by
  unfold addH
  rw [hI_ne (by decide), hI_ne (by decide), hI_at, hI_ne (by decide), hI_ne (by decide), hF_i, hI_ne (by decide), hI_ne (by decide)]
theorem addH_32 {h : AH} {n q p : Nat} {kind len r2 : Int32} {m : UInt32} : (addH h n q p kind len r2 m).1 32 = upd (upd (h.1 32) 2 r2) 4 (nI (n + 1)) := by
  unfold addH
  rw [hI_at, hI_at, hI_ne (by decide), hI_ne (by decide), hI_ne (by decide), hF_i, hI_ne (by decide), hI_ne (by decide)]
theorem hF_at {h : AH} {k i : Nat} {x : UInt32} : (hF h k i x).2.1 k = vf_upd (h.2.1 k) i x := by
  funext j
  by_cases e : j = i <;> simp [hF, vf_upd, e]
theorem addH_36 {h : AH} {n q p : Nat} {kind len r2 : Int32} {m : UInt32} : (addH h n q p kind len r2 m).2.1 36 = vf_upd (h.2.1 36) n m := by
  unfold addH
  show (hF _ 36 n m).2.1 36 = _
  rw [hF_at]
  rfl
theorem hF_ne {h : AH} {k i a : Nat} {x : UInt32} (e : a ≠ k) : (hF h k i x).2.1 a = h.2.1 a := by
  funext j
  simp [hF, e]
theorem Pal_add {h : AH} {r : Nat → Int32} {w : Nat → UInt32} (P : Pal h 32 r w) (hw : Wel r) (hn : CN r < 40) {q p : Nat} (hq : q < 2) (hp : p < 5) (hf : ¬ blkIn r (nI q) (nI p) < CN r) {len : Int32} {m : UInt32} : Pal (addH h (CN r) q p (nI q) len (r 2 - len) m) 32 (sawR r (nI q) len (nI p)) (vf_upd w (CN r) m) := by
  obtain ⟨p1, p2, p3, p4, p5, p6⟩ := P
  obtain ⟨e4, eC⟩ := saw_CN hw (kind := nI q) (len := len) (pl := nI p)
  obtain ⟨n0, n1, n2, n3, n4, n5, n6, n7⟩ := saw_n (r := r) (kind := nI q) (len := len) (pl := nI p)
  have eb : ∀ b x, b < CN r → x < 8 → ofB (sawR r (nI q) len (nI p)) b x = ofB r b x := fun b x hb hx => saw_b (by omega) hx
  obtain ⟨u1, u2, u3, u4, u5, u6⟩ := p4 (CN r) (Nat.le_refl _) hn
  refine ⟨fun i hi => ?_, fun i hi => ?_, fun b hb => ?_, fun b hb hb2 => ?_, fun i hi => ?_, fun q2 p2' hq2 hp2 => ?_⟩
  · rw [addH_32]
    by_cases c4 : i = 4
    · subst c4; rw [upd_eq, e4]
    · rw [upd_ne c4]
      by_cases c2 : i = 2
      · subst c2; rw [upd_eq, saw_2]
      · rw [upd_ne c2, saw_hd (by omega) c2 c4]
        exact p1 i hi
  · rw [addH_o (by decide), saw_hd (by omega) (by omega) (by omega)]
    exact p2 i hi
  · rw [eC] at hb
    by_cases e : b = CN r
    · subst e
      refine ⟨by rw [addH_34, upd_eq, n0], by rw [addH_35, upd_eq, n1], by rw [addH_36]; unfold vf_upd; rw [if_pos rfl, if_pos rfl], fun o h2 h8 => ?_⟩
      rcases (show o = 2 ∨ o = 3 ∨ o = 4 ∨ o = 5 ∨ o = 6 ∨ o = 7 by omega) with rfl | rfl | rfl | rfl | rfl | rfl
      · rw [addH_37, upd_eq, n2]
      · rw [addH_o (by decide), n3]; exact u2
      · rw [addH_o (by decide), n4]; exact u3
      · rw [addH_o (by decide), n5]; exact u4
      · rw [addH_41, upd_eq, n6]
      · rw [addH_o (by decide), n7]; exact u6
    · have hb2 : b < CN r := by omega
      obtain ⟨a1, a2, a3, a4⟩ := p3 b hb2
      refine ⟨by rw [addH_34, upd_ne e, eb b 0 hb2 (by decide)]; exact a1, by rw [addH_35, upd_ne e, eb b 1 hb2 (by decide)]; exact a2, by rw [addH_36]; unfold vf_upd; rw [if_neg e, if_neg e]; exact a3, fun o h2 h8 => ?_⟩
      rw [eb b o hb2 h8]
      have z := a4 o h2 h8
      rcases (show o = 2 ∨ o = 3 ∨ o = 4 ∨ o = 5 ∨ o = 6 ∨ o = 7 by omega) with rfl | rfl | rfl | rfl | rfl | rfl
      · rw [addH_37, upd_ne e]; exact z
      · rw [addH_o (by decide)]; exact z
      · rw [addH_o (by decide)]; exact z
      · rw [addH_o (by decide)]; exact z
      · rw [addH_41, upd_ne e]; exact z
      · rw [addH_o (by decide)]; exact z
  · rw [eC] at hb
    obtain ⟨v1, v2, v3, v4, v5, v6⟩ := p4 b (by omega) hb2
    have e : b ≠ CN r := by omega
    exact ⟨by rw [addH_37, upd_ne e]; exact v1, by rw [addH_o (by decide)]; exact v2, by rw [addH_o (by decide)]; exact v3, by rw [addH_o (by decide)]; exact v4, by rw [addH_41, upd_ne e]; exact v5, by rw [addH_o (by decide)]; exact v6⟩
  · rw [addH_o (by decide), saw_hd (by omega) (by omega) (by omega)]
    exact p5 i hi
  · rw [addH_44, eC]
    have hx := fstP_ext (p := inP r (nI q2) (nI p2')) (p' := inP (sawR r (nI q) len (nI p)) (nI q2) (nI p2')) (n := CN r) (fun j hj => by
      unfold inP
      rw [eb j 2 hj (by decide), eb j 0 hj (by decide), eb j 6 hj (by decide)])
    have eB : blkIn (sawR r (nI q) len (nI p)) (nI q2) (nI p2') = fstP (inP (sawR r (nI q) len (nI p)) (nI q2) (nI p2')) (CN r + 1) (CN r + 1) 0 := by
      show fstP _ (CN (sawR r (nI q) len (nI p))) (CN (sawR r (nI q) len (nI p))) 0 = _
      rw [eC]
    rw [eB]
    by_cases e : q2 = q ∧ p2' = p
    · obtain ⟨rfl, rfl⟩ := e
      rw [upd_eq, (hx.2 hf).1 (decide_eq_true ⟨n2, n0, n6⟩), orM_t (by omega)]
    · rw [upd_ne (by omega)]
      show h.1 44 (q2 * 5 + p2') = _
      rw [p6 q2 p2' hq2 hp2]
      have nn : ¬ inP (sawR r (nI q) len (nI p)) (nI q2) (nI p2') (CN r) = true := fun z => by
        obtain ⟨-, z2, z3⟩ := of_decide_eq_true z
        rw [n0] at z2
        rw [n6] at z3
        exact e ⟨((nI_eq (by omega) (by omega)).mp z2).symm, ((nI_eq (by omega) (by omega)).mp z3).symm⟩
      by_cases c : blkIn r (nI q2) (nI p2') < CN r
      · rw [hx.1 c, orM_t c, orM_t (Nat.lt_succ_of_lt c)]
      · rw [(hx.2 c).2 nn]
        unfold orM
        rw [if_neg c, if_neg (by omega)]
theorem FrP_add {h : AH} {n q p : Nat} {kind len r2 : Int32} {m : UInt32} : FrP 32 h (addH h n q p kind len r2 m) := by
  refine ⟨fun a ha => ⟨addH_o (by omega), ?_⟩, rfl⟩
  show (hF _ 36 n m).2.1 a = _
  rw [hF_ne (by omega)]
  rfl
abbrev addX (h : AH) (n i : Nat) (p kind len : Int32) (m : UInt32) : AH := hI (hI (hI (hF (hI (hI h 34 n kind) 35 n len) 36 n m) 37 n 0) 41 n p) 44 i (nI n)
theorem addX_32 {h : AH} {n i : Nat} {p kind len : Int32} {m : UInt32} : (addX h n i p kind len m).1 32 = h.1 32 := by
  show (hI _ 44 i (nI n)).1 32 = _
  rw [hI_ne (by decide), hI_ne (by decide), hI_ne (by decide), hF_i, hI_ne (by decide), hI_ne (by decide)]
theorem p_addBlock (d : Nat) {h : AH} {r : Nat → Int32} {w : Nat → UInt32} {B : Nat} (P : Pal h 32 r w) (I : Inv B r w) {kind len rack : Int32} (hC : sawC r kind len rack = 0) : WM (d + 2) mX8_addBlock [.ref 32, .int kind, .int len, .int rack] h (fun v h' => v = some (.int (nI (CN r))) ∧ Pal h' 32 (sawR r kind len (nI (freeP r rack))) (vf_upd w (CN r) (sawM r kind len)) ∧ FrP 32 h h') := by
  have hw := I.1.1
  obtain ⟨q7, L, T, l, hq, hr, hk, hl, hL1, hL6, hT, hT10, hT60, h40, hf, hl2, hLl, h200⟩ := saw_facts I.2.2.2.2.2.2.2 I.2.2.2.2.2.2.1 hw hC
  subst hr
  subst hk
  have Fp := p_freeP (d + 0) palL32 P (by omega) hq
  rw [orM_t hf] at Fp
  have R := p_isRack (d + 1) (nI q7) h
  have e1 := P.hd (i := 1) (by decide)
  have e2 := P.hd (i := 2) (by decide)
  have e4 : h.1 32 4 = nI (CN r) := (P.hd (i := 4) (by decide)).trans hw.1
  have hfree := of_decide_eq_true (fstP_p (p := frP r (nI q7)) (n := 5) 5 0 hf)
  have PA := Pal_add P hw h40 hq hf hfree (len := len) (m := sawM r (nI q7) len)
  have FA := FrP_add (h := h) (n := CN r) (q := q7) (p := freeP r (nI q7)) (kind := nI q7) (len := len) (r2 := r 2 - len) (m := sawM r (nI q7) len)
  obtain ⟨n1, n2, n3, n4, n5⟩ := new_ok L (List.mem_range.mpr (by omega)) (by omega) T (List.mem_range.mpr (by omega)) hT10
  have n1' : nn (FP.fmul (FP.i2f len) (FP.i2f (r 1))) := by rw [hl, hT]; exact nn_of n1
  have rk : bI (0 ≤ nI q7 ∧ nI q7 < 2) ≠ 0 := bI_ne.mpr ⟨nI_pos' (by omega), lt2.mpr (nI_le (b := 1) (by omega) (by decide))⟩
  have ei : (nI q7) * 5 + nI (freeP r (nI q7)) = nI (q7 * 5 + freeP r (nI q7)) := by rw [show (5 : Int32) = nI 5 from rfl, pk_mul, nI_add]
  have g1 : (hI (hI h 34 (CN r) (nI q7)) 35 (CN r) len).1 32 1 = r 1 := by rw [hI_ne (by decide), hI_ne (by decide)]; exact e1
  have g2 : ∀ p m, (addX h (CN r) (q7 * 5 + freeP r (nI q7)) p (nI q7) len m).1 32 2 = r 2 := fun p m => by rw [addX_32]; exact e2
  have g4 : ∀ p m, (hI (addX h (CN r) (q7 * 5 + freeP r (nI q7)) p (nI q7) len m) 32 2 (r 2 - len)).1 32 4 = nI (CN r) := fun p m => by rw [hI_at, upd_ne (by decide), addX_32]; exact e4
  by_cases k0 : nI q7 = 0
  · have em : sawM r (nI q7) len = FP.fmul (FP.fmul (FP.i2f len) (FP.i2f (r 1))) 0x3f800000 := by unfold sawM; rw [if_pos k0]
    have n2' : nn (FP.fmul (FP.fmul (FP.i2f len) (FP.i2f (r 1))) 0x3f800000) := by rw [hl, hT]; exact nn_of (Nat.lt_of_le_of_lt n3 (by decide))
    rw [em] at PA FA ⊢
    show WX _ _ 0 [(0, _), (1, _), (2, _), (3, _)] [] _ _
    iterate 2 refine ex_s rfl ?_
    rw [show fv 0 (h.1 32 4) = Value.int (nI (CN r)) from congrArg Value.int e4]
    iterate 3 refine ex_s rfl ?_
    refine ex_c rfl rfl ⟨Nat.le_of_ble_eq_true rfl, Nat.le_of_ble_eq_true rfl⟩ (Fp) ?_
    iterate 2 refine ex_s rfl ?_
    refine ex_b rfl rfl (fun q => absurd q (lt0 (by omega))) (fun _ => ?_)
    iterate 2 refine ex_s rfl ?_
    refine ex_b rfl rfl (fun q => absurd q (nI_ge (b := 40) (by omega) (by omega))) (fun _ => ?_)
    refine ex_s rfl ?_
    refine ex_b rfl rfl (fun q => absurd q (lt0 (by omega))) (fun _ => ?_)
    refine ex_s rfl ?_
    refine ex_c rfl rfl ⟨Nat.le_of_ble_eq_true rfl, Nat.le_of_ble_eq_true rfl⟩ (R) ?_
    refine ex_b rfl rfl (fun _ => ?_) (fun q => absurd rk q)
    iterate 4 refine ex_s rfl ?_
    refine ex_is rfl rfl (vi) ?_
    iterate 4 refine ex_s rfl ?_
    refine ex_is rfl rfl (vi) ?_
    iterate 7 refine ex_s rfl ?_
    rw [cl (CN r), show fv 0 ((hI (hI h 34 (CN r) (nI q7)) 35 (CN r) len).1 32 1) = Value.int (r 1) from congrArg Value.int g1]
    refine ex_s rfl ?_
    refine ex_fmul rfl n1' ?_
    refine ex_s rfl ?_
    refine ex_b rfl rfl (fun q => absurd q (fun z => z k0)) (fun _ => ?_)
    refine ex_s rfl ?_
    refine ex_g rfl rfl ?_
    refine ex_fmul rfl n2' ?_
    refine ex_fs rfl rfl (vi) ?_
    iterate 4 refine ex_s rfl ?_
    refine ex_is rfl rfl (vi) ?_
    iterate 4 refine ex_s rfl ?_
    refine ex_is rfl rfl (vi) ?_
    iterate 8 refine ex_s rfl ?_
    rw [ei]
    refine ex_is rfl rfl (vi) ?_
    iterate 3 refine ex_s rfl ?_
    rw [cl (CN r), cl (q7 * 5 + freeP r (nI q7)), show fv 0 ((addX h (CN r) (q7 * 5 + freeP r (nI q7)) (nI (freeP r (nI q7))) (nI q7) len (FP.fmul (FP.fmul (FP.i2f len) (FP.i2f (r 1))) 0x3f800000)).1 32 2) = Value.int (r 2) from congrArg Value.int (g2 _ _)]
    iterate 6 refine ex_s rfl ?_
    rw [show fv 0 ((hI (addX h (CN r) (q7 * 5 + freeP r (nI q7)) (nI (freeP r (nI q7))) (nI q7) len (FP.fmul (FP.fmul (FP.i2f len) (FP.i2f (r 1))) 0x3f800000)) 32 2 (r 2 - len)).1 32 4) = Value.int (nI (CN r)) from congrArg Value.int (g4 _ _)]
    iterate 2 refine ex_s rfl ?_
    rw [nI_1]
    iterate 2 refine ex_s rfl ?_
    refine ex_q rfl ?_
    exact ⟨rfl, PA, FA⟩
  · have em : sawM r (nI q7) len = FP.fmul (FP.fmul (FP.i2f len) (FP.i2f (r 1))) 0x3f000000 := by unfold sawM; rw [if_neg k0]
    have n2' : nn (FP.fmul (FP.fmul (FP.i2f len) (FP.i2f (r 1))) 0x3f000000) := by rw [hl, hT]; exact nn_of (Nat.lt_of_le_of_lt n5 (by decide))
    rw [em] at PA FA ⊢
    show WX _ _ 0 [(0, _), (1, _), (2, _), (3, _)] [] _ _
    iterate 2 refine ex_s rfl ?_
    rw [show fv 0 (h.1 32 4) = Value.int (nI (CN r)) from congrArg Value.int e4]
    iterate 3 refine ex_s rfl ?_
    refine ex_c rfl rfl ⟨Nat.le_of_ble_eq_true rfl, Nat.le_of_ble_eq_true rfl⟩ (Fp) ?_
    iterate 2 refine ex_s rfl ?_
    refine ex_b rfl rfl (fun q => absurd q (lt0 (by omega))) (fun _ => ?_)
    iterate 2 refine ex_s rfl ?_
    refine ex_b rfl rfl (fun q => absurd q (nI_ge (b := 40) (by omega) (by omega))) (fun _ => ?_)
    refine ex_s rfl ?_
    refine ex_b rfl rfl (fun q => absurd q (lt0 (by omega))) (fun _ => ?_)
    refine ex_s rfl ?_
    refine ex_c rfl rfl ⟨Nat.le_of_ble_eq_true rfl, Nat.le_of_ble_eq_true rfl⟩ (R) ?_
    refine ex_b rfl rfl (fun _ => ?_) (fun q => absurd rk q)
    iterate 4 refine ex_s rfl ?_
    refine ex_is rfl rfl (vi) ?_
    iterate 4 refine ex_s rfl ?_
    refine ex_is rfl rfl (vi) ?_
    iterate 7 refine ex_s rfl ?_
    rw [cl (CN r), show fv 0 ((hI (hI h 34 (CN r) (nI q7)) 35 (CN r) len).1 32 1) = Value.int (r 1) from congrArg Value.int g1]
    refine ex_s rfl ?_
    refine ex_fmul rfl n1' ?_
    refine ex_s rfl ?_
    refine ex_b rfl rfl (fun _ => ?_) (fun q => absurd k0 q)
    refine ex_s rfl ?_
    refine ex_fmul rfl n2' ?_
    refine ex_fs rfl rfl (vi) ?_
    iterate 4 refine ex_s rfl ?_
    refine ex_is rfl rfl (vi) ?_
    iterate 4 refine ex_s rfl ?_
    refine ex_is rfl rfl (vi) ?_
    iterate 8 refine ex_s rfl ?_
    rw [ei]
    refine ex_is rfl rfl (vi) ?_
    iterate 3 refine ex_s rfl ?_
    rw [cl (CN r), cl (q7 * 5 + freeP r (nI q7)), show fv 0 ((addX h (CN r) (q7 * 5 + freeP r (nI q7)) (nI (freeP r (nI q7))) (nI q7) len (FP.fmul (FP.fmul (FP.i2f len) (FP.i2f (r 1))) 0x3f000000)).1 32 2) = Value.int (r 2) from congrArg Value.int (g2 _ _)]
    iterate 6 refine ex_s rfl ?_
    rw [show fv 0 ((hI (addX h (CN r) (q7 * 5 + freeP r (nI q7)) (nI (freeP r (nI q7))) (nI q7) len (FP.fmul (FP.fmul (FP.i2f len) (FP.i2f (r 1))) 0x3f000000)) 32 2 (r 2 - len)).1 32 4) = Value.int (nI (CN r)) from congrArg Value.int (g4 _ _)]
    iterate 2 refine ex_s rfl ?_
    rw [nI_1]
    iterate 2 refine ex_s rfl ?_
    refine ex_q rfl ?_
    exact ⟨rfl, PA, FA⟩
end
