-- needs: 86
noncomputable section
theorem palL78 : PalL 78 := ⟨rfl, rfl, rfl, rfl, rfl, rfl, rfl, rfl, rfl, rfl, rfl, rfl, rfl⟩
theorem houL91 : HouL 91 := ⟨rfl, ⟨rfl, rfl⟩, ⟨rfl, rfl⟩⟩
/-- what looking ahead leaves alone in the class -/
def FrA (h h' : AH) : Prop := ∀ a, (a < 78 ∨ 95 < a) → h'.1 a = h.1 a ∧ h'.2.1 a = h.2.1 a
theorem FrA.tr {a b c : AH} (h1 : FrA a b) (h2 : FrA b c) : FrA a c := fun x hx => ⟨(h2 x hx).1.trans (h1 x hx).1, (h2 x hx).2.trans (h1 x hx).2⟩
theorem FrP.a {h h' : AH} (F : FrP 78 h h') : FrA h h' := fun a ha => F.1 a (by omega)
theorem FrH.a {h h' : AH} (F : FrH 78 91 h h') : FrA h h' := fun a ha => ⟨(F.1 a (by omega)).1 (by omega), (F.1 a (by omega)).2 (by omega)⟩
theorem p_blocksOnWall (d n : Nat) (hn : n ≤ 48) {h : AH} {r : Nat → Int32} {w : Nat → UInt32} {B : Nat} (P : Pal h 32 r w) (hS : Str r) (hs : HS B r w) (hB : B + 48 < 2 ^ 30) : WM (d + 6) mX0_blocksOnWall [.ref 77, .ref 32, .int (nI n)] h (fun v h' => v = some (.int (nI (onN (hoursR n r w)))) ∧ FrA h h') := by
  have A := p_copyFrom (d + 4) palL78 palL32 (by decide) hs.1.2.1 P
  have hh := hours_HS n hs (by omega)
  show WX _ _ 0 [(0, _), (1, _), (2, _)] [] _ _
  iterate 3 refine ex_s rfl ?_
  refine ex_xc rfl rfl ⟨Nat.le_of_ble_eq_true rfl, Nat.le_of_ble_eq_true rfl⟩ (A) (fun rv9 h9 p9 => ?_)
  obtain ⟨rfl, P1, F1⟩ := p9
  iterate 5 refine ex_s rfl ?_
  refine ex_xc rfl rfl ⟨Nat.le_of_ble_eq_true rfl, Nat.le_of_ble_eq_true rfl⟩ (p_letGo (d + 0) n (by omega) palL78 houL91 (by decide) hS hs (by omega) P1) (fun rv9 h9 p9 => ?_)
  obtain ⟨rfl, P2, F2⟩ := p9
  have C := p_countOnWall (d + 4) palL78 P2 hh.1
  iterate 3 refine ex_s rfl ?_
  refine ex_c rfl rfl ⟨Nat.le_of_ble_eq_true rfl, Nat.le_of_ble_eq_true rfl⟩ (C) ?_
  refine ex_q rfl ?_
  exact ⟨rfl, F1.a.tr F2.a⟩
/-- hour by hour -/
theorem p_gone_loop (d : Nat) {h : AH} {r : Nat → Int32} {w : Nat → UInt32} {B : Nat} (hS : Str r) (hs : HS B r w) (hB : B + 97 < 2 ^ 30) : ∀ (m i : Nat) (g : AH), i + m = 96 → Pal g 78 (hoursR i r w) (hoursW i r w) → FrA h g → onN (hoursR i r w) = onN r → gnK r w = fstP (gnP r w) 97 m (i + 1) → WX (d + 6) mX0_hoursToFirstGone 10 [(0, .ref 77), (1, .ref 32), (2, .int (nI (i + 1)))] [] g (fun v h' => v = some (.int (nI (if gnK r w < 97 then gnK r w else 0))) ∧ FrA h h')
  | 0, i, g, hi, P, F, ho, e => by
    have e : gnK r w = 97 := e
    rw [e, if_neg (by decide)]
    have hi : i = 96 := by omega
    subst hi
    iterate 2 refine ex_s rfl ?_
    refine ex_b rfl rfl (fun _ => ?_) (fun q => absurd (by decide) q)
    refine ex_s rfl ?_
    refine ex_q rfl ?_
    exact ⟨rfl, F⟩
  | m + 1, i, g, hi, P, F, ho, e => by
    have hh := hours_HS i hs (by omega)
    have hT := hours_Str i (w := w) hS
    have L := p_letGo (d + 0) 1 (by decide) palL78 houL91 (by decide) hT hh (by omega) P
    have es := hours_s i (r := r) (w := w)
    rw [show hoursR 1 (hoursR i r w) (hoursW i r w) = hoursR (i + 1) r w from es.1.symm, show hoursW 1 (hoursR i r w) (hoursW i r w) = hoursW (i + 1) r w from es.2.symm, ho] at L
    have le := hours_on (i + 1) B hs (by omega)
    have l40 := onN_le hs.1
    by_cases c : onN (hoursR (i + 1) r w) = onN r
    · rw [fstP_f (show ¬ gnP r w (i + 1) = true from fun z => (of_decide_eq_true z) c)] at e
      iterate 2 refine ex_s rfl ?_
      refine ex_b rfl rfl (fun q => absurd q (Int32.not_lt.mpr (nI_le (b := 96) (by omega) (by decide)))) (fun _ => ?_)
      iterate 5 refine ex_s rfl ?_
      refine ex_xc rfl rfl ⟨Nat.le_of_ble_eq_true rfl, Nat.le_of_ble_eq_true rfl⟩ (L) (fun rv9 h9 p9 => ?_)
      obtain ⟨rfl, P2, F2⟩ := p9
      refine ex_b rfl rfl (fun _ => ?_) (fun q => absurd (by rw [c, Int32.sub_self]; exact Int32.le_refl _) q)
      refine ex_s rfl ?_
      refine ex_g rfl rfl ?_
      rw [nI_1]
      exact ex_sub (sub3 rfl rfl rfl) (p_gone_loop d hS hs hB m (i + 1) _ (by omega) P2 (F.tr F2.a) c e)
    · rw [fstP_t (show gnP r w (i + 1) = true from decide_eq_true c)] at e
      rw [e, if_pos (by omega)]
      have es2 : nI (onN r) - nI (onN (hoursR (i + 1) r w)) = nI (onN r - onN (hoursR (i + 1) r w)) := nI_sub le
      iterate 2 refine ex_s rfl ?_
      refine ex_b rfl rfl (fun q => absurd q (Int32.not_lt.mpr (nI_le (b := 96) (by omega) (by decide)))) (fun _ => ?_)
      iterate 5 refine ex_s rfl ?_
      refine ex_xc rfl rfl ⟨Nat.le_of_ble_eq_true rfl, Nat.le_of_ble_eq_true rfl⟩ (L) (fun rv9 h9 p9 => ?_)
      obtain ⟨rfl, P2, F2⟩ := p9
      refine ex_b rfl rfl (fun q => absurd q (by rw [es2]; exact nI_nle (by omega) (by omega))) (fun _ => ?_)
      refine ex_s rfl ?_
      refine ex_q rfl ?_
      exact ⟨rfl, F.tr F2.a⟩
theorem p_firstGone (d : Nat) {h : AH} {r : Nat → Int32} {w : Nat → UInt32} {B : Nat} (P : Pal h 32 r w) (hS : Str r) (hs : HS B r w) (hB : B + 97 < 2 ^ 30) : WM (d + 6) mX0_hoursToFirstGone [.ref 77, .ref 32] h (fun v h' => v = some (.int (nI (if gnK r w < 97 then gnK r w else 0))) ∧ FrA h h') := by
  have A := p_copyFrom (d + 4) palL78 palL32 (by decide) hs.1.2.1 P
  have e0 : gnK r w = fstP (gnP r w) 97 96 1 := fstP_f (show ¬ gnP r w 0 = true from fun z => (of_decide_eq_true z) rfl)
  show WX _ _ 0 [(0, _), (1, _)] [] _ _
  iterate 3 refine ex_s rfl ?_
  refine ex_xc rfl rfl ⟨Nat.le_of_ble_eq_true rfl, Nat.le_of_ble_eq_true rfl⟩ (A) (fun rv9 h9 p9 => ?_)
  obtain ⟨rfl, P1, F1⟩ := p9
  iterate 2 refine ex_s rfl ?_
  exact ex_sub (sub3 rfl rfl rfl) (p_gone_loop d hS hs hB 96 0 _ (by omega) P1 F1.a rfl e0)
end
