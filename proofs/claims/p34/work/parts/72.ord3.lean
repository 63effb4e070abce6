-- needs: 71
noncomputable section
/-- what reading an order leaves: place, number, what was noted -/
def OrdC (h h' : AH) (I : Nat → Int32) (L n : Nat) (w : Bool) (a1 : Nat) (q : Int32 × Int32 × Int32 × Int32) : Prop := OrI h' I L a1 (if w = true then n else n + 1) ∧ FrD n h h' ∧ (w = false → NtA h' n q)
theorem lt0 {v : Nat} (h : v < 2 ^ 31) : ¬ nI v < 0 := Int32.not_lt.mpr (nI_pos' h)
theorem neg1 {x : Int32} : (if true = true then (-1 : Int32) else x) < 0 := by rw [if_pos rfl]; decide
theorem neg1' {x : Int32} : ¬ 0 ≤ (if true = true then (-1 : Int32) else x) := by rw [if_pos rfl]; decide
theorem p_readNumber (d : Nat) {h : AH} {I : Nat → Int32} {L a n : Nat} (H : OrI h I L a n) (hn : n < 60) {o : Int32} (ho : kOk 2 o = true) : WM (d + 1) mX6_readNumber [.ref 206, .int o] h (fun v h' => v = some (.int (bI ((rdOne I L (a, false)).1.2 = false))) ∧ OrdC h h' I L n (rdOne I L (a, false)).1.2 (rdOne I L (a, false)).1.1 (o, (rdOne I L (a, false)).2)) := by
  unfold rdOne
  rcases e : numS I L 2 (a, false) with ⟨v, a1, w⟩
  have hv := numS_v (by decide) e
  cases w
  · show WX _ _ 0 [(0, _), (1, _)] [] _ _
    iterate 2 refine ex_s rfl ?_
    refine ex_xc rfl rfl ⟨Nat.le_of_ble_eq_true rfl, Nat.le_of_ble_eq_true rfl⟩ (p_dig d 2 (by decide) (by decide) H e) (fun rv9 h9 p9 => ?_)
    obtain ⟨rfl, H1, F1⟩ := p9
    iterate 2 refine ex_s rfl ?_
    refine ex_b rfl rfl (fun q => absurd q (lt0 hv)) (fun _ => ?_)
    iterate 5 refine ex_s rfl ?_
    refine ex_xc rfl rfl ⟨Nat.le_of_ble_eq_true rfl, Nat.le_of_ble_eq_true rfl⟩ (p_note d H1 hn ho) (fun rv9 h9 p9 => ?_)
    obtain ⟨rfl, H2, F2, N2⟩ := p9
    refine ex_b rfl rfl (fun q => absurd q (by decide)) (fun _ => ?_)
    refine ex_s rfl ?_
    refine ex_g rfl rfl ?_
    refine ex_q (ret_bK rfl rfl) ?_
    exact ⟨rfl, H2, F1.d.tr F2, fun _ => N2⟩
  · show WX _ _ 0 [(0, _), (1, _)] [] _ _
    iterate 2 refine ex_s rfl ?_
    refine ex_xc rfl rfl ⟨Nat.le_of_ble_eq_true rfl, Nat.le_of_ble_eq_true rfl⟩ (p_dig d 2 (by decide) (by decide) H e) (fun rv9 h9 p9 => ?_)
    obtain ⟨rfl, H1, F1⟩ := p9
    iterate 2 refine ex_s rfl ?_
    refine ex_b rfl rfl (fun _ => ?_) (fun q => absurd neg1 q)
    refine ex_s rfl ?_
    refine ex_q (ret_bK rfl rfl) ?_
    exact ⟨rfl, H1, F1.d, fun q => absurd (show true = false from q) (by decide)⟩
theorem p_readSawing (d : Nat) {h : AH} {I : Nat → Int32} {L a n : Nat} (H : OrI h I L a n) (hn : n < 60) : WM (d + 1) mX6_readSawing [.ref 206] h (fun v h' => v = some (.int (bI ((rdSaw I L (a, false)).1.2 = false))) ∧ OrdC h h' I L n (rdSaw I L (a, false)).1.2 (rdSaw I L (a, false)).1.1 (115, (rdSaw I L (a, false)).2)) := by
  unfold rdSaw
  rcases e1 : numS I L 1 (a, false) with ⟨v1, a1, w1⟩
  have hv1 := numS_v (by decide) e1
  cases w1
  · rcases e2 : numS I L 1 (a1, false) with ⟨v2, a2, w2⟩
    have hv2 := numS_v (by decide) e2
    cases w2
    · rcases e3 : mustS I L (a2, false) 64 with ⟨a3, w3⟩
      cases w3
      · rcases e4 : numS I L 1 (a3, false) with ⟨v4, a4, w4⟩
        have hv4 := numS_v (by decide) e4
        cases w4
        · show WX _ _ 0 [(0, _)] [] _ _
          iterate 2 refine ex_s rfl ?_
          refine ex_xc rfl rfl ⟨Nat.le_of_ble_eq_true rfl, Nat.le_of_ble_eq_true rfl⟩ (p_dig d 1 (by decide) (by decide) H e1) (fun rv9 h9 p9 => ?_)
          obtain ⟨rfl, H1, F1⟩ := p9
          iterate 2 refine ex_s rfl ?_
          refine ex_b rfl rfl (fun _ => ?_) (fun q => absurd (nI_pos' hv1) q)
          iterate 2 refine ex_s rfl ?_
          refine ex_xc rfl rfl ⟨Nat.le_of_ble_eq_true rfl, Nat.le_of_ble_eq_true rfl⟩ (p_dig d 1 (by decide) (by decide) H1 e2) (fun rv9 h9 p9 => ?_)
          obtain ⟨rfl, H2, F2⟩ := p9
          iterate 2 refine ex_s rfl ?_
          refine ex_b rfl rfl (fun q => absurd q (lt0 hv2)) (fun _ => ?_)
          iterate 2 refine ex_s rfl ?_
          refine ex_xc rfl rfl ⟨Nat.le_of_ble_eq_true rfl, Nat.le_of_ble_eq_true rfl⟩ (p_goP d H2 64 e3) (fun rv9 h9 p9 => ?_)
          obtain ⟨rfl, H3, F3⟩ := p9
          refine ex_b rfl rfl (fun _ => ?_) (fun q => absurd (by decide) q)
          iterate 2 refine ex_s rfl ?_
          refine ex_xc rfl rfl ⟨Nat.le_of_ble_eq_true rfl, Nat.le_of_ble_eq_true rfl⟩ (p_dig d 1 (by decide) (by decide) H3 e4) (fun rv9 h9 p9 => ?_)
          obtain ⟨rfl, H4, F4⟩ := p9
          iterate 2 refine ex_s rfl ?_
          refine ex_b rfl rfl (fun q => absurd q (lt0 hv4)) (fun _ => ?_)
          iterate 5 refine ex_s rfl ?_
          refine ex_xc rfl rfl ⟨Nat.le_of_ble_eq_true rfl, Nat.le_of_ble_eq_true rfl⟩ (p_note d H4 hn rfl) (fun rv9 h9 p9 => ?_)
          obtain ⟨rfl, H5, F5, N5⟩ := p9
          refine ex_b rfl rfl (fun q => absurd q (by decide)) (fun _ => ?_)
          refine ex_s rfl ?_
          refine ex_g rfl rfl ?_
          refine ex_q (ret_bK rfl rfl) ?_
          simp only [e1, e2, e3, e4]
          exact ⟨rfl, H5, (((F1.tr F2).tr F3).tr F4).d.tr F5, fun _ => N5⟩
        · show WX _ _ 0 [(0, _)] [] _ _
          iterate 2 refine ex_s rfl ?_
          refine ex_xc rfl rfl ⟨Nat.le_of_ble_eq_true rfl, Nat.le_of_ble_eq_true rfl⟩ (p_dig d 1 (by decide) (by decide) H e1) (fun rv9 h9 p9 => ?_)
          obtain ⟨rfl, H1, F1⟩ := p9
          iterate 2 refine ex_s rfl ?_
          refine ex_b rfl rfl (fun _ => ?_) (fun q => absurd (nI_pos' hv1) q)
          iterate 2 refine ex_s rfl ?_
          refine ex_xc rfl rfl ⟨Nat.le_of_ble_eq_true rfl, Nat.le_of_ble_eq_true rfl⟩ (p_dig d 1 (by decide) (by decide) H1 e2) (fun rv9 h9 p9 => ?_)
          obtain ⟨rfl, H2, F2⟩ := p9
          iterate 2 refine ex_s rfl ?_
          refine ex_b rfl rfl (fun q => absurd q (lt0 hv2)) (fun _ => ?_)
          iterate 2 refine ex_s rfl ?_
          refine ex_xc rfl rfl ⟨Nat.le_of_ble_eq_true rfl, Nat.le_of_ble_eq_true rfl⟩ (p_goP d H2 64 e3) (fun rv9 h9 p9 => ?_)
          obtain ⟨rfl, H3, F3⟩ := p9
          refine ex_b rfl rfl (fun _ => ?_) (fun q => absurd (by decide) q)
          iterate 2 refine ex_s rfl ?_
          refine ex_xc rfl rfl ⟨Nat.le_of_ble_eq_true rfl, Nat.le_of_ble_eq_true rfl⟩ (p_dig d 1 (by decide) (by decide) H3 e4) (fun rv9 h9 p9 => ?_)
          obtain ⟨rfl, H4, F4⟩ := p9
          iterate 2 refine ex_s rfl ?_
          refine ex_b rfl rfl (fun _ => ?_) (fun q => absurd neg1 q)
          refine ex_s rfl ?_
          refine ex_q (ret_bK rfl rfl) ?_
          simp only [e1, e2, e3, e4]
          exact ⟨rfl, H4, (((F1.tr F2).tr F3).tr F4).d, fun q => absurd (show true = false from q) (by decide)⟩
      · show WX _ _ 0 [(0, _)] [] _ _
        iterate 2 refine ex_s rfl ?_
        refine ex_xc rfl rfl ⟨Nat.le_of_ble_eq_true rfl, Nat.le_of_ble_eq_true rfl⟩ (p_dig d 1 (by decide) (by decide) H e1) (fun rv9 h9 p9 => ?_)
        obtain ⟨rfl, H1, F1⟩ := p9
        iterate 2 refine ex_s rfl ?_
        refine ex_b rfl rfl (fun _ => ?_) (fun q => absurd (nI_pos' hv1) q)
        iterate 2 refine ex_s rfl ?_
        refine ex_xc rfl rfl ⟨Nat.le_of_ble_eq_true rfl, Nat.le_of_ble_eq_true rfl⟩ (p_dig d 1 (by decide) (by decide) H1 e2) (fun rv9 h9 p9 => ?_)
        obtain ⟨rfl, H2, F2⟩ := p9
        iterate 2 refine ex_s rfl ?_
        refine ex_b rfl rfl (fun q => absurd q (lt0 hv2)) (fun _ => ?_)
        iterate 2 refine ex_s rfl ?_
        refine ex_xc rfl rfl ⟨Nat.le_of_ble_eq_true rfl, Nat.le_of_ble_eq_true rfl⟩ (p_goP d H2 64 e3) (fun rv9 h9 p9 => ?_)
        obtain ⟨rfl, H3, F3⟩ := p9
        refine ex_b rfl rfl (fun q => absurd q (by decide)) (fun _ => ?_)
        refine ex_s rfl ?_
        refine ex_q (ret_bK rfl rfl) ?_
        simp only [e1, e2, e3, numS_w]
        exact ⟨rfl, H3, ((F1.tr F2).tr F3).d, fun q => absurd (show true = false from q) (by decide)⟩
    · show WX _ _ 0 [(0, _)] [] _ _
      iterate 2 refine ex_s rfl ?_
      refine ex_xc rfl rfl ⟨Nat.le_of_ble_eq_true rfl, Nat.le_of_ble_eq_true rfl⟩ (p_dig d 1 (by decide) (by decide) H e1) (fun rv9 h9 p9 => ?_)
      obtain ⟨rfl, H1, F1⟩ := p9
      iterate 2 refine ex_s rfl ?_
      refine ex_b rfl rfl (fun _ => ?_) (fun q => absurd (nI_pos' hv1) q)
      iterate 2 refine ex_s rfl ?_
      refine ex_xc rfl rfl ⟨Nat.le_of_ble_eq_true rfl, Nat.le_of_ble_eq_true rfl⟩ (p_dig d 1 (by decide) (by decide) H1 e2) (fun rv9 h9 p9 => ?_)
      obtain ⟨rfl, H2, F2⟩ := p9
      iterate 2 refine ex_s rfl ?_
      refine ex_b rfl rfl (fun _ => ?_) (fun q => absurd neg1 q)
      refine ex_s rfl ?_
      refine ex_q (ret_bK rfl rfl) ?_
      simp only [e1, e2, numS_w, mustS_w]
      exact ⟨rfl, H2, (F1.tr F2).d, fun q => absurd (show true = false from q) (by decide)⟩
  · show WX _ _ 0 [(0, _)] [] _ _
    iterate 2 refine ex_s rfl ?_
    refine ex_xc rfl rfl ⟨Nat.le_of_ble_eq_true rfl, Nat.le_of_ble_eq_true rfl⟩ (p_dig d 1 (by decide) (by decide) H e1) (fun rv9 h9 p9 => ?_)
    obtain ⟨rfl, H1, F1⟩ := p9
    iterate 2 refine ex_s rfl ?_
    refine ex_b rfl rfl (fun q => absurd q neg1') (fun _ => ?_)
    refine ex_s rfl ?_
    refine ex_g rfl rfl ?_
    iterate 2 refine ex_s rfl ?_
    refine ex_b rfl rfl (fun _ => ?_) (fun q => absurd (by decide) q)
    refine ex_s rfl ?_
    refine ex_q (ret_bK rfl rfl) ?_
    simp only [e1, numS_w, mustS_w]
    exact ⟨rfl, H1, F1.d, fun q => absurd (show true = false from q) (by decide)⟩
theorem p_readLaying (d : Nat) {h : AH} {I : Nat → Int32} {L a n : Nat} (H : OrI h I L a n) (hn : n < 60) : WM (d + 1) mX6_readLaying [.ref 206] h (fun v h' => v = some (.int (bI ((rdLay I L (a, false)).1.2 = false))) ∧ OrdC h h' I L n (rdLay I L (a, false)).1.2 (rdLay I L (a, false)).1.1 (108, (rdLay I L (a, false)).2)) := by
  unfold rdLay
  rcases e1 : numS I L 2 (a, false) with ⟨v1, a1, w1⟩
  have hv1 := numS_v (by decide) e1
  cases w1
  · rcases e2 : mustS I L (a1, false) 64 with ⟨a2, w2⟩
    cases w2
    · rcases e3 : numS I L 2 (a2, false) with ⟨v3, a3, w3⟩
      have hv3 := numS_v (by decide) e3
      cases w3
      · rcases e4 : mustS I L (a3, false) 47 with ⟨a4, w4⟩
        cases w4
        · rcases e5 : numS I L 1 (a4, false) with ⟨v5, a5, w5⟩
          have hv5 := numS_v (by decide) e5
          cases w5
          · show WX _ _ 0 [(0, _)] [] _ _
            iterate 2 refine ex_s rfl ?_
            refine ex_xc rfl rfl ⟨Nat.le_of_ble_eq_true rfl, Nat.le_of_ble_eq_true rfl⟩ (p_dig d 2 (by decide) (by decide) H e1) (fun rv9 h9 p9 => ?_)
            obtain ⟨rfl, H1, F1⟩ := p9
            iterate 2 refine ex_s rfl ?_
            refine ex_b rfl rfl (fun q => absurd q (lt0 hv1)) (fun _ => ?_)
            iterate 2 refine ex_s rfl ?_
            refine ex_xc rfl rfl ⟨Nat.le_of_ble_eq_true rfl, Nat.le_of_ble_eq_true rfl⟩ (p_goP d H1 64 e2) (fun rv9 h9 p9 => ?_)
            obtain ⟨rfl, H2, F2⟩ := p9
            refine ex_b rfl rfl (fun _ => ?_) (fun q => absurd (by decide) q)
            iterate 2 refine ex_s rfl ?_
            refine ex_xc rfl rfl ⟨Nat.le_of_ble_eq_true rfl, Nat.le_of_ble_eq_true rfl⟩ (p_dig d 2 (by decide) (by decide) H2 e3) (fun rv9 h9 p9 => ?_)
            obtain ⟨rfl, H3, F3⟩ := p9
            iterate 2 refine ex_s rfl ?_
            refine ex_b rfl rfl (fun q => absurd q (lt0 hv3)) (fun _ => ?_)
            iterate 2 refine ex_s rfl ?_
            refine ex_xc rfl rfl ⟨Nat.le_of_ble_eq_true rfl, Nat.le_of_ble_eq_true rfl⟩ (p_goP d H3 47 e4) (fun rv9 h9 p9 => ?_)
            obtain ⟨rfl, H4, F4⟩ := p9
            refine ex_b rfl rfl (fun _ => ?_) (fun q => absurd (by decide) q)
            iterate 2 refine ex_s rfl ?_
            refine ex_xc rfl rfl ⟨Nat.le_of_ble_eq_true rfl, Nat.le_of_ble_eq_true rfl⟩ (p_dig d 1 (by decide) (by decide) H4 e5) (fun rv9 h9 p9 => ?_)
            obtain ⟨rfl, H5, F5⟩ := p9
            iterate 2 refine ex_s rfl ?_
            refine ex_b rfl rfl (fun q => absurd q (lt0 hv5)) (fun _ => ?_)
            iterate 5 refine ex_s rfl ?_
            refine ex_xc rfl rfl ⟨Nat.le_of_ble_eq_true rfl, Nat.le_of_ble_eq_true rfl⟩ (p_note d H5 hn rfl) (fun rv9 h9 p9 => ?_)
            obtain ⟨rfl, H6, F6, N6⟩ := p9
            refine ex_b rfl rfl (fun q => absurd q (by decide)) (fun _ => ?_)
            refine ex_s rfl ?_
            refine ex_g rfl rfl ?_
            refine ex_q (ret_bK rfl rfl) ?_
            simp only [e1, e2, e3, e4, e5]
            exact ⟨rfl, H6, ((((F1.tr F2).tr F3).tr F4).tr F5).d.tr F6, fun _ => N6⟩
          · show WX _ _ 0 [(0, _)] [] _ _
            iterate 2 refine ex_s rfl ?_
            refine ex_xc rfl rfl ⟨Nat.le_of_ble_eq_true rfl, Nat.le_of_ble_eq_true rfl⟩ (p_dig d 2 (by decide) (by decide) H e1) (fun rv9 h9 p9 => ?_)
            obtain ⟨rfl, H1, F1⟩ := p9
            iterate 2 refine ex_s rfl ?_
            refine ex_b rfl rfl (fun q => absurd q (lt0 hv1)) (fun _ => ?_)
            iterate 2 refine ex_s rfl ?_
            refine ex_xc rfl rfl ⟨Nat.le_of_ble_eq_true rfl, Nat.le_of_ble_eq_true rfl⟩ (p_goP d H1 64 e2) (fun rv9 h9 p9 => ?_)
            obtain ⟨rfl, H2, F2⟩ := p9
            refine ex_b rfl rfl (fun _ => ?_) (fun q => absurd (by decide) q)
            iterate 2 refine ex_s rfl ?_
            refine ex_xc rfl rfl ⟨Nat.le_of_ble_eq_true rfl, Nat.le_of_ble_eq_true rfl⟩ (p_dig d 2 (by decide) (by decide) H2 e3) (fun rv9 h9 p9 => ?_)
            obtain ⟨rfl, H3, F3⟩ := p9
            iterate 2 refine ex_s rfl ?_
            refine ex_b rfl rfl (fun q => absurd q (lt0 hv3)) (fun _ => ?_)
            iterate 2 refine ex_s rfl ?_
            refine ex_xc rfl rfl ⟨Nat.le_of_ble_eq_true rfl, Nat.le_of_ble_eq_true rfl⟩ (p_goP d H3 47 e4) (fun rv9 h9 p9 => ?_)
            obtain ⟨rfl, H4, F4⟩ := p9
            refine ex_b rfl rfl (fun _ => ?_) (fun q => absurd (by decide) q)
            iterate 2 refine ex_s rfl ?_
            refine ex_xc rfl rfl ⟨Nat.le_of_ble_eq_true rfl, Nat.le_of_ble_eq_true rfl⟩ (p_dig d 1 (by decide) (by decide) H4 e5) (fun rv9 h9 p9 => ?_)
            obtain ⟨rfl, H5, F5⟩ := p9
            iterate 2 refine ex_s rfl ?_
            refine ex_b rfl rfl (fun _ => ?_) (fun q => absurd neg1 q)
            refine ex_s rfl ?_
            refine ex_q (ret_bK rfl rfl) ?_
            simp only [e1, e2, e3, e4, e5]
            exact ⟨rfl, H5, ((((F1.tr F2).tr F3).tr F4).tr F5).d, fun q => absurd (show true = false from q) (by decide)⟩
        · show WX _ _ 0 [(0, _)] [] _ _
          iterate 2 refine ex_s rfl ?_
          refine ex_xc rfl rfl ⟨Nat.le_of_ble_eq_true rfl, Nat.le_of_ble_eq_true rfl⟩ (p_dig d 2 (by decide) (by decide) H e1) (fun rv9 h9 p9 => ?_)
          obtain ⟨rfl, H1, F1⟩ := p9
          iterate 2 refine ex_s rfl ?_
          refine ex_b rfl rfl (fun q => absurd q (lt0 hv1)) (fun _ => ?_)
          iterate 2 refine ex_s rfl ?_
          refine ex_xc rfl rfl ⟨Nat.le_of_ble_eq_true rfl, Nat.le_of_ble_eq_true rfl⟩ (p_goP d H1 64 e2) (fun rv9 h9 p9 => ?_)
          obtain ⟨rfl, H2, F2⟩ := p9
          refine ex_b rfl rfl (fun _ => ?_) (fun q => absurd (by decide) q)
          iterate 2 refine ex_s rfl ?_
          refine ex_xc rfl rfl ⟨Nat.le_of_ble_eq_true rfl, Nat.le_of_ble_eq_true rfl⟩ (p_dig d 2 (by decide) (by decide) H2 e3) (fun rv9 h9 p9 => ?_)
          obtain ⟨rfl, H3, F3⟩ := p9
          iterate 2 refine ex_s rfl ?_
          refine ex_b rfl rfl (fun q => absurd q (lt0 hv3)) (fun _ => ?_)
          iterate 2 refine ex_s rfl ?_
          refine ex_xc rfl rfl ⟨Nat.le_of_ble_eq_true rfl, Nat.le_of_ble_eq_true rfl⟩ (p_goP d H3 47 e4) (fun rv9 h9 p9 => ?_)
          obtain ⟨rfl, H4, F4⟩ := p9
          refine ex_b rfl rfl (fun q => absurd q (by decide)) (fun _ => ?_)
          refine ex_s rfl ?_
          refine ex_q (ret_bK rfl rfl) ?_
          simp only [e1, e2, e3, e4, numS_w]
          exact ⟨rfl, H4, (((F1.tr F2).tr F3).tr F4).d, fun q => absurd (show true = false from q) (by decide)⟩
      · show WX _ _ 0 [(0, _)] [] _ _
        iterate 2 refine ex_s rfl ?_
        refine ex_xc rfl rfl ⟨Nat.le_of_ble_eq_true rfl, Nat.le_of_ble_eq_true rfl⟩ (p_dig d 2 (by decide) (by decide) H e1) (fun rv9 h9 p9 => ?_)
        obtain ⟨rfl, H1, F1⟩ := p9
        iterate 2 refine ex_s rfl ?_
        refine ex_b rfl rfl (fun q => absurd q (lt0 hv1)) (fun _ => ?_)
        iterate 2 refine ex_s rfl ?_
        refine ex_xc rfl rfl ⟨Nat.le_of_ble_eq_true rfl, Nat.le_of_ble_eq_true rfl⟩ (p_goP d H1 64 e2) (fun rv9 h9 p9 => ?_)
        obtain ⟨rfl, H2, F2⟩ := p9
        refine ex_b rfl rfl (fun _ => ?_) (fun q => absurd (by decide) q)
        iterate 2 refine ex_s rfl ?_
        refine ex_xc rfl rfl ⟨Nat.le_of_ble_eq_true rfl, Nat.le_of_ble_eq_true rfl⟩ (p_dig d 2 (by decide) (by decide) H2 e3) (fun rv9 h9 p9 => ?_)
        obtain ⟨rfl, H3, F3⟩ := p9
        iterate 2 refine ex_s rfl ?_
        refine ex_b rfl rfl (fun _ => ?_) (fun q => absurd neg1 q)
        refine ex_s rfl ?_
        refine ex_q (ret_bK rfl rfl) ?_
        simp only [e1, e2, e3, mustS_w, numS_w]
        exact ⟨rfl, H3, ((F1.tr F2).tr F3).d, fun q => absurd (show true = false from q) (by decide)⟩
    · show WX _ _ 0 [(0, _)] [] _ _
      iterate 2 refine ex_s rfl ?_
      refine ex_xc rfl rfl ⟨Nat.le_of_ble_eq_true rfl, Nat.le_of_ble_eq_true rfl⟩ (p_dig d 2 (by decide) (by decide) H e1) (fun rv9 h9 p9 => ?_)
      obtain ⟨rfl, H1, F1⟩ := p9
      iterate 2 refine ex_s rfl ?_
      refine ex_b rfl rfl (fun q => absurd q (lt0 hv1)) (fun _ => ?_)
      iterate 2 refine ex_s rfl ?_
      refine ex_xc rfl rfl ⟨Nat.le_of_ble_eq_true rfl, Nat.le_of_ble_eq_true rfl⟩ (p_goP d H1 64 e2) (fun rv9 h9 p9 => ?_)
      obtain ⟨rfl, H2, F2⟩ := p9
      refine ex_b rfl rfl (fun q => absurd q (by decide)) (fun _ => ?_)
      refine ex_s rfl ?_
      refine ex_q (ret_bK rfl rfl) ?_
      simp only [e1, e2, mustS_w, numS_w]
      exact ⟨rfl, H2, (F1.tr F2).d, fun q => absurd (show true = false from q) (by decide)⟩
  · show WX _ _ 0 [(0, _)] [] _ _
    iterate 2 refine ex_s rfl ?_
    refine ex_xc rfl rfl ⟨Nat.le_of_ble_eq_true rfl, Nat.le_of_ble_eq_true rfl⟩ (p_dig d 2 (by decide) (by decide) H e1) (fun rv9 h9 p9 => ?_)
    obtain ⟨rfl, H1, F1⟩ := p9
    iterate 2 refine ex_s rfl ?_
    refine ex_b rfl rfl (fun _ => ?_) (fun q => absurd neg1 q)
    refine ex_s rfl ?_
    refine ex_q (ret_bK rfl rfl) ?_
    simp only [e1, mustS_w, numS_w]
    exact ⟨rfl, H1, F1.d, fun q => absurd (show true = false from q) (by decide)⟩
theorem neg_see {I : Nat → Int32} {L a : Nat} : mustS I L (a, false) 45 = ((negS I L (a, false)).1, decide (¬ seeB I L (a, false) 45 45 = true)) ∧ negS I L (a, false) = ((negS I L (a, false)).1, false) := by
  refine ⟨?_, rfl⟩
  by_cases c : seeB I L (a, false) 45 45 = true
  · rw [mustS_t c, decide_eq_false (fun q => q c)]
    unfold negS
    rw [if_pos c]
  · rw [mustS_f c, decide_eq_true c]
    unfold negS
    rw [if_neg c]
    rfl
theorem mul_m1 (x : Int32) : x * -1 = -x := by
  rw [Int32.mul_neg, Int32.mul_one]
theorem p_readTemperature (d : Nat) {h : AH} {I : Nat → Int32} {L a n : Nat} (H : OrI h I L a n) (hn : n < 60) : WM (d + 1) mX6_readTemperature [.ref 206] h (fun v h' => v = some (.int (bI ((rdHeat I L (a, false)).1.2 = false))) ∧ OrdC h h' I L n (rdHeat I L (a, false)).1.2 (rdHeat I L (a, false)).1.1 (116, (rdHeat I L (a, false)).2)) := by
  unfold rdHeat
  rcases e1 : numS I L 2 (a, false) with ⟨v1, a1, w1⟩
  have hv1 := numS_v (by decide) e1
  cases w1
  · rcases e2 : mustS I L (a1, false) 61 with ⟨a2, w2⟩
    cases w2
    · rcases e3 : negS I L (a2, false) with ⟨a3, w3⟩
      have m3 := (neg_see (I := I) (L := L) (a := a2)).1
      have n3 := (neg_see (I := I) (L := L) (a := a2)).2
      rw [e3] at m3 n3
      have w3f : w3 = false := congrArg Prod.snd n3
      subst w3f
      rcases e5 : numS I L 2 (a3, false) with ⟨v5, a5, w5⟩
      have hv5 := numS_v (by decide) e5
      by_cases c : seeB I L (a2, false) 45 45 = true
      · have m3 : mustS I L (a2, false) 45 = (a3, false) := by rw [m3, decide_eq_false (fun q => q c)]
        have ng : negI I L (a2, false) = -1 := if_pos c
        cases w5
        · show WX _ _ 0 [(0, _)] [] _ _
          iterate 2 refine ex_s rfl ?_
          refine ex_xc rfl rfl ⟨Nat.le_of_ble_eq_true rfl, Nat.le_of_ble_eq_true rfl⟩ (p_dig d 2 (by decide) (by decide) H e1) (fun rv9 h9 p9 => ?_)
          obtain ⟨rfl, H1, F1⟩ := p9
          iterate 2 refine ex_s rfl ?_
          refine ex_b rfl rfl (fun q => absurd q (lt0 hv1)) (fun _ => ?_)
          iterate 2 refine ex_s rfl ?_
          refine ex_xc rfl rfl ⟨Nat.le_of_ble_eq_true rfl, Nat.le_of_ble_eq_true rfl⟩ (p_goP d H1 61 e2) (fun rv9 h9 p9 => ?_)
          obtain ⟨rfl, H2, F2⟩ := p9
          refine ex_b rfl rfl (fun _ => ?_) (fun q => absurd (by decide) q)
          iterate 2 refine ex_s rfl ?_
          refine ex_xc rfl rfl ⟨Nat.le_of_ble_eq_true rfl, Nat.le_of_ble_eq_true rfl⟩ (p_goP d H2 45 m3) (fun rv9 h9 p9 => ?_)
          obtain ⟨rfl, H3, F3⟩ := p9
          iterate 3 refine ex_s rfl ?_
          refine ex_xc rfl rfl ⟨Nat.le_of_ble_eq_true rfl, Nat.le_of_ble_eq_true rfl⟩ (p_dig d 2 (by decide) (by decide) H3 e5) (fun rv9 h9 p9 => ?_)
          obtain ⟨rfl, H5, F5⟩ := p9
          iterate 2 refine ex_s rfl ?_
          refine ex_b rfl rfl (fun q => absurd q (lt0 hv5)) (fun _ => ?_)
          iterate 4 refine ex_s rfl ?_
          refine ex_b rfl rfl (fun q => absurd q (by decide)) (fun _ => ?_)
          iterate 2 refine ex_s rfl ?_
          refine ex_g rfl rfl ?_
          refine ex_s rfl ?_
          refine ex_xc rfl rfl ⟨Nat.le_of_ble_eq_true rfl, Nat.le_of_ble_eq_true rfl⟩ (p_note d H5 hn rfl) (fun rv9 h9 p9 => ?_)
          obtain ⟨rfl, H6, F6, N6⟩ := p9
          refine ex_b rfl rfl (fun q => absurd q (by decide)) (fun _ => ?_)
          refine ex_s rfl ?_
          refine ex_g rfl rfl ?_
          refine ex_q (ret_bK rfl rfl) ?_
          simp only [e1, e2, e3, e5]
          rw [ng, mul_m1]
          exact ⟨rfl, H6, (((F1.tr F2).tr F3).tr F5).d.tr F6, fun _ => N6⟩
        · show WX _ _ 0 [(0, _)] [] _ _
          iterate 2 refine ex_s rfl ?_
          refine ex_xc rfl rfl ⟨Nat.le_of_ble_eq_true rfl, Nat.le_of_ble_eq_true rfl⟩ (p_dig d 2 (by decide) (by decide) H e1) (fun rv9 h9 p9 => ?_)
          obtain ⟨rfl, H1, F1⟩ := p9
          iterate 2 refine ex_s rfl ?_
          refine ex_b rfl rfl (fun q => absurd q (lt0 hv1)) (fun _ => ?_)
          iterate 2 refine ex_s rfl ?_
          refine ex_xc rfl rfl ⟨Nat.le_of_ble_eq_true rfl, Nat.le_of_ble_eq_true rfl⟩ (p_goP d H1 61 e2) (fun rv9 h9 p9 => ?_)
          obtain ⟨rfl, H2, F2⟩ := p9
          refine ex_b rfl rfl (fun _ => ?_) (fun q => absurd (by decide) q)
          iterate 2 refine ex_s rfl ?_
          refine ex_xc rfl rfl ⟨Nat.le_of_ble_eq_true rfl, Nat.le_of_ble_eq_true rfl⟩ (p_goP d H2 45 m3) (fun rv9 h9 p9 => ?_)
          obtain ⟨rfl, H3, F3⟩ := p9
          iterate 3 refine ex_s rfl ?_
          refine ex_xc rfl rfl ⟨Nat.le_of_ble_eq_true rfl, Nat.le_of_ble_eq_true rfl⟩ (p_dig d 2 (by decide) (by decide) H3 e5) (fun rv9 h9 p9 => ?_)
          obtain ⟨rfl, H5, F5⟩ := p9
          iterate 2 refine ex_s rfl ?_
          refine ex_b rfl rfl (fun _ => ?_) (fun q => absurd neg1 q)
          refine ex_s rfl ?_
          refine ex_q (ret_bK rfl rfl) ?_
          simp only [e1, e2, e3, e5]
          exact ⟨rfl, H5, (((F1.tr F2).tr F3).tr F5).d, fun q => absurd (show true = false from q) (by decide)⟩
      · have m3 : mustS I L (a2, false) 45 = (a3, true) := by rw [m3, decide_eq_true c]
        have ng : negI I L (a2, false) = 1 := if_neg c
        cases w5
        · show WX _ _ 0 [(0, _)] [] _ _
          iterate 2 refine ex_s rfl ?_
          refine ex_xc rfl rfl ⟨Nat.le_of_ble_eq_true rfl, Nat.le_of_ble_eq_true rfl⟩ (p_dig d 2 (by decide) (by decide) H e1) (fun rv9 h9 p9 => ?_)
          obtain ⟨rfl, H1, F1⟩ := p9
          iterate 2 refine ex_s rfl ?_
          refine ex_b rfl rfl (fun q => absurd q (lt0 hv1)) (fun _ => ?_)
          iterate 2 refine ex_s rfl ?_
          refine ex_xc rfl rfl ⟨Nat.le_of_ble_eq_true rfl, Nat.le_of_ble_eq_true rfl⟩ (p_goP d H1 61 e2) (fun rv9 h9 p9 => ?_)
          obtain ⟨rfl, H2, F2⟩ := p9
          refine ex_b rfl rfl (fun _ => ?_) (fun q => absurd (by decide) q)
          iterate 2 refine ex_s rfl ?_
          refine ex_xc rfl rfl ⟨Nat.le_of_ble_eq_true rfl, Nat.le_of_ble_eq_true rfl⟩ (p_goP d H2 45 m3) (fun rv9 h9 p9 => ?_)
          obtain ⟨rfl, H3, F3⟩ := p9
          iterate 3 refine ex_s rfl ?_
          refine ex_xc rfl rfl ⟨Nat.le_of_ble_eq_true rfl, Nat.le_of_ble_eq_true rfl⟩ (p_dig d 2 (by decide) (by decide) H3 e5) (fun rv9 h9 p9 => ?_)
          obtain ⟨rfl, H5, F5⟩ := p9
          iterate 2 refine ex_s rfl ?_
          refine ex_b rfl rfl (fun q => absurd q (lt0 hv5)) (fun _ => ?_)
          iterate 4 refine ex_s rfl ?_
          refine ex_b rfl rfl (fun _ => ?_) (fun q => absurd (by decide) q)
          iterate 2 refine ex_s rfl ?_
          refine ex_xc rfl rfl ⟨Nat.le_of_ble_eq_true rfl, Nat.le_of_ble_eq_true rfl⟩ (p_note d H5 hn rfl) (fun rv9 h9 p9 => ?_)
          obtain ⟨rfl, H6, F6, N6⟩ := p9
          refine ex_b rfl rfl (fun q => absurd q (by decide)) (fun _ => ?_)
          refine ex_s rfl ?_
          refine ex_g rfl rfl ?_
          refine ex_q (ret_bK rfl rfl) ?_
          simp only [e1, e2, e3, e5]
          rw [ng, Int32.mul_one]
          exact ⟨rfl, H6, (((F1.tr F2).tr F3).tr F5).d.tr F6, fun _ => N6⟩
        · show WX _ _ 0 [(0, _)] [] _ _
          iterate 2 refine ex_s rfl ?_
          refine ex_xc rfl rfl ⟨Nat.le_of_ble_eq_true rfl, Nat.le_of_ble_eq_true rfl⟩ (p_dig d 2 (by decide) (by decide) H e1) (fun rv9 h9 p9 => ?_)
          obtain ⟨rfl, H1, F1⟩ := p9
          iterate 2 refine ex_s rfl ?_
          refine ex_b rfl rfl (fun q => absurd q (lt0 hv1)) (fun _ => ?_)
          iterate 2 refine ex_s rfl ?_
          refine ex_xc rfl rfl ⟨Nat.le_of_ble_eq_true rfl, Nat.le_of_ble_eq_true rfl⟩ (p_goP d H1 61 e2) (fun rv9 h9 p9 => ?_)
          obtain ⟨rfl, H2, F2⟩ := p9
          refine ex_b rfl rfl (fun _ => ?_) (fun q => absurd (by decide) q)
          iterate 2 refine ex_s rfl ?_
          refine ex_xc rfl rfl ⟨Nat.le_of_ble_eq_true rfl, Nat.le_of_ble_eq_true rfl⟩ (p_goP d H2 45 m3) (fun rv9 h9 p9 => ?_)
          obtain ⟨rfl, H3, F3⟩ := p9
          iterate 3 refine ex_s rfl ?_
          refine ex_xc rfl rfl ⟨Nat.le_of_ble_eq_true rfl, Nat.le_of_ble_eq_true rfl⟩ (p_dig d 2 (by decide) (by decide) H3 e5) (fun rv9 h9 p9 => ?_)
          obtain ⟨rfl, H5, F5⟩ := p9
          iterate 2 refine ex_s rfl ?_
          refine ex_b rfl rfl (fun _ => ?_) (fun q => absurd neg1 q)
          refine ex_s rfl ?_
          refine ex_q (ret_bK rfl rfl) ?_
          simp only [e1, e2, e3, e5]
          exact ⟨rfl, H5, (((F1.tr F2).tr F3).tr F5).d, fun q => absurd (show true = false from q) (by decide)⟩
    · show WX _ _ 0 [(0, _)] [] _ _
      iterate 2 refine ex_s rfl ?_
      refine ex_xc rfl rfl ⟨Nat.le_of_ble_eq_true rfl, Nat.le_of_ble_eq_true rfl⟩ (p_dig d 2 (by decide) (by decide) H e1) (fun rv9 h9 p9 => ?_)
      obtain ⟨rfl, H1, F1⟩ := p9
      iterate 2 refine ex_s rfl ?_
      refine ex_b rfl rfl (fun q => absurd q (lt0 hv1)) (fun _ => ?_)
      iterate 2 refine ex_s rfl ?_
      refine ex_xc rfl rfl ⟨Nat.le_of_ble_eq_true rfl, Nat.le_of_ble_eq_true rfl⟩ (p_goP d H1 61 e2) (fun rv9 h9 p9 => ?_)
      obtain ⟨rfl, H2, F2⟩ := p9
      refine ex_b rfl rfl (fun q => absurd q (by decide)) (fun _ => ?_)
      refine ex_s rfl ?_
      refine ex_q (ret_bK rfl rfl) ?_
      simp only [e1, e2, negS_w, numS_w]
      exact ⟨rfl, H2, (F1.tr F2).d, fun q => absurd (show true = false from q) (by decide)⟩
  · show WX _ _ 0 [(0, _)] [] _ _
    iterate 2 refine ex_s rfl ?_
    refine ex_xc rfl rfl ⟨Nat.le_of_ble_eq_true rfl, Nat.le_of_ble_eq_true rfl⟩ (p_dig d 2 (by decide) (by decide) H e1) (fun rv9 h9 p9 => ?_)
    obtain ⟨rfl, H1, F1⟩ := p9
    iterate 2 refine ex_s rfl ?_
    refine ex_b rfl rfl (fun _ => ?_) (fun q => absurd neg1 q)
    refine ex_s rfl ?_
    refine ex_q (ret_bK rfl rfl) ?_
    simp only [e1, mustS_w, negS_w, numS_w]
    exact ⟨rfl, H1, F1.d, fun q => absurd (show true = false from q) (by decide)⟩
end
