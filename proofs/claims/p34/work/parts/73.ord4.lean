-- needs: 72
noncomputable section
theorem OrdC.pre {h h1 h' : AH} {I : Nat → Int32} {L n : Nat} {w : Bool} {a1 : Nat} {q : Int32 × Int32 × Int32 × Int32} (F : FrC h h1) (H : OrdC h1 h' I L n w a1 q) : OrdC h h' I L n w a1 q := ⟨H.1, F.d.tr H.2.1, H.2.2⟩
theorem p_readOrder (d : Nat) {h : AH} {I : Nat → Int32} {L a n : Nat} (H : OrI h I L a n) (hn : n < 60) : WM (d + 2) mX6_readOrder [.ref 206] h (fun v h' => v = some (.int (bI ((rdOrd I L (a, false)).1.2 = false))) ∧ OrdC h h' I L n (rdOrd I L (a, false)).1.2 (rdOrd I L (a, false)).1.1 (rdOrd I L (a, false)).2) := by
  by_cases c1 : seeB I L (a, false) 115 115 = true
  · have e1 : mustS I L (a, false) 115 = (a + 1, false) := mustS_t c1
    have er : rdOrd I L (a, false) = ((rdSaw I L (a + 1, false)).1, 115, (rdSaw I L (a + 1, false)).2) := by
      have eI : I a = 115 := see_I c1
      unfold rdOrd
      rw [if_pos (show knB I L (a, false) = true by unfold knB; rw [c1]; rfl)]
      show ((ordK I L (a + 1, false) (I a)).1, I a, (ordK I L (a + 1, false) (I a)).2) = _
      rw [eI]
      rfl
    rw [er]
    show WX _ _ 0 [(0, _)] [] _ _
    iterate 2 refine ex_s rfl ?_
    refine ex_xc rfl rfl ⟨Nat.le_of_ble_eq_true rfl, Nat.le_of_ble_eq_true rfl⟩ (p_goP (d + 1) H 115 e1) (fun rv9 h9 p9 => ?_)
    obtain ⟨rfl, H1, F1⟩ := p9
    refine ex_b rfl rfl (fun q => absurd q (by decide)) (fun _ => ?_)
    refine ex_s rfl ?_
    refine ex_xc rfl rfl ⟨Nat.le_of_ble_eq_true rfl, Nat.le_of_ble_eq_true rfl⟩ (p_readSawing d H1 hn) (fun rv9 h9 p9 => ?_)
    obtain ⟨rfl, P1⟩ := p9
    refine ex_q (ret_bK rfl kOk_bI) ?_
    exact ⟨rfl, OrdC.pre F1 P1⟩
  · have e1 : mustS I L (a, false) 115 = (a, true) := mustS_f c1
    by_cases c2 : seeB I L (a, false) 108 108 = true
    · have e2 : mustS I L (a, false) 108 = (a + 1, false) := mustS_t c2
      have er : rdOrd I L (a, false) = ((rdLay I L (a + 1, false)).1, 108, (rdLay I L (a + 1, false)).2) := by
        have eI : I a = 108 := see_I c2
        unfold rdOrd
        rw [if_pos (show knB I L (a, false) = true by unfold knB; rw [c2]; simp)]
        show ((ordK I L (a + 1, false) (I a)).1, I a, (ordK I L (a + 1, false) (I a)).2) = _
        rw [eI]
        rfl
      rw [er]
      show WX _ _ 0 [(0, _)] [] _ _
      iterate 2 refine ex_s rfl ?_
      refine ex_xc rfl rfl ⟨Nat.le_of_ble_eq_true rfl, Nat.le_of_ble_eq_true rfl⟩ (p_goP (d + 1) H 115 e1) (fun rv9 h9 p9 => ?_)
      obtain ⟨rfl, H1, F1⟩ := p9
      refine ex_b rfl rfl (fun _ => ?_) (fun q => absurd (by decide) q)
      iterate 2 refine ex_s rfl ?_
      refine ex_xc rfl rfl ⟨Nat.le_of_ble_eq_true rfl, Nat.le_of_ble_eq_true rfl⟩ (p_goP (d + 1) H1 108 e2) (fun rv9 h9 p9 => ?_)
      obtain ⟨rfl, H2, F2⟩ := p9
      refine ex_b rfl rfl (fun q => absurd q (by decide)) (fun _ => ?_)
      refine ex_s rfl ?_
      refine ex_xc rfl rfl ⟨Nat.le_of_ble_eq_true rfl, Nat.le_of_ble_eq_true rfl⟩ (p_readLaying d H2 hn) (fun rv9 h9 p9 => ?_)
      obtain ⟨rfl, P1⟩ := p9
      refine ex_q (ret_bK rfl kOk_bI) ?_
      exact ⟨rfl, OrdC.pre (F1.tr F2) P1⟩
    · have e2 : mustS I L (a, false) 108 = (a, true) := mustS_f c2
      by_cases c3 : seeB I L (a, false) 104 104 = true
      · have e3 : mustS I L (a, false) 104 = (a + 1, false) := mustS_t c3
        have er : rdOrd I L (a, false) = ((rdOne I L (a + 1, false)).1, 104, (rdOne I L (a + 1, false)).2) := by
          have eI : I a = 104 := see_I c3
          unfold rdOrd
          rw [if_pos (show knB I L (a, false) = true by unfold knB; rw [c3]; simp)]
          show ((ordK I L (a + 1, false) (I a)).1, I a, (ordK I L (a + 1, false) (I a)).2) = _
          rw [eI]
          rfl
        rw [er]
        show WX _ _ 0 [(0, _)] [] _ _
        iterate 2 refine ex_s rfl ?_
        refine ex_xc rfl rfl ⟨Nat.le_of_ble_eq_true rfl, Nat.le_of_ble_eq_true rfl⟩ (p_goP (d + 1) H 115 e1) (fun rv9 h9 p9 => ?_)
        obtain ⟨rfl, H1, F1⟩ := p9
        refine ex_b rfl rfl (fun _ => ?_) (fun q => absurd (by decide) q)
        iterate 2 refine ex_s rfl ?_
        refine ex_xc rfl rfl ⟨Nat.le_of_ble_eq_true rfl, Nat.le_of_ble_eq_true rfl⟩ (p_goP (d + 1) H1 108 e2) (fun rv9 h9 p9 => ?_)
        obtain ⟨rfl, H2, F2⟩ := p9
        refine ex_b rfl rfl (fun _ => ?_) (fun q => absurd (by decide) q)
        iterate 2 refine ex_s rfl ?_
        refine ex_xc rfl rfl ⟨Nat.le_of_ble_eq_true rfl, Nat.le_of_ble_eq_true rfl⟩ (p_goP (d + 1) H2 104 e3) (fun rv9 h9 p9 => ?_)
        obtain ⟨rfl, H3, F3⟩ := p9
        refine ex_b rfl rfl (fun q => absurd q (by decide)) (fun _ => ?_)
        iterate 2 refine ex_s rfl ?_
        refine ex_xc rfl rfl ⟨Nat.le_of_ble_eq_true rfl, Nat.le_of_ble_eq_true rfl⟩ (p_readNumber d H3 hn (o := 104) rfl) (fun rv9 h9 p9 => ?_)
        obtain ⟨rfl, P1⟩ := p9
        refine ex_q (ret_bK rfl kOk_bI) ?_
        exact ⟨rfl, OrdC.pre ((F1.tr F2).tr F3) P1⟩
      · have e3 : mustS I L (a, false) 104 = (a, true) := mustS_f c3
        by_cases c4 : seeB I L (a, false) 118 118 = true
        · have e4 : mustS I L (a, false) 118 = (a + 1, false) := mustS_t c4
          have er : rdOrd I L (a, false) = ((rdOne I L (a + 1, false)).1, 118, (rdOne I L (a + 1, false)).2) := by
            have eI : I a = 118 := see_I c4
            unfold rdOrd
            rw [if_pos (show knB I L (a, false) = true by unfold knB; rw [c4]; simp)]
            show ((ordK I L (a + 1, false) (I a)).1, I a, (ordK I L (a + 1, false) (I a)).2) = _
            rw [eI]
            rfl
          rw [er]
          show WX _ _ 0 [(0, _)] [] _ _
          iterate 2 refine ex_s rfl ?_
          refine ex_xc rfl rfl ⟨Nat.le_of_ble_eq_true rfl, Nat.le_of_ble_eq_true rfl⟩ (p_goP (d + 1) H 115 e1) (fun rv9 h9 p9 => ?_)
          obtain ⟨rfl, H1, F1⟩ := p9
          refine ex_b rfl rfl (fun _ => ?_) (fun q => absurd (by decide) q)
          iterate 2 refine ex_s rfl ?_
          refine ex_xc rfl rfl ⟨Nat.le_of_ble_eq_true rfl, Nat.le_of_ble_eq_true rfl⟩ (p_goP (d + 1) H1 108 e2) (fun rv9 h9 p9 => ?_)
          obtain ⟨rfl, H2, F2⟩ := p9
          refine ex_b rfl rfl (fun _ => ?_) (fun q => absurd (by decide) q)
          iterate 2 refine ex_s rfl ?_
          refine ex_xc rfl rfl ⟨Nat.le_of_ble_eq_true rfl, Nat.le_of_ble_eq_true rfl⟩ (p_goP (d + 1) H2 104 e3) (fun rv9 h9 p9 => ?_)
          obtain ⟨rfl, H3, F3⟩ := p9
          refine ex_b rfl rfl (fun _ => ?_) (fun q => absurd (by decide) q)
          iterate 2 refine ex_s rfl ?_
          refine ex_xc rfl rfl ⟨Nat.le_of_ble_eq_true rfl, Nat.le_of_ble_eq_true rfl⟩ (p_goP (d + 1) H3 118 e4) (fun rv9 h9 p9 => ?_)
          obtain ⟨rfl, H4, F4⟩ := p9
          refine ex_b rfl rfl (fun q => absurd q (by decide)) (fun _ => ?_)
          iterate 2 refine ex_s rfl ?_
          refine ex_xc rfl rfl ⟨Nat.le_of_ble_eq_true rfl, Nat.le_of_ble_eq_true rfl⟩ (p_readNumber d H4 hn (o := 118) rfl) (fun rv9 h9 p9 => ?_)
          obtain ⟨rfl, P1⟩ := p9
          refine ex_q (ret_bK rfl kOk_bI) ?_
          exact ⟨rfl, OrdC.pre (((F1.tr F2).tr F3).tr F4) P1⟩
        · have e4 : mustS I L (a, false) 118 = (a, true) := mustS_f c4
          by_cases c5 : seeB I L (a, false) 116 116 = true
          · have e5 : mustS I L (a, false) 116 = (a + 1, false) := mustS_t c5
            have er : rdOrd I L (a, false) = ((rdHeat I L (a + 1, false)).1, 116, (rdHeat I L (a + 1, false)).2) := by
              have eI : I a = 116 := see_I c5
              unfold rdOrd
              rw [if_pos (show knB I L (a, false) = true by unfold knB; rw [c5]; simp)]
              show ((ordK I L (a + 1, false) (I a)).1, I a, (ordK I L (a + 1, false) (I a)).2) = _
              rw [eI]
              rfl
            rw [er]
            cases cw : (rdHeat I L (a + 1, false)).1.2
            · show WX _ _ 0 [(0, _)] [] _ _
              iterate 2 refine ex_s rfl ?_
              refine ex_xc rfl rfl ⟨Nat.le_of_ble_eq_true rfl, Nat.le_of_ble_eq_true rfl⟩ (p_goP (d + 1) H 115 e1) (fun rv9 h9 p9 => ?_)
              obtain ⟨rfl, H1, F1⟩ := p9
              refine ex_b rfl rfl (fun _ => ?_) (fun q => absurd (by decide) q)
              iterate 2 refine ex_s rfl ?_
              refine ex_xc rfl rfl ⟨Nat.le_of_ble_eq_true rfl, Nat.le_of_ble_eq_true rfl⟩ (p_goP (d + 1) H1 108 e2) (fun rv9 h9 p9 => ?_)
              obtain ⟨rfl, H2, F2⟩ := p9
              refine ex_b rfl rfl (fun _ => ?_) (fun q => absurd (by decide) q)
              iterate 2 refine ex_s rfl ?_
              refine ex_xc rfl rfl ⟨Nat.le_of_ble_eq_true rfl, Nat.le_of_ble_eq_true rfl⟩ (p_goP (d + 1) H2 104 e3) (fun rv9 h9 p9 => ?_)
              obtain ⟨rfl, H3, F3⟩ := p9
              refine ex_b rfl rfl (fun _ => ?_) (fun q => absurd (by decide) q)
              iterate 2 refine ex_s rfl ?_
              refine ex_xc rfl rfl ⟨Nat.le_of_ble_eq_true rfl, Nat.le_of_ble_eq_true rfl⟩ (p_goP (d + 1) H3 118 e4) (fun rv9 h9 p9 => ?_)
              obtain ⟨rfl, H4, F4⟩ := p9
              refine ex_b rfl rfl (fun _ => ?_) (fun q => absurd (by decide) q)
              iterate 2 refine ex_s rfl ?_
              refine ex_xc rfl rfl ⟨Nat.le_of_ble_eq_true rfl, Nat.le_of_ble_eq_true rfl⟩ (p_goP (d + 1) H4 116 e5) (fun rv9 h9 p9 => ?_)
              obtain ⟨rfl, H5, F5⟩ := p9
              refine ex_b rfl rfl (fun q => absurd q (by decide)) (fun _ => ?_)
              refine ex_s rfl ?_
              refine ex_xc rfl rfl ⟨Nat.le_of_ble_eq_true rfl, Nat.le_of_ble_eq_true rfl⟩ (p_readTemperature d H5 hn) (fun rv9 h9 p9 => ?_)
              obtain ⟨rfl, P1⟩ := p9
              refine ex_b rfl rfl (fun q => absurd q (by rw [cw]; decide)) (fun _ => ?_)
              refine ex_s rfl ?_
              refine ex_g rfl rfl ?_
              refine ex_q (ret_bK rfl rfl) ?_
              rw [cw] at P1
              exact ⟨rfl, OrdC.pre ((((F1.tr F2).tr F3).tr F4).tr F5) P1⟩
            · show WX _ _ 0 [(0, _)] [] _ _
              iterate 2 refine ex_s rfl ?_
              refine ex_xc rfl rfl ⟨Nat.le_of_ble_eq_true rfl, Nat.le_of_ble_eq_true rfl⟩ (p_goP (d + 1) H 115 e1) (fun rv9 h9 p9 => ?_)
              obtain ⟨rfl, H1, F1⟩ := p9
              refine ex_b rfl rfl (fun _ => ?_) (fun q => absurd (by decide) q)
              iterate 2 refine ex_s rfl ?_
              refine ex_xc rfl rfl ⟨Nat.le_of_ble_eq_true rfl, Nat.le_of_ble_eq_true rfl⟩ (p_goP (d + 1) H1 108 e2) (fun rv9 h9 p9 => ?_)
              obtain ⟨rfl, H2, F2⟩ := p9
              refine ex_b rfl rfl (fun _ => ?_) (fun q => absurd (by decide) q)
              iterate 2 refine ex_s rfl ?_
              refine ex_xc rfl rfl ⟨Nat.le_of_ble_eq_true rfl, Nat.le_of_ble_eq_true rfl⟩ (p_goP (d + 1) H2 104 e3) (fun rv9 h9 p9 => ?_)
              obtain ⟨rfl, H3, F3⟩ := p9
              refine ex_b rfl rfl (fun _ => ?_) (fun q => absurd (by decide) q)
              iterate 2 refine ex_s rfl ?_
              refine ex_xc rfl rfl ⟨Nat.le_of_ble_eq_true rfl, Nat.le_of_ble_eq_true rfl⟩ (p_goP (d + 1) H3 118 e4) (fun rv9 h9 p9 => ?_)
              obtain ⟨rfl, H4, F4⟩ := p9
              refine ex_b rfl rfl (fun _ => ?_) (fun q => absurd (by decide) q)
              iterate 2 refine ex_s rfl ?_
              refine ex_xc rfl rfl ⟨Nat.le_of_ble_eq_true rfl, Nat.le_of_ble_eq_true rfl⟩ (p_goP (d + 1) H4 116 e5) (fun rv9 h9 p9 => ?_)
              obtain ⟨rfl, H5, F5⟩ := p9
              refine ex_b rfl rfl (fun q => absurd q (by decide)) (fun _ => ?_)
              refine ex_s rfl ?_
              refine ex_xc rfl rfl ⟨Nat.le_of_ble_eq_true rfl, Nat.le_of_ble_eq_true rfl⟩ (p_readTemperature d H5 hn) (fun rv9 h9 p9 => ?_)
              obtain ⟨rfl, P1⟩ := p9
              refine ex_b rfl rfl (fun _ => ?_) (fun q => absurd (by rw [cw]; decide) q)
              refine ex_s rfl ?_
              refine ex_q (ret_bK rfl rfl) ?_
              rw [cw] at P1
              exact ⟨rfl, OrdC.pre ((((F1.tr F2).tr F3).tr F4).tr F5) P1⟩
          · have e5 : mustS I L (a, false) 116 = (a, true) := mustS_f c5
            have er : rdOrd I L (a, false) = ((a, true), 32, 0, 0, 0) := if_neg (by unfold knB; rw [Bool.eq_false_iff.mpr c1, Bool.eq_false_iff.mpr c2, Bool.eq_false_iff.mpr c3, Bool.eq_false_iff.mpr c4, Bool.eq_false_iff.mpr c5]; decide)
            rw [er]
            show WX _ _ 0 [(0, _)] [] _ _
            iterate 2 refine ex_s rfl ?_
            refine ex_xc rfl rfl ⟨Nat.le_of_ble_eq_true rfl, Nat.le_of_ble_eq_true rfl⟩ (p_goP (d + 1) H 115 e1) (fun rv9 h9 p9 => ?_)
            obtain ⟨rfl, H1, F1⟩ := p9
            refine ex_b rfl rfl (fun _ => ?_) (fun q => absurd (by decide) q)
            iterate 2 refine ex_s rfl ?_
            refine ex_xc rfl rfl ⟨Nat.le_of_ble_eq_true rfl, Nat.le_of_ble_eq_true rfl⟩ (p_goP (d + 1) H1 108 e2) (fun rv9 h9 p9 => ?_)
            obtain ⟨rfl, H2, F2⟩ := p9
            refine ex_b rfl rfl (fun _ => ?_) (fun q => absurd (by decide) q)
            iterate 2 refine ex_s rfl ?_
            refine ex_xc rfl rfl ⟨Nat.le_of_ble_eq_true rfl, Nat.le_of_ble_eq_true rfl⟩ (p_goP (d + 1) H2 104 e3) (fun rv9 h9 p9 => ?_)
            obtain ⟨rfl, H3, F3⟩ := p9
            refine ex_b rfl rfl (fun _ => ?_) (fun q => absurd (by decide) q)
            iterate 2 refine ex_s rfl ?_
            refine ex_xc rfl rfl ⟨Nat.le_of_ble_eq_true rfl, Nat.le_of_ble_eq_true rfl⟩ (p_goP (d + 1) H3 118 e4) (fun rv9 h9 p9 => ?_)
            obtain ⟨rfl, H4, F4⟩ := p9
            refine ex_b rfl rfl (fun _ => ?_) (fun q => absurd (by decide) q)
            iterate 2 refine ex_s rfl ?_
            refine ex_xc rfl rfl ⟨Nat.le_of_ble_eq_true rfl, Nat.le_of_ble_eq_true rfl⟩ (p_goP (d + 1) H4 116 e5) (fun rv9 h9 p9 => ?_)
            obtain ⟨rfl, H5, F5⟩ := p9
            refine ex_b rfl rfl (fun _ => ?_) (fun q => absurd (by decide) q)
            refine ex_s rfl ?_
            refine ex_q (ret_bK rfl rfl) ?_
            exact ⟨rfl, H5, ((((F1.tr F2).tr F3).tr F4).tr F5).d, fun q => absurd (show true = false from q) (by decide)⟩
end
