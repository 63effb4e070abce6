-- needs: 62
noncomputable section
/-- carrying out an order: what is thrown, the fault, reason and detail, row, masses -/
def stC (o : Int32) (r : Nat → Int32) (q : Int32 × Int32 × Int32) : Int32 := if o = 115 then sawC r q.1 q.2.1 q.2.2 else if o = 108 then layC r q.1 q.2.1 q.2.2 else if o = 104 then passC q.1 else if o = 118 then visitC q.1 else heatC q.1 q.2.1
def stX (o : Int32) : Int32 := if o = 115 then 3 else if o = 108 then 2 else 0
def ftI (code x : Int32) : Int32 := if code = 0 then 0 else if code = x then 2 else 1
abbrev stF (o : Int32) (r : Nat → Int32) (q : Int32 × Int32 × Int32) : Int32 := ftI (stC o r q) (stX o)
def stD (o : Int32) (r : Nat → Int32) (q : Int32 × Int32 × Int32) (s : Int32 × Int32) : Int32 × Int32 := if o = 115 then (if sawC r q.1 q.2.1 q.2.2 = 3 then sawQ r q.1 q.2.1 q.2.2 else s) else if o = 108 then (if layC r q.1 q.2.1 q.2.2 = 2 then layQ r q.1.toNatClampNeg q.2.1.toNatClampNeg q.2.2.toNatClampNeg else s) else s
def stR (o : Int32) (r : Nat → Int32) (w : Nat → UInt32) (q : Int32 × Int32 × Int32) : Nat → Int32 := if o = 115 then sawR9 r q.1 q.2.1 q.2.2 else if o = 108 then layR9 r q.1 q.2.1 q.2.2 else if o = 104 then passR r w q.1 else if o = 118 then visitR r q.1 else heatR r q.1 q.2.1
def stW (o : Int32) (r : Nat → Int32) (w : Nat → UInt32) (q : Int32 × Int32 × Int32) : Nat → UInt32 := if o = 115 then sawW9 r w q.1 q.2.1 q.2.2 else if o = 104 then passW r w q.1 else w
theorem f_coT (d : Nat) {h : AH} {code x : Int32} (hc : h.1 0 0 = code) : EvR d mX11_carryOut 149 [(0, .ref 0), (1, .int x)] [] h (some (.int (ftI code x))) h := by
  unfold ftI
  by_cases c0 : code = 0
  · rw [if_pos c0]
    iterate 2 refine er_s rfl ?_
    refine er_b rfl rfl (fun q => absurd q (fun q => q (hc.trans c0))) (fun _ => ?_)
    refine er_s rfl ?_
    refine er_g rfl rfl ?_
    refine er_q rfl ?_ ?_
    · rfl
    · rfl
  · rw [if_neg c0]
    by_cases c1 : code = x
    · rw [if_pos c1]
      iterate 2 refine er_s rfl ?_
      refine er_b rfl rfl (fun _ => ?_) (fun q => absurd (fun q => c0 (hc.symm.trans q)) q)
      iterate 3 refine er_s rfl ?_
      refine er_b rfl rfl (fun q => absurd q (fun q => q (hc.trans c1))) (fun _ => ?_)
      refine er_s rfl ?_
      refine er_g rfl rfl ?_
      refine er_q rfl ?_ ?_
      · rfl
      · rfl
    · rw [if_neg c1]
      iterate 2 refine er_s rfl ?_
      refine er_b rfl rfl (fun _ => ?_) (fun q => absurd (fun q => c0 (hc.symm.trans q)) q)
      iterate 3 refine er_s rfl ?_
      refine er_b rfl rfl (fun _ => ?_) (fun q => absurd (fun q => c1 (hc.symm.trans q)) q)
      refine er_s rfl ?_
      refine er_q rfl ?_ ?_
      · rfl
      · rfl
theorem Inv.st {B : Nat} {r : Nat → Int32} {w : Nat → UInt32} (h : Inv B r w) (o : Int32) (q : Int32 × Int32 × Int32) (hB : B + 48 < 2 ^ 30) : ∃ B', B' ≤ B + 48 ∧ Inv B' (stR o r w q) (stW o r w q) := by
  unfold stR stW
  by_cases c1 : o = 115
  · rw [if_pos c1, if_pos c1]; exact ⟨B, by omega, h.saw9 _ _ _⟩
  rw [if_neg c1, if_neg c1]
  by_cases c2 : o = 108
  · rw [if_pos c2, if_neg (fun z => absurd (c2.symm.trans z) (by decide))]; exact ⟨B, by omega, h.lay9 _ _ _⟩
  rw [if_neg c2]
  by_cases c3 : o = 104
  · rw [if_pos c3, if_pos c3]; exact h.pass _ hB
  rw [if_neg c3, if_neg c3]
  by_cases c4 : o = 118
  · rw [if_pos c4]; exact ⟨B, by omega, h.visit _⟩
  rw [if_neg c4]
  exact ⟨B, by omega, h.heat _ _⟩
theorem st_115 {r : Nat → Int32} {w : Nat → UInt32} {q : Int32 × Int32 × Int32} {s : Int32 × Int32} : stC 115 r q = sawC r q.1 q.2.1 q.2.2 ∧ stX 115 = 3 ∧ stD 115 r q s = (if sawC r q.1 q.2.1 q.2.2 = 3 then sawQ r q.1 q.2.1 q.2.2 else s) ∧ stR 115 r w q = sawR9 r q.1 q.2.1 q.2.2 ∧ stW 115 r w q = sawW9 r w q.1 q.2.1 q.2.2 := by
  refine ⟨?_, ?_, ?_, ?_, ?_⟩
  · unfold stC; rw [if_pos rfl]
  · unfold stX; rw [if_pos rfl]
  · unfold stD; rw [if_pos rfl]
  · unfold stR; rw [if_pos rfl]
  · unfold stW; rw [if_pos rfl]
theorem st_108 {r : Nat → Int32} {w : Nat → UInt32} {q : Int32 × Int32 × Int32} {s : Int32 × Int32} : stC 108 r q = layC r q.1 q.2.1 q.2.2 ∧ stX 108 = 2 ∧ stD 108 r q s = (if layC r q.1 q.2.1 q.2.2 = 2 then layQ r q.1.toNatClampNeg q.2.1.toNatClampNeg q.2.2.toNatClampNeg else s) ∧ stR 108 r w q = layR9 r q.1 q.2.1 q.2.2 ∧ stW 108 r w q = w := by
  refine ⟨?_, ?_, ?_, ?_, ?_⟩
  · unfold stC; rw [if_neg (by decide), if_pos rfl]
  · unfold stX; rw [if_neg (by decide), if_pos rfl]
  · unfold stD; rw [if_neg (by decide), if_pos rfl]
  · unfold stR; rw [if_neg (by decide), if_pos rfl]
  · unfold stW; rw [if_neg (by decide), if_neg (by decide)]
theorem st_104 {r : Nat → Int32} {w : Nat → UInt32} {q : Int32 × Int32 × Int32} {s : Int32 × Int32} : stC 104 r q = passC q.1 ∧ stX 104 = 0 ∧ stD 104 r q s = s ∧ stR 104 r w q = passR r w q.1 ∧ stW 104 r w q = passW r w q.1 := by
  refine ⟨?_, ?_, ?_, ?_, ?_⟩
  · unfold stC; rw [if_neg (by decide), if_neg (by decide), if_pos rfl]
  · unfold stX; rw [if_neg (by decide), if_neg (by decide)]
  · unfold stD; rw [if_neg (by decide), if_neg (by decide)]
  · unfold stR; rw [if_neg (by decide), if_neg (by decide), if_pos rfl]
  · unfold stW; rw [if_neg (by decide), if_pos rfl]
theorem st_118 {r : Nat → Int32} {w : Nat → UInt32} {q : Int32 × Int32 × Int32} {s : Int32 × Int32} : stC 118 r q = visitC q.1 ∧ stX 118 = 0 ∧ stD 118 r q s = s ∧ stR 118 r w q = visitR r q.1 ∧ stW 118 r w q = w := by
  refine ⟨?_, ?_, ?_, ?_, ?_⟩
  · unfold stC; rw [if_neg (by decide), if_neg (by decide), if_neg (by decide), if_pos rfl]
  · unfold stX; rw [if_neg (by decide), if_neg (by decide)]
  · unfold stD; rw [if_neg (by decide), if_neg (by decide)]
  · unfold stR; rw [if_neg (by decide), if_neg (by decide), if_neg (by decide), if_pos rfl]
  · unfold stW; rw [if_neg (by decide), if_neg (by decide)]
theorem st_116 {r : Nat → Int32} {w : Nat → UInt32} {q : Int32 × Int32 × Int32} {s : Int32 × Int32} : stC 116 r q = heatC q.1 q.2.1 ∧ stX 116 = 0 ∧ stD 116 r q s = s ∧ stR 116 r w q = heatR r q.1 q.2.1 ∧ stW 116 r w q = w := by
  refine ⟨?_, ?_, ?_, ?_, ?_⟩
  · unfold stC; rw [if_neg (by decide), if_neg (by decide), if_neg (by decide), if_neg (by decide)]
  · unfold stX; rw [if_neg (by decide), if_neg (by decide)]
  · unfold stD; rw [if_neg (by decide), if_neg (by decide)]
  · unfold stR; rw [if_neg (by decide), if_neg (by decide), if_neg (by decide), if_neg (by decide)]
  · unfold stW; rw [if_neg (by decide), if_neg (by decide)]
def KnO (o : Int32) : Prop := o = 115 ∨ o = 108 ∨ o = 104 ∨ o = 118 ∨ o = 116
theorem f_carryOut (d : Nat) {h : AH} {o : Int32} {q9 : Int32 × Int32 × Int32} (ho : KnO o) (h23 : h.1 0 23 = o) (hT : ToldP h (nT o) q9) {B : Nat} (I : Inv B (h.1 1) (h.2.1 5)) (hB : B + 48 < 2 ^ 30) {K : Nat} (hK : K ≤ 8) (h11 : h.1 0 11 = nI K) (hin : inT h = true) : WM (d + 10) mX11_carryOut [.ref 0] h (fun v h' => v = some (.int (stF o (h.1 1) q9)) ∧ OpP h h' (stC o (h.1 1) q9) (stD o (h.1 1) q9 (h.1 0 12, h.1 0 13)).1 (stD o (h.1 1) q9 (h.1 0 12, h.1 0 13)).2 (stR o (h.1 1) (h.2.1 5) q9) (stW o (h.1 1) (h.2.1 5) q9) false K) := by
  obtain ⟨t0, t1, t2⟩ := hT
  have hS := I.1
  have hw := hS.1
  rcases ho with e | e | e | e | e
  · subst e
    obtain ⟨eC, eX, eD, eR, eW⟩ := st_115 (r := h.1 1) (w := h.2.1 5) (q := q9) (s := (h.1 0 12, h.1 0 13))
    rw [show stF 115 (h.1 1) q9 = ftI (stC 115 (h.1 1) q9) (stX 115) from rfl, eC, eX, eD, eR, eW]
    have t1 := t1 (by decide)
    have t2 := t2 (by decide)
    have S := f_saw (d + 5) q9.1 q9.2.1 q9.2.2 h hw I.2.2.2.2.2.2.2 hK h11
    rw [hin, Bool.not_true, Bool.and_false] at S
    show WX _ _ 0 [(0, _)] [] _ _
    iterate 4 refine ex_s rfl ?_
    rw [show fv 2 (h.1 0 23) = Value.int 115 from congrArg Value.int h23]
    refine ex_sw rfl rfl ?_
    iterate 4 refine ex_s rfl ?_
    refine ex_il rfl rfl (vi (k := 0)) ?_
    iterate 3 refine ex_s rfl ?_
    refine ex_il rfl rfl (vi (k := 1)) ?_
    iterate 3 refine ex_s rfl ?_
    refine ex_il rfl rfl (vi (k := 2)) ?_
    rw [tl_0, tl_1, tl_2, t0, t1, t2]
    refine ex_xc rfl rfl ⟨Nat.le_of_ble_eq_true rfl, Nat.le_of_ble_eq_true rfl⟩ (S) (fun rv9 h9 p9 => ?_)
    obtain ⟨⟨a9, rfl, -⟩, p9⟩ := p9
    iterate 3 refine ex_s rfl ?_
    refine ex_g rfl rfl ?_
    refine ex_sub (sub2 rfl rfl) (ex_of (f_coT (d + 10) p9.1) ⟨rfl, ?_⟩)
    by_cases z : sawC (h.1 1) q9.1 q9.2.1 q9.2.2 = 3
    · rw [if_pos z, if_pos z] at p9; rw [if_pos z]; exact p9
    · rw [if_neg z, if_neg z] at p9; rw [if_neg z]; exact p9
  · subst e
    obtain ⟨eC, eX, eD, eR, eW⟩ := st_108 (r := h.1 1) (w := h.2.1 5) (q := q9) (s := (h.1 0 12, h.1 0 13))
    rw [show stF 108 (h.1 1) q9 = ftI (stC 108 (h.1 1) q9) (stX 108) from rfl, eC, eX, eD, eR, eW]
    have t1 := t1 (by decide)
    have t2 := t2 (by decide)
    have S := f_lay (d + 5) q9.1 q9.2.1 q9.2.2 h hS hK h11
    rw [hin, Bool.not_true, Bool.and_false] at S
    show WX _ _ 0 [(0, _)] [] _ _
    iterate 4 refine ex_s rfl ?_
    rw [show fv 2 (h.1 0 23) = Value.int 108 from congrArg Value.int h23]
    refine ex_sw rfl rfl ?_
    iterate 4 refine ex_s rfl ?_
    refine ex_il rfl rfl (vi (k := 0)) ?_
    iterate 3 refine ex_s rfl ?_
    refine ex_il rfl rfl (vi (k := 1)) ?_
    iterate 3 refine ex_s rfl ?_
    refine ex_il rfl rfl (vi (k := 2)) ?_
    rw [tl_0, tl_1, tl_2, t0, t1, t2]
    refine ex_xc rfl rfl ⟨Nat.le_of_ble_eq_true rfl, Nat.le_of_ble_eq_true rfl⟩ (S) (fun rv9 h9 p9 => ?_)
    obtain ⟨⟨a9, rfl, -⟩, p9⟩ := p9
    iterate 3 refine ex_s rfl ?_
    refine ex_g rfl rfl ?_
    refine ex_sub (sub2 rfl rfl) (ex_of (f_coT (d + 10) p9.1) ⟨rfl, ?_⟩)
    by_cases z : layC (h.1 1) q9.1 q9.2.1 q9.2.2 = 2
    · rw [if_pos z, if_pos z] at p9; rw [if_pos z]; exact p9
    · rw [if_neg z, if_neg z] at p9; rw [if_neg z]; exact p9
  · subst e
    obtain ⟨eC, eX, eD, eR, eW⟩ := st_104 (r := h.1 1) (w := h.2.1 5) (q := q9) (s := (h.1 0 12, h.1 0 13))
    rw [show stF 104 (h.1 1) q9 = ftI (stC 104 (h.1 1) q9) (stX 104) from rfl, eC, eX, eD, eR, eW]
    have S := f_pass (d + 0) q9.1 h I.2.1 hB hK h11
    rw [hin, Bool.not_true, Bool.and_false] at S
    show WX _ _ 0 [(0, _)] [] _ _
    iterate 4 refine ex_s rfl ?_
    rw [show fv 2 (h.1 0 23) = Value.int 104 from congrArg Value.int h23]
    refine ex_sw rfl rfl ?_
    iterate 4 refine ex_s rfl ?_
    refine ex_il rfl rfl (vi (k := 0)) ?_
    rw [tl_0, t0]
    refine ex_xc rfl rfl ⟨Nat.le_of_ble_eq_true rfl, Nat.le_of_ble_eq_true rfl⟩ (S) (fun rv9 h9 p9 => ?_)
    obtain ⟨⟨a9, rfl, -⟩, p9⟩ := p9
    refine ex_s rfl ?_
    refine ex_g rfl rfl ?_
    exact ex_sub (sub2 rfl rfl) (ex_of (f_coT (d + 10) p9.1) ⟨rfl, p9⟩)
  · subst e
    obtain ⟨eC, eX, eD, eR, eW⟩ := st_118 (r := h.1 1) (w := h.2.1 5) (q := q9) (s := (h.1 0 12, h.1 0 13))
    rw [show stF 118 (h.1 1) q9 = ftI (stC 118 (h.1 1) q9) (stX 118) from rfl, eC, eX, eD, eR, eW]
    have S := f_visit (d + 6) q9.1 h hK h11
    rw [hin, Bool.not_true, Bool.and_false] at S
    show WX _ _ 0 [(0, _)] [] _ _
    iterate 4 refine ex_s rfl ?_
    rw [show fv 2 (h.1 0 23) = Value.int 118 from congrArg Value.int h23]
    refine ex_sw rfl rfl ?_
    iterate 4 refine ex_s rfl ?_
    refine ex_il rfl rfl (vi (k := 0)) ?_
    rw [tl_0, t0]
    refine ex_xc rfl rfl ⟨Nat.le_of_ble_eq_true rfl, Nat.le_of_ble_eq_true rfl⟩ (S) (fun rv9 h9 p9 => ?_)
    obtain ⟨⟨a9, rfl, -⟩, p9⟩ := p9
    refine ex_s rfl ?_
    refine ex_g rfl rfl ?_
    exact ex_sub (sub2 rfl rfl) (ex_of (f_coT (d + 10) p9.1) ⟨rfl, p9⟩)
  · subst e
    obtain ⟨eC, eX, eD, eR, eW⟩ := st_116 (r := h.1 1) (w := h.2.1 5) (q := q9) (s := (h.1 0 12, h.1 0 13))
    rw [show stF 116 (h.1 1) q9 = ftI (stC 116 (h.1 1) q9) (stX 116) from rfl, eC, eX, eD, eR, eW]
    have t1 := t1 (by decide)
    have S := f_heat (d + 6) q9.1 q9.2.1 h hK h11
    rw [hin, Bool.not_true, Bool.and_false] at S
    show WX _ _ 0 [(0, _)] [] _ _
    iterate 4 refine ex_s rfl ?_
    rw [show fv 2 (h.1 0 23) = Value.int 116 from congrArg Value.int h23]
    refine ex_sw rfl rfl ?_
    iterate 4 refine ex_s rfl ?_
    refine ex_il rfl rfl (vi (k := 0)) ?_
    iterate 3 refine ex_s rfl ?_
    refine ex_il rfl rfl (vi (k := 1)) ?_
    rw [tl_0, tl_1, t0, t1]
    refine ex_xc rfl rfl ⟨Nat.le_of_ble_eq_true rfl, Nat.le_of_ble_eq_true rfl⟩ (S) (fun rv9 h9 p9 => ?_)
    obtain ⟨⟨a9, rfl, -⟩, p9⟩ := p9
    refine ex_s rfl ?_
    exact ex_sub (sub2 rfl rfl) (ex_of (f_coT (d + 10) p9.1) ⟨rfl, p9⟩)
end
