-- needs: 995
noncomputable section
theorem palL45 : PalL 45 := ⟨rfl, rfl, rfl, rfl, rfl, rfl, rfl, rfl, rfl, rfl, rfl, rfl, rfl⟩
theorem layC_or {r : Nat → Int32} {x y z : Int32} : layC r x y z = 0 ∨ layC r x y z = 1 ∨ layC r x y z = 2 := by
  unfold layC
  split
  · exact Or.inr (Or.inl rfl)
  · split
    · exact Or.inl rfl
    · exact Or.inr (Or.inr rfl)
theorem st_cl {o : Int32} (ho : KnO o) (r : Nat → Int32) (w : Nat → UInt32) (q : Int32 × Int32 × Int32) (s : Int32 × Int32) : stF o r q = ftI (clF o r q) 3 ∧ stD o r q s = (if clF o r q = 3 then clD o r q else s) ∧ (clF o r q ≠ 0 → stR o r w q = r ∧ stW o r w q = w) ∧ (pfR o r w q = stR o r w q ∧ pfW o r w q = stW o r w q) ∧ SgO o := by
  rcases ho with e | e | e | e | e <;> subst e
  · obtain ⟨a, b, c, e, f⟩ := st_115 (r := r) (w := w) (q := q) (s := s)
    refine ⟨by show ftI (stC 115 r q) (stX 115) = _; rw [a, b, cl_115.1], by rw [c, cl_115.1, cl_115.2], fun z => ?_, pf_o (by decide), Or.inl rfl⟩
    rw [cl_115.1] at z
    exact ⟨by rw [e]; exact if_neg z, by rw [f]; exact if_neg z⟩
  · obtain ⟨a, b, c, e, f⟩ := st_108 (r := r) (w := w) (q := q) (s := s)
    refine ⟨?_, ?_, fun z => ?_, pf_o (by decide), Or.inr (Or.inl rfl)⟩
    · show ftI (stC 108 r q) (stX 108) = _
      rw [a, b, cl_108.1]
      rcases layC_or (r := r) (x := q.1) (y := q.2.1) (z := q.2.2) with e9 | e9 | e9 <;> rw [e9] <;> decide
    · rw [c, cl_108.1, cl_108.2]
      rcases layC_or (r := r) (x := q.1) (y := q.2.1) (z := q.2.2) with e9 | e9 | e9 <;> rw [e9]
      · rw [if_neg (by decide), if_neg (by decide)]
      · rw [if_neg (by decide), if_neg (by decide)]
      · rw [if_pos rfl, if_pos (by decide)]
    · rw [cl_108.1] at z
      have z2 : layC r q.1 q.2.1 q.2.2 ≠ 0 := fun y => z (by rw [y]; decide)
      exact ⟨by rw [e]; exact if_neg z2, f⟩
  · obtain ⟨a, b, c, e, f⟩ := st_104 (r := r) (w := w) (q := q) (s := s)
    have f104 := cl_104 (r := r) (q := q)
    by_cases p : passC q.1 = 0
    · rw [if_pos p] at f104
      exact ⟨by show ftI (stC 104 r q) (stX 104) = _; rw [a, b, f104, p]; decide, by rw [c, f104, if_neg (by decide)], fun z => absurd f104 z, pf_o (by decide), by unfold SgO; decide⟩
    · rw [if_neg p] at f104
      refine ⟨?_, by rw [c, f104, if_neg (by decide)], fun _ => ⟨by rw [e]; exact if_neg p, by rw [f]; exact if_neg p⟩, pf_o (by decide), by unfold SgO; decide⟩
      show ftI (stC 104 r q) (stX 104) = _
      rw [a, b, f104]
      unfold ftI
      rw [if_neg p, if_neg p]
      decide
  · obtain ⟨a, b, c, e, f⟩ := st_118 (r := r) (w := w) (q := q) (s := s)
    have f118 := cl_118 (r := r) (q := q)
    by_cases p : visitC q.1 = 0
    · rw [if_pos p] at f118
      exact ⟨by show ftI (stC 118 r q) (stX 118) = _; rw [a, b, f118, p]; decide, by rw [c, f118, if_neg (by decide)], fun z => absurd f118 z, pf_o (by decide), by unfold SgO; decide⟩
    · rw [if_neg p] at f118
      refine ⟨?_, by rw [c, f118, if_neg (by decide)], fun _ => ⟨by rw [e]; exact if_neg p, f⟩, pf_o (by decide), by unfold SgO; decide⟩
      show ftI (stC 118 r q) (stX 118) = _
      rw [a, b, f118]
      unfold ftI
      rw [if_neg p, if_neg p]
      decide
  · obtain ⟨a, b, c, e, f⟩ := st_116 (r := r) (w := w) (q := q) (s := s)
    have f116 := cl_116 (r := r) (q := q)
    refine ⟨?_, by rw [c, f116, if_neg heatC_3], fun z => ⟨by rw [e]; rw [f116] at z; exact if_neg z, f⟩, pf_o (by decide), by unfold SgO; decide⟩
    show ftI (stC 116 r q) (stX 116) = _
    rw [a, b, f116]
    unfold ftI
    by_cases p : heatC q.1 q.2.1 = 0
    · rw [if_pos p, if_pos p]
    · rw [if_neg p, if_neg p, if_neg p, if_neg heatC_3]
theorem ftI_0 {f : Int32} : ftI f 3 = 0 ↔ f = 0 := by
  unfold ftI
  by_cases e : f = 0
  · rw [if_pos e]; exact ⟨fun _ => e, fun _ => rfl⟩
  · rw [if_neg e]
    refine ⟨fun z => absurd z ?_, fun z => absurd z e⟩
    split <;> decide
theorem kn_k {o : Int32} (h : KnO o) : kOk 2 o = true := by
  rcases h with e | e | e | e | e <;> subst e <;> decide
/-- what the class's reader keeps beside the state -/
def RdI (g : AH) (I : Nat → Int32) (L : Nat) (r : Nat → Int32) (w : Nat → UInt32) : Prop := Pal g 45 r w ∧ g.1 206 7 = nI (oN0 I L + 1) ∧ ∀ k, k < oN0 I L + 1 → NtA g k (rdI I L k).2
theorem RdI.to {g g' : AH} {I : Nat → Int32} {L : Nat} {r : Nat → Int32} {w : Nat → UInt32} (R : RdI g I L r w) (e : ∀ a, (45 ≤ a ∧ a ≤ 57) ∨ (206 ≤ a ∧ a ≤ 211) → g'.1 a = g.1 a ∧ g'.2.1 a = g.2.1 a) : RdI g' I L r w :=
  ⟨R.1.same (fun a x y => e a (by omega)), by rw [(e 206 (by decide)).1]; exact R.2.1, fun k hk => ⟨by rw [(e 208 (by decide)).1]; exact (R.2.2 k hk).1, by rw [(e 209 (by decide)).1]; exact (R.2.2 k hk).2.1, by rw [(e 210 (by decide)).1]; exact (R.2.2 k hk).2.2.1, by rw [(e 211 (by decide)).1]; exact (R.2.2 k hk).2.2.2⟩⟩
theorem RdI.wk {g : AH} {I : Nat → Int32} {L : Nat} {r : Nat → Int32} {w : Nat → UInt32} {f re de : Int32} (R : RdI g I L r w) : RdI (wkH g f re de) I L r w := by
  unfold wkH
  split
  · exact R.to (fun a ha => ⟨by rw [hI_ne (by omega), hI_ne (by omega)], rfl⟩)
  · exact R
theorem RdI.frH {g g' : AH} {I : Nat → Int32} {L : Nat} {r : Nat → Int32} {w : Nat → UInt32} (R : RdI g I L r w) (F : FrH 32 72 g g') : RdI g' I L r w := R.to (fun a ha => ⟨(F.1 a (by omega)).1 (by omega), (F.1 a (by omega)).2 (by omega)⟩)
section
variable {h h' : AH} {r r9 : Nat → Int32} {w w9 : Nat → UInt32} {S : Sv} {K : Hs} {q : Int32 × Int32} {T : Tx} {B : Nat}
theorem CS.rem2 {N : Nat} (C : CS h r w S K q T) (c1 : N < 8) (c2 : h.1 100 1 = nI N) (g1 : h'.1 100 1 = nI ((N + 1) % 8)) (g2 : h'.1 100 2 = nI (min (K.1 + 1) 8)) (g3 : Pal h' (102 + 13 * N) r9 w9) (F : FrS N h h') : CS h' r w S (pushK K r9 w9) q T := by
  obtain ⟨a1, ⟨b1, b2⟩, ⟨c0, N9, z1, z2, c3, c4⟩, ⟨d1, d2⟩, e1, e2, e3, e4⟩ := C
  have hN : N9 = N := by
    have := z2.symm.trans c2
    exact (nI_eq (by omega) (by omega)).mp this
  subst hN
  have e : ∀ a, a ≠ 100 → (a < 102 + 13 * N9 ∨ 102 + 13 * N9 + 12 < a) → h'.1 a = h.1 a ∧ h'.2.1 a = h.2.1 a := F
  refine ⟨a1.same (fun a x y => e a (by omega) (by omega)), ⟨by rw [(e 31 (by decide) (by omega)).1]; exact b1, fun s => (b2 s).same (fun a x y => e a (by omega) (by omega))⟩, ⟨Nat.min_le_right _ _, (N9 + 1) % 8, Nat.mod_lt _ (by decide), g1, g2, fun i hi => ?_⟩, ⟨by rw [(e 71 (by decide) (by omega)).1]; exact d1, by rw [(e 71 (by decide) (by omega)).1]; exact d2⟩, by rw [(e 206 (by decide) (by omega)).1]; exact e1, e2, by rw [(e 206 (by decide) (by omega)).1]; exact e3, by rw [(e 207 (by decide) (by omega)).1]; exact e4⟩
  have hi : i < min (K.1 + 1) 8 := hi
  show Pal h' (102 + 13 * (((N9 + 1) % 8 + 8 - min (K.1 + 1) 8 + i) % 8)) (if i = min K.1 7 then r9 else K.2.1 (if K.1 = 8 then i + 1 else i)) (if i = min K.1 7 then w9 else K.2.2 (if K.1 = 8 then i + 1 else i))
  by_cases e9 : i = min K.1 7
  · rw [if_pos e9, if_pos e9, show ((N9 + 1) % 8 + 8 - min (K.1 + 1) 8 + i) % 8 = N9 by omega]
    exact g3
  · rw [if_neg e9, if_neg e9]
    have hi2 : (if K.1 = 8 then i + 1 else i) < K.1 := by split <;> omega
    have hne : (N9 + 8 - K.1 + (if K.1 = 8 then i + 1 else i)) % 8 ≠ N9 := by split <;> omega
    have hm : (N9 + 8 - K.1 + (if K.1 = 8 then i + 1 else i)) % 8 < 8 := Nat.mod_lt _ (by decide)
    rw [show ((N9 + 1) % 8 + 8 - min (K.1 + 1) 8 + i) % 8 = (N9 + 8 - K.1 + (if K.1 = 8 then i + 1 else i)) % 8 by split <;> omega]
    exact (c4 _ hi2).same (fun a x y => e a (by omega) (by omega))
theorem p_read_loop (n d : Nat) {I : Nat → Int32} {L : Nat} {x1 : Int32} (c0 : CyS) (Iv : Inv B c0.2.1 c0.2.2.1) (hB : B + 3000 < 2 ^ 30) (hs : stP9 I L (oN0 I L) = true) (hw : (rdI I L (oN0 I L)).1.2 = false) (hN : oN0 I L + 1 ≤ 60) {Q : Out → Prop} (KX : ∀ g f i, ftI f 3 = (cyN I L c0 (oN0 I L + 1)).1 → CS g (cyN I L c0 (oN0 I L + 1)).2.1 (cyN I L c0 (oN0 I L + 1)).2.2.1 S K (cyN I L c0 (oN0 I L + 1)).2.2.2 T → RdI g I L r w → TX (n + 1) (d + 7) mX10_read 155 [(0, .ref 31), (1, .int x1), (2, .int f), (3, .int i)] [] g Q) : ∀ (m i : Nat) (g : AH) (f : Int32), i + m = oN0 I L + 1 → ftI f 3 = (cyN I L c0 i).1 → CS g (cyN I L c0 i).2.1 (cyN I L c0 i).2.2.1 S K (cyN I L c0 i).2.2.2 T → RdI g I L r w → TX (n + 1) (d + 7) mX10_read 42 [(0, .ref 31), (1, .int x1), (2, .int f), (3, .int (nI i))] [] g Q
  | 0, i, g, f, hi, hf, C, R => by
    have hi : i = oN0 I L + 1 := by omega
    subst hi
    have Z := KX g f (nI (oN0 I L + 1)) hf C R
    have Nu := p_number (d + 6) g
    rw [R.2.1] at Nu
    iterate 3 refine et_s rfl ?_
    refine et_c rfl rfl ⟨Nat.le_of_ble_eq_true rfl, Nat.le_of_ble_eq_true rfl⟩ (Nu) ?_
    refine et_b rfl rfl (fun _ => ?_) (fun q => absurd (Int32.le_refl _) q)
    exact et_sub (sub4 rfl rfl rfl rfl) Z
  | m + 1, i, g, f, hi, hf, C, R => by
    have Nu := p_number (d + 6) g
    rw [R.2.1] at Nu
    by_cases c1 : (cyN I L c0 i).1 = 0
    · obtain ⟨ok1, -⟩ := rd_ok hs hw (i := i) (by omega) (by omega)
      obtain ⟨B', b1, b2⟩ := cy_Inv (I := I) (L := L) Iv hB i (by omega)
      have kn := (kn_w ok1).2
      have ec : cyN I L c0 (i + 1) = cyS I L i (cyN I L c0 i) := rfl
      unfold cyS at ec
      rw [if_pos c1] at ec
      have f0 : f = 0 := ftI_0.mp (hf.trans c1)
      subst f0
      obtain ⟨s1, s2, s3, ⟨s4, s5⟩, s6⟩ := st_cl kn (cyN I L c0 i).2.1 (cyN I L c0 i).2.2.1 (rdI I L i).2.2 (cyN I L c0 i).2.2.2
      have hi60 : i < 60 := by omega
      have nt := R.2.2 i (by omega)
      have A1 := p_signOf (d + 6) hi60 g (by rw [nt.1]; exact kn_k kn)
      have A2 := p_firstOf (d + 6) hi60 g
      have A3 := p_secondOf (d + 6) hi60 g
      have A4 := p_thirdOf (d + 6) hi60 g
      rw [nt.1] at A1
      rw [nt.2.1] at A2
      rw [nt.2.2.1] at A3
      rw [nt.2.2.2] at A4
      have F := p_faultOf (d + 3) C.1 b2.1.1 s6 (rdI I L i).2.2
      have C2 := C.wk (f := clF (rdI I L i).2.1 (cyN I L c0 i).2.1 (rdI I L i).2.2) (re := (clD (rdI I L i).2.1 (cyN I L c0 i).2.1 (rdI I L i).2.2).1) (de := (clD (rdI I L i).2.1 (cyN I L c0 i).2.1 (rdI I L i).2.2).2)
      have R2 := R.wk (f := clF (rdI I L i).2.1 (cyN I L c0 i).2.1 (rdI I L i).2.2) (re := (clD (rdI I L i).2.1 (cyN I L c0 i).2.1 (rdI I L i).2.2).1) (de := (clD (rdI I L i).2.1 (cyN I L c0 i).2.1 (rdI I L i).2.2).2)
      have IH := p_read_loop n d c0 Iv hB hs hw hN KX m (i + 1)
      rw [ec] at IH
      by_cases c2 : clF (rdI I L i).2.1 (cyN I L c0 i).2.1 (rdI I L i).2.2 = 0
      · have nt2 := R2.2.2 i (by omega)
        have G1 := p_signOf (d + 6) hi60 _ (by rw [nt2.1]; exact kn_k kn)
        have G2 := p_firstOf (d + 6) hi60 (wkH g (clF (rdI I L i).2.1 (cyN I L c0 i).2.1 (rdI I L i).2.2) (clD (rdI I L i).2.1 (cyN I L c0 i).2.1 (rdI I L i).2.2).1 (clD (rdI I L i).2.1 (cyN I L c0 i).2.1 (rdI I L i).2.2).2)
        have G3 := p_secondOf (d + 6) hi60 (wkH g (clF (rdI I L i).2.1 (cyN I L c0 i).2.1 (rdI I L i).2.2) (clD (rdI I L i).2.1 (cyN I L c0 i).2.1 (rdI I L i).2.2).1 (clD (rdI I L i).2.1 (cyN I L c0 i).2.1 (rdI I L i).2.2).2)
        have G4 := p_thirdOf (d + 6) hi60 (wkH g (clF (rdI I L i).2.1 (cyN I L c0 i).2.1 (rdI I L i).2.2) (clD (rdI I L i).2.1 (cyN I L c0 i).2.1 (rdI I L i).2.2).1 (clD (rdI I L i).2.1 (cyN I L c0 i).2.1 (rdI I L i).2.2).2)
        rw [nt2.1] at G1
        rw [nt2.2.1] at G2
        rw [nt2.2.2.1] at G3
        rw [nt2.2.2.2] at G4
        have PF := p_perform d C2.1 b2 (by omega) s6 (rdI I L i).2.2 c2
        iterate 3 refine et_s rfl ?_
        refine et_c rfl rfl ⟨Nat.le_of_ble_eq_true rfl, Nat.le_of_ble_eq_true rfl⟩ (Nu) ?_
        refine et_b rfl rfl (fun q => absurd q (nI_ge (by omega) (by omega))) (fun _ => ?_)
        refine et_s rfl ?_
        refine et_b rfl rfl (fun q => absurd q (fun z => z rfl)) (fun _ => ?_)
        iterate 7 refine et_s rfl ?_
        refine et_c rfl rfl ⟨Nat.le_of_ble_eq_true rfl, Nat.le_of_ble_eq_true rfl⟩ (A1) ?_
        iterate 3 refine et_s rfl ?_
        refine et_c rfl rfl ⟨Nat.le_of_ble_eq_true rfl, Nat.le_of_ble_eq_true rfl⟩ (A2) ?_
        iterate 3 refine et_s rfl ?_
        refine et_c rfl rfl ⟨Nat.le_of_ble_eq_true rfl, Nat.le_of_ble_eq_true rfl⟩ (A3) ?_
        iterate 3 refine et_s rfl ?_
        refine et_c rfl rfl ⟨Nat.le_of_ble_eq_true rfl, Nat.le_of_ble_eq_true rfl⟩ (A4) ?_
        refine et_c rfl rfl ⟨Nat.le_of_ble_eq_true rfl, Nat.le_of_ble_eq_true rfl⟩ (F) ?_
        iterate 2 refine et_s rfl ?_
        refine et_b rfl rfl (fun q => absurd q (fun z => z c2)) (fun _ => ?_)
        iterate 7 refine et_s rfl ?_
        refine et_c rfl rfl ⟨Nat.le_of_ble_eq_true rfl, Nat.le_of_ble_eq_true rfl⟩ (G1) ?_
        iterate 3 refine et_s rfl ?_
        refine et_c rfl rfl ⟨Nat.le_of_ble_eq_true rfl, Nat.le_of_ble_eq_true rfl⟩ (G2) ?_
        iterate 3 refine et_s rfl ?_
        refine et_c rfl rfl ⟨Nat.le_of_ble_eq_true rfl, Nat.le_of_ble_eq_true rfl⟩ (G3) ?_
        iterate 3 refine et_s rfl ?_
        refine et_c rfl rfl ⟨Nat.le_of_ble_eq_true rfl, Nat.le_of_ble_eq_true rfl⟩ (G4) ?_
        refine et_xc rfl rfl ⟨Nat.le_of_ble_eq_true rfl, Nat.le_of_ble_eq_true rfl⟩ (PF) (fun rv9 h9 p9 => ?_)
        obtain ⟨rfl, P4, F4⟩ := p9
        have C3 := C2.frH P4 F4
        rw [s4, s5, ← s2] at C3
        have R3 := R2.frH F4
        iterate 2 refine et_s rfl ?_
        refine et_g rfl rfl ?_
        rw [nI_1]
        exact et_sub (sub4 rfl rfl rfl rfl) (IH h9 _ (by omega) s1.symm C3 R3)
      · obtain ⟨s7, s8⟩ := s3 c2
        rw [← s2] at C2
        rw [s7, s8] at IH
        iterate 3 refine et_s rfl ?_
        refine et_c rfl rfl ⟨Nat.le_of_ble_eq_true rfl, Nat.le_of_ble_eq_true rfl⟩ (Nu) ?_
        refine et_b rfl rfl (fun q => absurd q (nI_ge (by omega) (by omega))) (fun _ => ?_)
        refine et_s rfl ?_
        refine et_b rfl rfl (fun q => absurd q (fun z => z rfl)) (fun _ => ?_)
        iterate 7 refine et_s rfl ?_
        refine et_c rfl rfl ⟨Nat.le_of_ble_eq_true rfl, Nat.le_of_ble_eq_true rfl⟩ (A1) ?_
        iterate 3 refine et_s rfl ?_
        refine et_c rfl rfl ⟨Nat.le_of_ble_eq_true rfl, Nat.le_of_ble_eq_true rfl⟩ (A2) ?_
        iterate 3 refine et_s rfl ?_
        refine et_c rfl rfl ⟨Nat.le_of_ble_eq_true rfl, Nat.le_of_ble_eq_true rfl⟩ (A3) ?_
        iterate 3 refine et_s rfl ?_
        refine et_c rfl rfl ⟨Nat.le_of_ble_eq_true rfl, Nat.le_of_ble_eq_true rfl⟩ (A4) ?_
        refine et_c rfl rfl ⟨Nat.le_of_ble_eq_true rfl, Nat.le_of_ble_eq_true rfl⟩ (F) ?_
        iterate 2 refine et_s rfl ?_
        refine et_b rfl rfl (fun _ => ?_) (fun q => absurd c2 q)
        refine et_s rfl ?_
        refine et_g rfl rfl ?_
        rw [nI_1]
        exact et_sub (sub4 rfl rfl rfl rfl) (IH _ _ (by omega) s1.symm C2 R2)
    · have e : cyN I L c0 (oN0 I L + 1) = cyN I L c0 i := by
        have := cyN_stop (I := I) (L := L) (c := c0) c1 (m + 1)
        rw [show i + (m + 1) = oN0 I L + 1 by omega] at this
        exact this
      have f0 : f ≠ 0 := fun z => c1 (hf.symm.trans (ftI_0.mpr z))
      have Z := KX g f (nI i) (by rw [e]; exact hf) (by rw [e]; exact C) R
      iterate 3 refine et_s rfl ?_
      refine et_c rfl rfl ⟨Nat.le_of_ble_eq_true rfl, Nat.le_of_ble_eq_true rfl⟩ (Nu) ?_
      refine et_b rfl rfl (fun q => absurd q (nI_ge (by omega) (by omega))) (fun _ => ?_)
      refine et_s rfl ?_
      refine et_b rfl rfl (fun _ => ?_) (fun q => absurd f0 q)
      exact et_sub (sub4 rfl rfl rfl rfl) Z
end
end
