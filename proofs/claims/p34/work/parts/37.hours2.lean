-- needs: 36
noncomputable section
theorem Pal.h1 {h : AH} {k i : Nat} {r : Nat → Int32} {w : Nat → UInt32} {x : Int32} (P : Pal h k r w) (hi : i < 5) (h4 : i ≠ 4) : Pal (hI h k i x) k (upd r i x) w := by
  have eb : ∀ b y, ofB (upd r i x) b y = ofB r b y := fun b y => upd_ne (by omega)
  have eC : CN (upd r i x) = CN r := upd_CN h4
  have ein : ∀ q p, blkIn (upd r i x) q p = blkIn r q p := fun q p => by
    unfold blkIn
    rw [eC]
    exact fstP_congr _ _ (fun j _ _ => by unfold inP; rw [eb, eb, eb])
  refine ⟨fun j hj => ?_, fun j hj => ?_, fun b hb => ?_, fun b hb hb2 => ?_, fun j hj => ?_, fun q p hq hp => ?_⟩
  · rw [hI_at]
    unfold upd
    split
    · rfl
    · exact P.1 j hj
  · rw [hI_ne (by omega), upd_ne (by omega)]; exact P.2.1 j hj
  · rw [eC] at hb
    obtain ⟨a1, a2, a3, a4⟩ := P.2.2.1 b hb
    refine ⟨by rw [hI_ne (by omega), eb]; exact a1, by rw [hI_ne (by omega), eb]; exact a2, a3, fun o h1 h2 => by rw [hI_ne (by omega), eb]; exact a4 o h1 h2⟩
  · rw [eC] at hb
    rw [hI_ne (by omega), hI_ne (by omega), hI_ne (by omega), hI_ne (by omega), hI_ne (by omega), hI_ne (by omega)]
    exact P.2.2.2.1 b hb hb2
  · rw [hI_ne (by omega), upd_ne (by omega)]; exact P.2.2.2.2.1 j hj
  · rw [hI_ne (by omega), ein, eC]; exact P.2.2.2.2.2 q p hq hp
theorem clamp_eq (x : Int32) : (if 0 < (if x < 60 then x else 60) then (if x < 60 then x else 60) else 0) = clampI x := by
  unfold clampI
  by_cases h1 : x < 60
  · rw [if_pos h1, if_neg (Int32.not_lt.mpr (Int32.le_of_lt h1))]
    by_cases h2 : 0 < x
    · rw [if_pos h2, if_neg (Int32.not_lt.mpr (Int32.le_of_lt h2))]
    · rw [if_neg h2]
      by_cases h3 : x < 0
      · rw [if_pos h3]
      · rw [if_neg h3]
        exact Int32.le_antisymm (Int32.not_lt.mp h3) (Int32.not_lt.mp h2)
  · rw [if_neg h1, if_pos (by decide)]
    have h2 : ¬ x < 0 := fun q => h1 (Int32.lt_trans q (by decide))
    rw [if_neg h2]
    by_cases h3 : 60 < x
    · rw [if_pos h3]
    · rw [if_neg h3]
      exact Int32.le_antisymm (Int32.not_lt.mp h1) (Int32.not_lt.mp h3)
theorem p_ice (d : Nat) {k m : Nat} (hL : PalL k) {h : AH} {r : Nat → Int32} {w : Nat → UInt32} (P : Pal h k r w) (t : Int32) : EvM d mX4_changeIce [.ref m, .ref k, .int t] h none (hI h k 1 (clampI (r 1 + moreI t))) := by
  have L0 := hL.1
  have e1 : h.1 k 1 = r 1 := P.hd (by decide)
  unfold moreI
  by_cases ht : t < 0
  · rw [if_pos ht, ← clamp_eq, ← e1]
    show EvR _ _ 0 [(0, _), (1, _), (2, _)] [] _ _ _
    refine er_s rfl ?_
    refine er_f rfl L0 rfl ?_
    iterate 2 refine er_s rfl ?_
    refine er_b rfl rfl (fun q => absurd q (Int32.not_le.mpr ht)) (fun _ => ?_)
    iterate 7 refine er_s rfl ?_
    refine er_g rfl rfl ?_
    iterate 6 refine er_s rfl ?_
    refine er_p rfl L0 rfl rfl ?_
    refine er_q rfl ?_ ?_
    · rfl
    · rfl
  · rw [if_neg ht, ← clamp_eq, ← e1, ← Int32.sub_eq_add_neg]
    show EvR _ _ 0 [(0, _), (1, _), (2, _)] [] _ _ _
    refine er_s rfl ?_
    refine er_f rfl L0 rfl ?_
    iterate 2 refine er_s rfl ?_
    refine er_b rfl rfl (fun _ => ?_) (fun q => absurd (Int32.not_lt.mp ht) q)
    iterate 12 refine er_s rfl ?_
    refine er_p rfl L0 rfl rfl ?_
    refine er_q rfl ?_ ?_
    · rfl
    · rfl
/-- joints in the making -/
def jtF (r : Nat → Int32) (i : Nat) (f : Nat → Int32) : Nat → Int32 := fun b => if b < i then ofB r b 5 else f b
theorem jtF_u {r f : Nat → Int32} {i : Nat} {x : Int32} (e : ofB r i 5 = x) : upd (jtF r i f) i x = jtF r (i + 1) f := by
  funext b
  unfold upd jtF
  by_cases e1 : b = i
  · rw [if_pos e1, if_pos (by omega), e1, e]
  · rw [if_neg e1]
    by_cases e2 : b < i
    · rw [if_pos e2, if_pos (by omega)]
    · rw [if_neg e2, if_neg (by omega)]
theorem jtF_n {r f : Nat → Int32} {i : Nat} (e : ofB r i 5 = f i) : jtF r i f = jtF r (i + 1) f := by
  rw [← jtF_u e]
  funext b
  unfold upd
  split
  · next e1 => rw [e1]; exact if_neg (Nat.lt_irrefl i)
  · rfl
theorem joint_eq {x j : Int32} (h : x = nI x.toNatClampNeg ∧ x.toNatClampNeg ≤ 9) (hj : j = 1 ∨ j = -1 ∨ j = 0) : (if 0 < (if x + j < 9 then x + j else 9) then (if x + j < 9 then x + j else 9) else 0) = if 0 ≤ x + j ∧ x + j ≤ 9 then x + j else x := by
  obtain ⟨h1, h2⟩ := h
  generalize x.toNatClampNeg = n at h1 h2
  subst h1
  have key : ∀ n ∈ List.range 10, ∀ j ∈ [(1 : Int32), -1, 0], (if 0 < (if nI n + j < 9 then nI n + j else 9) then (if nI n + j < 9 then nI n + j else 9) else 0) = if 0 ≤ nI n + j ∧ nI n + j ≤ 9 then nI n + j else nI n := by decide +kernel
  exact key n (List.mem_range.mpr (by omega)) j (by rcases hj with rfl | rfl | rfl <;> decide)
theorem jointN_3 (t : Int32) : jointN t = 1 ∨ jointN t = -1 ∨ jointN t = 0 := by
  unfold jointN
  split
  · exact Or.inl rfl
  · split
    · exact Or.inr (Or.inl rfl)
    · exact Or.inr (Or.inr rfl)
theorem jointsR_at {j : Int32} {r : Nat → Int32} (hw : Wel r) (hj : j = 1 ∨ j = -1 ∨ j = 0) {b : Nat} (hb : b < CN r) : ofB (jointsR j (CN r) r) b 5 = if ofB r b 2 = 1 then (if 0 < (if ofB r b 5 + j < 9 then ofB r b 5 + j else 9) then (if ofB r b 5 + j < 9 then ofB r b 5 + j else 9) else 0) else ofB r b 5 := by
  rw [jointsR_5 hb]
  by_cases hs : ofB r b 2 = 1
  · obtain ⟨p1, p2, p3, p4, p5, p6⟩ := (hw.2.2 b hb).2 hs
    rw [if_pos hs, joint_eq ⟨p5, p6⟩ hj]
    by_cases q : 0 ≤ ofB r b 5 + j ∧ ofB r b 5 + j ≤ 9
    · rw [if_pos q, if_pos (jointSb_t.mpr ⟨hs, q⟩)]
    · rw [if_neg q, if_neg (fun z => q (jointSb_t.mp z).2)]
  · rw [if_neg hs, if_neg (fun z => hs (jointSb_t.mp z).1)]
theorem Pal.jt8 {h : AH} {k : Nat} {r : Nat → Int32} {w : Nat → UInt32} {j : Int32} (P : Pal h k r w) : Pal (hIr h (k + 8) (jtF (jointsR j (CN r) r) (CN r) (h.1 (k + 8)))) k (jointsR j (CN r) r) w := by
  have eC : CN (jointsR j (CN r) r) = CN r := by show (jointsR j (CN r) r 4).toNatClampNeg = _; rw [jointsR_hd (by decide)]
  have ein : ∀ q p, blkIn (jointsR j (CN r) r) q p = blkIn r q p := fun q p => by
    unfold blkIn
    rw [eC]
    exact fstP_congr _ _ (fun i _ _ => by unfold inP; rw [jointsR_b (by decide) (by decide), jointsR_b (by decide) (by decide), jointsR_b (by decide) (by decide)])
  refine ⟨fun i hi => ?_, fun i hi => ?_, fun b hb => ?_, fun b hb hb2 => ?_, fun i hi => ?_, fun q p hq hp => ?_⟩
  · rw [hIr_ne (by omega), jointsR_hd (by omega)]; exact P.1 i hi
  · rw [hIr_ne (by omega), jointsR_hd (by omega)]; exact P.2.1 i hi
  · rw [eC] at hb
    obtain ⟨a1, a2, a3, a4⟩ := P.2.2.1 b hb
    refine ⟨by rw [hIr_ne (by omega), jointsR_b (by decide) (by decide)]; exact a1, by rw [hIr_ne (by omega), jointsR_b (by decide) (by decide)]; exact a2, a3, fun o h1 h2 => ?_⟩
    by_cases e : o = 5
    · subst e
      show (hIr h (k + 8) _).1 (k + 8) b = _
      rw [hIr_at]
      exact if_pos hb
    · rw [hIr_ne (by omega), jointsR_b h2 e]; exact a4 o h1 h2
  · rw [eC] at hb
    have := P.2.2.2.1 b hb hb2
    rw [hIr_ne (by omega), hIr_ne (by omega), hIr_ne (by omega), hIr_at, hIr_ne (by omega), hIr_ne (by omega), show jtF (jointsR j (CN r) r) (CN r) (h.1 (k + 8)) b = h.1 (k + 8) b from if_neg (by omega)]
    exact this
  · rw [hIr_ne (by omega), jointsR_hd (by omega)]; exact P.2.2.2.2.1 i hi
  · rw [hIr_ne (by omega), ein, eC]; exact P.2.2.2.2.2 q p hq hp
theorem p_jo_loop (d : Nat) {k m : Nat} (hL : PalL k) {h : AH} {r : Nat → Int32} {w : Nat → UInt32} (P : Pal h k r w) (hw : Wel r) (t j : Int32) (hj : j = 1 ∨ j = -1 ∨ j = 0) : ∀ (n i : Nat), i + n = CN r → EvR (d + 1) mX4_changeJoints 22 [(0, .ref m), (1, .ref k), (3, .int j), (4, .int (nI i))] [] (hIr h (k + 8) (jtF (jointsR j (CN r) r) i (h.1 (k + 8)))) none (hIr h (k + 8) (jtF (jointsR j (CN r) r) (CN r) (h.1 (k + 8)))) := by
  have h40 := hw.2.1
  have hL2 := hL
  obtain ⟨L0, L1, L2, L3, L4, L5, L6, L7, L8, L9, L10, L11, L12⟩ := hL2
  intro n
  induction n with
  | zero =>
    intro i hi
    have hi : i = CN r := by omega
    subst hi
    by_cases h4 : CN r < 40
    · iterate 2 refine er_s rfl ?_
      refine er_b rfl rfl (fun q => absurd q (nI_ge (b := 40) h4 (by decide))) (fun _ => ?_)
      iterate 2 refine er_s rfl ?_
      refine er_f rfl L0 rfl ?_
      refine er_b rfl rfl (fun _ => ?_) (fun q => absurd (by rw [hIr_ne (by omega), P.hd (by decide), hw.1]; exact Int32.le_refl _) q)
      refine er_q rfl ?_ ?_
      · rfl
      · rfl
    · iterate 2 refine er_s rfl ?_
      refine er_b rfl rfl (fun _ => ?_) (fun q => absurd (nI_le (a := 40) (by omega) (by omega)) q)
      refine er_q rfl ?_ ?_
      · rfl
      · rfl
  | succ n ih =>
    intro i hi
    have IH := ih (i + 1) (by omega)
    have hiC : i < CN r := by omega
    have W := p_isOnWall d hL (b := i) (by omega) (hIr h (k + 8) (jtF (jointsR j (CN r) r) i (h.1 (k + 8))))
    rw [hIr_ne (by omega), P.st hiC] at W
    have ej := jointsR_at hw hj hiC
    have e8 : jtF (jointsR j (CN r) r) i (h.1 (k + 8)) i = ofB r i 5 := by rw [← P.jt hiC]; exact if_neg (Nat.lt_irrefl i)
    by_cases hs : ofB r i 2 = 1
    · rw [if_pos hs] at ej
      rw [← jtF_u ej] at IH
      iterate 2 refine er_s rfl ?_
      refine er_b rfl rfl (fun q => absurd q (nI_ge (b := 40) (by omega) (by decide))) (fun _ => ?_)
      iterate 2 refine er_s rfl ?_
      refine er_f rfl L0 rfl ?_
      refine er_b rfl rfl (fun q => absurd q (by rw [hIr_ne (by omega), P.hd (by decide), hw.1]; exact nI_ge hiC (by omega))) (fun _ => ?_)
      iterate 2 refine er_s rfl ?_
      refine er_v1 rfl L0 rfl ⟨Nat.le_of_ble_eq_true rfl, Nat.le_of_ble_eq_true rfl⟩ (W) ?_
      refine er_b rfl rfl (fun q => absurd q (fun q => bI_eq.mp q hs)) (fun _ => ?_)
      refine er_s rfl ?_
      refine er_f rfl L0 rfl ?_
      iterate 4 refine er_s rfl ?_
      refine er_f rfl L0 rfl ?_
      refine er_s rfl ?_
      refine er_il rfl L8 (vi) ?_
      rw [hIr_at, cl i, e8]
      iterate 4 refine er_s rfl ?_
      refine er_is rfl L8 (vi) ?_
      refine er_s rfl ?_
      refine er_g rfl rfl ?_
      rw [nI_1, cl i, hI_hIr]
      exact er_sub (sub4 rfl rfl rfl rfl) IH
    · rw [if_neg hs] at ej
      rw [← jtF_n (ej.trans (P.jt hiC).symm)] at IH
      iterate 2 refine er_s rfl ?_
      refine er_b rfl rfl (fun q => absurd q (nI_ge (b := 40) (by omega) (by decide))) (fun _ => ?_)
      iterate 2 refine er_s rfl ?_
      refine er_f rfl L0 rfl ?_
      refine er_b rfl rfl (fun q => absurd q (by rw [hIr_ne (by omega), P.hd (by decide), hw.1]; exact nI_ge hiC (by omega))) (fun _ => ?_)
      iterate 2 refine er_s rfl ?_
      refine er_v1 rfl L0 rfl ⟨Nat.le_of_ble_eq_true rfl, Nat.le_of_ble_eq_true rfl⟩ (W) ?_
      refine er_b rfl rfl (fun _ => ?_) (fun q => absurd (bI_eq.mpr hs) q)
      refine er_s rfl ?_
      refine er_g rfl rfl ?_
      rw [nI_1]
      exact er_sub (sub4 rfl rfl rfl rfl) IH
theorem p_joints (d : Nat) {k m : Nat} (hL : PalL k) {h : AH} {r : Nat → Int32} {w : Nat → UInt32} (P : Pal h k r w) (hw : Wel r) (t : Int32) : EvM (d + 1) mX4_changeJoints [.ref m, .ref k, .int t] h none (hIr h (k + 8) (jtF (jointsR (jointN t) (CN r) r) (CN r) (h.1 (k + 8)))) := by
  have Z := p_jo_loop d (m := m) hL P hw t (jointN t) (jointN_3 t) (CN r) 0 (by omega)
  rw [show jtF (jointsR (jointN t) (CN r) r) 0 (h.1 (k + 8)) = h.1 (k + 8) from by funext b; exact if_neg (Nat.not_lt_zero b), hIr_self] at Z
  unfold jointN at Z ⊢
  by_cases h1 : t < 0
  · rw [if_pos h1] at Z ⊢
    show EvR _ _ 0 [(0, _), (1, _), (2, _)] [] _ _ _
    refine er_s rfl ?_
    refine er_b rfl rfl (fun q => absurd q (Int32.not_le.mpr h1)) (fun _ => ?_)
    refine er_s rfl ?_
    refine er_g rfl rfl ?_
    iterate 3 refine er_s rfl ?_
    exact er_sub (sub4 rfl rfl rfl rfl) Z
  · rw [if_neg h1] at Z ⊢
    by_cases h2 : 5 < t
    · rw [if_pos h2] at Z ⊢
      show EvR _ _ 0 [(0, _), (1, _), (2, _)] [] _ _ _
      refine er_s rfl ?_
      refine er_b rfl rfl (fun _ => ?_) (fun q => absurd (Int32.not_lt.mp h1) q)
      iterate 2 refine er_s rfl ?_
      refine er_b rfl rfl (fun q => absurd q (Int32.not_le.mpr h2)) (fun _ => ?_)
      refine er_s rfl ?_
      refine er_g rfl rfl ?_
      iterate 3 refine er_s rfl ?_
      exact er_sub (sub4 rfl rfl rfl rfl) Z
    · rw [if_neg h2] at Z ⊢
      show EvR _ _ 0 [(0, _), (1, _), (2, _)] [] _ _ _
      refine er_s rfl ?_
      refine er_b rfl rfl (fun _ => ?_) (fun q => absurd (Int32.not_lt.mp h1) q)
      iterate 2 refine er_s rfl ?_
      refine er_b rfl rfl (fun _ => ?_) (fun q => absurd (Int32.not_lt.mp h2) q)
      iterate 4 refine er_s rfl ?_
      exact er_sub (sub4 rfl rfl rfl rfl) Z
/-- masses in the making -/
def mapF (g : Nat → UInt32) (i : Nat) (f : Nat → UInt32) : Nat → UInt32 := fun b => if b < i then g b else f b
theorem mapF_u {g f : Nat → UInt32} {i : Nat} {x : UInt32} (e : g i = x) : vf_upd (mapF g i f) i x = mapF g (i + 1) f := by
  funext b
  unfold vf_upd mapF
  by_cases e1 : b = i
  · rw [if_pos e1, if_pos (by omega), e1, e]
  · rw [if_neg e1]
    by_cases e2 : b < i
    · rw [if_pos e2, if_pos (by omega)]
    · rw [if_neg e2, if_neg (by omega)]
theorem mapF_n {g f : Nat → UInt32} {i : Nat} (e : g i = f i) : mapF g i f = mapF g (i + 1) f := by
  rw [← mapF_u e]
  funext b
  unfold vf_upd
  split
  · next e1 => rw [e1]; exact if_neg (Nat.lt_irrefl i)
  · rfl
theorem mapF_0 {g f : Nat → UInt32} : mapF g 0 f = f := by funext b; exact if_neg (Nat.not_lt_zero b)
theorem mapF_i {g f : Nat → UInt32} {i : Nat} : mapF g i f i = f i := if_neg (Nat.lt_irrefl i)
theorem Pal.mass {h : AH} {k : Nat} {r : Nat → Int32} {w g : Nat → UInt32} (P : Pal h k r w) {f : Nat → UInt32} : Pal (hFr h (k + 4) (mapF g (CN r) f)) k r g :=
  ⟨P.1, P.2.1, fun b hb => ⟨P.kd hb, P.ln hb, by rw [hFr_at]; exact if_pos hb, (P.2.2.1 b hb).2.2.2⟩, P.2.2.2.1, P.2.2.2.2.1, P.2.2.2.2.2⟩
theorem Pal.wc {h : AH} {k : Nat} {r : Nat → Int32} {w w' : Nat → UInt32} (P : Pal h k r w) (e : ∀ b, b < CN r → w b = w' b) : Pal h k r w' :=
  ⟨P.1, P.2.1, fun b hb => ⟨P.kd hb, P.ln hb, (P.ms hb).trans (e b hb), (P.2.2.1 b hb).2.2.2⟩, P.2.2.2.1, P.2.2.2.2.1, P.2.2.2.2.2⟩
def sunG (r : Nat → Int32) (w : Nat → UInt32) (hr t : Int32) : Nat → UInt32 := fun b => if ofB r b 2 = 1 then meltA (w b) (shadR r b hr) t else w b
def warmG (r : Nat → Int32) (w : Nat → UInt32) : Nat → UInt32 := fun b => if ofB r b 2 = 1 then warmA (w b) (ofB r b 4) (r 3) else w b
/-- the layout of the hours -/
def HouL (m : Nat) : Prop := layAt m = (0, 2, [m + 4, m + 6]) ∧ LodL (m + 1) ∧ OutL (m + 3)
theorem p_melt (d : Nat) {k m : Nat} (hL : PalL k) (hH : HouL m) (hkm : m + 4 < k ∨ k + 12 < m) {h : AH} {r : Nat → Int32} {w : Nat → UInt32} (P : Pal h k r w) (hw : Wel r) (hm : MasW r w) (hr : Int32) {t : Int32} (h0 : 0 < t) (ht : t ≤ 20) : EvM (d + 3) mX4_melt [.ref m, .ref k, .int hr, .int t] h none (hFr (hIr h (m + 4) (hgF r 12 (h.1 (m + 4)))) (k + 4) (mapF (sunG r w hr t) (CN r) (h.2.1 (k + 4)))) := by
  have h40 := hw.2.1
  have hL2 := hL
  obtain ⟨L0, L1, L2, L3, L4, L5, L6, L7, L8, L9, L10, L11, L12⟩ := hL2
  obtain ⟨H0, hN, hO⟩ := hH
  obtain ⟨O0, O1⟩ := id hO
  have M := p_measure (d + 0) hL hO (by omega) P
  have P1 := P.ir (m := m + 4) (f := hgF r 12 (h.1 (m + 4))) (by omega)
  have hh : ∀ j, j < 12 → (hIr h (m + 4) (hgF r 12 (h.1 (m + 4)))).1 (m + 3 + 1) j = nI (hgtN r j 8) := fun j hj => by
    show (hIr h (m + 4) _).1 (m + 4) j = _
    rw [hIr_at]
    exact if_pos hj
  generalize hg : hIr h (m + 4) (hgF r 12 (h.1 (m + 4))) = g at P1 hh
  have ef : g.2.1 (k + 4) = h.2.1 (k + 4) := by rw [← hg]; rfl
  have Lp : ∀ (n i : Nat), i + n = CN r → EvR (d + 3) mX4_melt 11 [(0, .ref m), (1, .ref k), (2, .int hr), (3, .int t), (4, .int (nI i))] [] (hFr g (k + 4) (mapF (sunG r w hr t) i (h.2.1 (k + 4)))) none (hFr g (k + 4) (mapF (sunG r w hr t) (CN r) (h.2.1 (k + 4)))) := by
    intro n
    induction n with
    | zero =>
      intro i hi
      have hi : i = CN r := by omega
      subst hi
      by_cases h4 : CN r < 40
      · iterate 2 refine er_s rfl ?_
        refine er_b rfl rfl (fun q => absurd q (nI_ge (b := 40) h4 (by decide))) (fun _ => ?_)
        iterate 2 refine er_s rfl ?_
        refine er_f rfl L0 rfl ?_
        refine er_b rfl rfl (fun _ => ?_) (fun q => absurd (by show g.1 k 4 ≤ _; rw [P1.hd (by decide), hw.1]; exact Int32.le_refl _) q)
        refine er_q rfl ?_ ?_
        · rfl
        · rfl
      · iterate 2 refine er_s rfl ?_
        refine er_b rfl rfl (fun _ => ?_) (fun q => absurd (nI_le (a := 40) (by omega) (by omega)) q)
        refine er_q rfl ?_ ?_
        · rfl
        · rfl
    | succ n ih =>
      intro i hi
      have IH := ih (i + 1) (by omega)
      have hiC : i < CN r := by omega
      have W := p_isOnWall (d + 2) hL (b := i) (by omega) (hFr g (k + 4) (mapF (sunG r w hr t) i (h.2.1 (k + 4))))
      rw [show (hFr g (k + 4) (mapF (sunG r w hr t) i (h.2.1 (k + 4)))).1 = g.1 from rfl, P1.st hiC] at W
      have em : mapF (sunG r w hr t) i (h.2.1 (k + 4)) i = w i := by rw [mapF_i, P.ms hiC]
      by_cases hs : ofB r i 2 = 1
      · have P2 : Pal (hFr g (k + 4) (mapF (sunG r w hr t) i (h.2.1 (k + 4)))) k r (mapF (sunG r w hr t) i (h.2.1 (k + 4))) := ⟨P1.1, P1.2.1, fun b hb => ⟨P1.kd hb, P1.ln hb, by rw [hFr_at], (P1.2.2.1 b hb).2.2.2⟩, P1.2.2.2.1, P1.2.2.2.2.1, P1.2.2.2.2.2⟩
        have S := p_isInShadow (d + 1) hL hO P2 hw hh hiC hs hr
        have eg : sunG r w hr t i = FP.fmul (w i) (sunF (shadR r i hr) t) := by
          unfold sunG meltA
          rw [if_pos hs, if_pos h0]
        rw [← mapF_u eg] at IH
        obtain ⟨m1, -⟩ := melt_ok (s := shadR r i hr) (hm i hiC hs) (fun _ => ht)
        obtain ⟨n1, n2, n3⟩ := m1 h0
        unfold sunF at n2 n3 IH
        by_cases hz : shadR r i hr = true
        · rw [hz, if_pos rfl] at n1 n2 n3 IH
          iterate 2 refine er_s rfl ?_
          refine er_b rfl rfl (fun q => absurd q (nI_ge (b := 40) (by omega) (by decide))) (fun _ => ?_)
          iterate 2 refine er_s rfl ?_
          refine er_f rfl L0 rfl ?_
          refine er_b rfl rfl (fun q => absurd q (by show ¬ g.1 k 4 ≤ _; rw [P1.hd (by decide), hw.1]; exact nI_ge hiC (by omega))) (fun _ => ?_)
          iterate 2 refine er_s rfl ?_
          refine er_v1 rfl L0 rfl ⟨Nat.le_of_ble_eq_true rfl, Nat.le_of_ble_eq_true rfl⟩ (W) ?_
          refine er_b rfl rfl (fun q => absurd q (fun q => bI_eq.mp q hs)) (fun _ => ?_)
          refine er_s rfl ?_
          refine er_f rfl H0 rfl ?_
          iterate 3 refine er_s rfl ?_
          refine er_v3 rfl O0 rfl ⟨Nat.le_of_ble_eq_true rfl, Nat.le_of_ble_eq_true rfl⟩ (S) ?_
          refine er_b rfl rfl (fun q => absurd q (fun q => bI_eq.mp q hz)) (fun _ => ?_)
          refine er_s rfl ?_
          refine er_g rfl rfl ?_
          iterate 2 refine er_s rfl ?_
          refine er_f rfl L0 rfl ?_
          iterate 2 refine er_s rfl ?_
          refine er_f rfl L0 rfl ?_
          refine er_s rfl ?_
          refine er_fl rfl L4 (vi) ?_
          rw [hFr_at, cl i, em]
          iterate 4 refine er_s rfl ?_
          refine er_fmul rfl n1 ?_
          refine er_fsub rfl n2 ?_
          refine er_fmul rfl n3 ?_
          refine er_fs rfl L4 (vi) ?_
          refine er_s rfl ?_
          refine er_g rfl rfl ?_
          rw [nI_1, cl i, hF_r2]
          exact er_sub (sub5 rfl rfl rfl rfl rfl) IH
        · rw [Bool.eq_false_iff.mpr hz, if_neg (by decide)] at n1 n2 n3 IH
          iterate 2 refine er_s rfl ?_
          refine er_b rfl rfl (fun q => absurd q (nI_ge (b := 40) (by omega) (by decide))) (fun _ => ?_)
          iterate 2 refine er_s rfl ?_
          refine er_f rfl L0 rfl ?_
          refine er_b rfl rfl (fun q => absurd q (by show ¬ g.1 k 4 ≤ _; rw [P1.hd (by decide), hw.1]; exact nI_ge hiC (by omega))) (fun _ => ?_)
          iterate 2 refine er_s rfl ?_
          refine er_v1 rfl L0 rfl ⟨Nat.le_of_ble_eq_true rfl, Nat.le_of_ble_eq_true rfl⟩ (W) ?_
          refine er_b rfl rfl (fun q => absurd q (fun q => bI_eq.mp q hs)) (fun _ => ?_)
          refine er_s rfl ?_
          refine er_f rfl H0 rfl ?_
          iterate 3 refine er_s rfl ?_
          refine er_v3 rfl O0 rfl ⟨Nat.le_of_ble_eq_true rfl, Nat.le_of_ble_eq_true rfl⟩ (S) ?_
          refine er_b rfl rfl (fun _ => ?_) (fun q => absurd (bI_eq.mpr hz) q)
          iterate 3 refine er_s rfl ?_
          refine er_f rfl L0 rfl ?_
          iterate 2 refine er_s rfl ?_
          refine er_f rfl L0 rfl ?_
          refine er_s rfl ?_
          refine er_fl rfl L4 (vi) ?_
          rw [hFr_at, cl i, em]
          iterate 4 refine er_s rfl ?_
          refine er_fmul rfl n1 ?_
          refine er_fsub rfl n2 ?_
          refine er_fmul rfl n3 ?_
          refine er_fs rfl L4 (vi) ?_
          refine er_s rfl ?_
          refine er_g rfl rfl ?_
          rw [nI_1, cl i, hF_r2]
          exact er_sub (sub5 rfl rfl rfl rfl rfl) IH
      · have eg : sunG r w hr t i = h.2.1 (k + 4) i := by rw [P.ms hiC]; exact if_neg hs
        rw [← mapF_n eg] at IH
        iterate 2 refine er_s rfl ?_
        refine er_b rfl rfl (fun q => absurd q (nI_ge (b := 40) (by omega) (by decide))) (fun _ => ?_)
        iterate 2 refine er_s rfl ?_
        refine er_f rfl L0 rfl ?_
        refine er_b rfl rfl (fun q => absurd q (by show ¬ g.1 k 4 ≤ _; rw [P1.hd (by decide), hw.1]; exact nI_ge hiC (by omega))) (fun _ => ?_)
        iterate 2 refine er_s rfl ?_
        refine er_v1 rfl L0 rfl ⟨Nat.le_of_ble_eq_true rfl, Nat.le_of_ble_eq_true rfl⟩ (W) ?_
        refine er_b rfl rfl (fun _ => ?_) (fun q => absurd (bI_eq.mpr hs) q)
        refine er_s rfl ?_
        refine er_g rfl rfl ?_
        rw [nI_1]
        exact er_sub (sub5 rfl rfl rfl rfl rfl) IH
  have Z := Lp (CN r) 0 (by omega)
  rw [mapF_0, ← ef, hFr_self, ef] at Z
  have M2 : EvM (d + 2) mX7_measure [.ref (m + 3), .ref k] h none g := by rw [← hg]; exact M
  show EvR _ _ 0 [(0, _), (1, _), (2, _), (3, _)] [] _ _ _
  refine er_s rfl ?_
  refine er_f rfl H0 rfl ?_
  refine er_s rfl ?_
  refine er_v1 rfl O0 rfl ⟨Nat.le_of_ble_eq_true rfl, Nat.le_of_ble_eq_true rfl⟩ (M2) ?_
  iterate 2 refine er_s rfl ?_
  exact er_sub (sub5 rfl rfl rfl rfl rfl) Z
theorem p_warm (d : Nat) {k m : Nat} (hL : PalL k) {h : AH} {r : Nat → Int32} {w : Nat → UInt32} (P : Pal h k r w) (hw : Wel r) (hm : ∀ b, b < CN r → ofB r b 2 = 1 → (w b).toNat ≤ 0x43b40000) (hv : ∃ n, n ≤ 50 ∧ r 3 = nI n) : EvM (d + 1) mX4_warm [.ref m, .ref k] h none (hFr h (k + 4) (mapF (warmG r w) (CN r) (h.2.1 (k + 4)))) := by
  have h40 := hw.2.1
  have hL2 := hL
  obtain ⟨L0, L1, L2, L3, L4, L5, L6, L7, L8, L9, L10, L11, L12⟩ := hL2
  have hv3 := hv
  obtain ⟨nv, nv1, nv2⟩ := hv3
  have wn : nn (FP.fmul 0x3dcccccd (FP.i2f (r 3))) := by rw [nv2]; exact nn_of (warm_ok nv (List.mem_range.mpr (by omega)))
  have Lp : ∀ (n i : Nat), i + n = CN r → EvR (d + 1) mX4_warm 11 [(0, .ref m), (1, .ref k), (2, .float (FP.fmul 0x3dcccccd (FP.i2f (r 3)))), (3, .int (nI i))] [] (hFr h (k + 4) (mapF (warmG r w) i (h.2.1 (k + 4)))) none (hFr h (k + 4) (mapF (warmG r w) (CN r) (h.2.1 (k + 4)))) := by
    intro n
    induction n with
    | zero =>
      intro i hi
      have hi : i = CN r := by omega
      subst hi
      by_cases h4 : CN r < 40
      · iterate 2 refine er_s rfl ?_
        refine er_b rfl rfl (fun q => absurd q (nI_ge (b := 40) h4 (by decide))) (fun _ => ?_)
        iterate 2 refine er_s rfl ?_
        refine er_f rfl L0 rfl ?_
        refine er_b rfl rfl (fun _ => ?_) (fun q => absurd (by show h.1 k 4 ≤ _; rw [P.hd (by decide), hw.1]; exact Int32.le_refl _) q)
        refine er_q rfl ?_ ?_
        · rfl
        · rfl
      · iterate 2 refine er_s rfl ?_
        refine er_b rfl rfl (fun _ => ?_) (fun q => absurd (nI_le (a := 40) (by omega) (by omega)) q)
        refine er_q rfl ?_ ?_
        · rfl
        · rfl
    | succ n ih =>
      intro i hi
      have IH := ih (i + 1) (by omega)
      have hiC : i < CN r := by omega
      have W := p_isOnWall d hL (b := i) (by omega) (hFr h (k + 4) (mapF (warmG r w) i (h.2.1 (k + 4))))
      rw [show (hFr h (k + 4) (mapF (warmG r w) i (h.2.1 (k + 4)))).1 = h.1 from rfl, P.st hiC] at W
      have em : mapF (warmG r w) i (h.2.1 (k + 4)) i = w i := by rw [mapF_i, P.ms hiC]
      by_cases hs : ofB r i 2 = 1
      · obtain ⟨p1, p2, p3, p4, p5, p6⟩ := (hw.2.2 i hiC).2 hs
        by_cases hc : CU r i < 2
        · have eg : warmG r w i = FP.fsub (w i) (FP.fmul 0x3dcccccd (FP.i2f (r 3))) := by
            unfold warmG warmA
            rw [if_pos hs, if_pos (by rw [p3]; exact nI_lt (b := 2) hc (by decide))]
          rw [← mapF_u eg] at IH
          obtain ⟨-, v2, -, -⟩ := warm_ok2 (cu := 0) (hm i hiC hs) hv
          iterate 2 refine er_s rfl ?_
          refine er_b rfl rfl (fun q => absurd q (nI_ge (b := 40) (by omega) (by decide))) (fun _ => ?_)
          iterate 2 refine er_s rfl ?_
          refine er_f rfl L0 rfl ?_
          refine er_b rfl rfl (fun q => absurd q (by show ¬ h.1 k 4 ≤ _; rw [P.hd (by decide), hw.1]; exact nI_ge hiC (by omega))) (fun _ => ?_)
          iterate 2 refine er_s rfl ?_
          refine er_v1 rfl L0 rfl ⟨Nat.le_of_ble_eq_true rfl, Nat.le_of_ble_eq_true rfl⟩ (W) ?_
          refine er_b rfl rfl (fun q => absurd q (fun q => bI_eq.mp q hs)) (fun _ => ?_)
          refine er_s rfl ?_
          refine er_f rfl L0 rfl ?_
          refine er_s rfl ?_
          refine er_il rfl L7 (vi) ?_
          refine er_s rfl ?_
          refine er_b rfl rfl (fun q => absurd q (Int32.not_lt.mpr (by rw [cl i]; show h.1 (k + 7) i ≤ 1; rw [P.cu hiC, p3]; exact nI_le (b := 1) (by omega) (by decide)))) (fun _ => ?_)
          refine er_s rfl ?_
          refine er_f rfl L0 rfl ?_
          iterate 2 refine er_s rfl ?_
          refine er_f rfl L0 rfl ?_
          refine er_s rfl ?_
          refine er_fl rfl L4 (vi) ?_
          rw [hFr_at, cl i, em]
          refine er_s rfl ?_
          refine er_fsub rfl v2 ?_
          refine er_fs rfl L4 (vi) ?_
          refine er_s rfl ?_
          refine er_g rfl rfl ?_
          rw [nI_1, cl i, hF_r2]
          exact er_sub (sub4 rfl rfl rfl rfl) IH
        · have eg : warmG r w i = h.2.1 (k + 4) i := by
            rw [P.ms hiC]
            unfold warmG warmA
            rw [if_pos hs, if_neg (by rw [p3]; exact nI_nlt (b := 2) (by omega) (by omega))]
          rw [← mapF_n eg] at IH
          iterate 2 refine er_s rfl ?_
          refine er_b rfl rfl (fun q => absurd q (nI_ge (b := 40) (by omega) (by decide))) (fun _ => ?_)
          iterate 2 refine er_s rfl ?_
          refine er_f rfl L0 rfl ?_
          refine er_b rfl rfl (fun q => absurd q (by show ¬ h.1 k 4 ≤ _; rw [P.hd (by decide), hw.1]; exact nI_ge hiC (by omega))) (fun _ => ?_)
          iterate 2 refine er_s rfl ?_
          refine er_v1 rfl L0 rfl ⟨Nat.le_of_ble_eq_true rfl, Nat.le_of_ble_eq_true rfl⟩ (W) ?_
          refine er_b rfl rfl (fun q => absurd q (fun q => bI_eq.mp q hs)) (fun _ => ?_)
          refine er_s rfl ?_
          refine er_f rfl L0 rfl ?_
          refine er_s rfl ?_
          refine er_il rfl L7 (vi) ?_
          refine er_s rfl ?_
          refine er_b rfl rfl (fun _ => ?_) (fun q => absurd (by rw [cl i]; show 1 < h.1 (k + 7) i; rw [P.cu hiC, p3]; exact nI_lt (a := 1) (by omega) (by omega)) q)
          refine er_s rfl ?_
          refine er_g rfl rfl ?_
          rw [nI_1]
          exact er_sub (sub4 rfl rfl rfl rfl) IH
      · have eg : warmG r w i = h.2.1 (k + 4) i := by rw [P.ms hiC]; exact if_neg hs
        rw [← mapF_n eg] at IH
        iterate 2 refine er_s rfl ?_
        refine er_b rfl rfl (fun q => absurd q (nI_ge (b := 40) (by omega) (by decide))) (fun _ => ?_)
        iterate 2 refine er_s rfl ?_
        refine er_f rfl L0 rfl ?_
        refine er_b rfl rfl (fun q => absurd q (by show ¬ h.1 k 4 ≤ _; rw [P.hd (by decide), hw.1]; exact nI_ge hiC (by omega))) (fun _ => ?_)
        iterate 2 refine er_s rfl ?_
        refine er_v1 rfl L0 rfl ⟨Nat.le_of_ble_eq_true rfl, Nat.le_of_ble_eq_true rfl⟩ (W) ?_
        refine er_b rfl rfl (fun _ => ?_) (fun q => absurd (bI_eq.mpr hs) q)
        refine er_s rfl ?_
        refine er_g rfl rfl ?_
        rw [nI_1]
        exact er_sub (sub4 rfl rfl rfl rfl) IH
  have Z := Lp (CN r) 0 (by omega)
  rw [mapF_0, hFr_self] at Z
  show EvR _ _ 0 [(0, _), (1, _)] [] _ _ _
  iterate 2 refine er_s rfl ?_
  refine er_f rfl L0 rfl ?_
  rw [show fv 0 (h.1 k 3) = Value.int (r 3) from congrArg Value.int (P.hd (by decide))]
  refine er_s rfl ?_
  refine er_fmul rfl wn ?_
  iterate 3 refine er_s rfl ?_
  exact er_sub (sub4 rfl rfl rfl rfl) Z
end
