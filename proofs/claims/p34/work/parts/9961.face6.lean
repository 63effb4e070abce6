-- needs: 996
noncomputable section
section
variable {h h9 : AH} {r : Nat → Int32} {w : Nat → UInt32} {S : Sv} {K : Hs} {q : Int32 × Int32} {T : Tx} {B : Nat}
abbrev rdE (T : Tx) : Int32 := if rdWr T.2.2 T.1 = true then nI (rdAt T.2.2 T.1) else -1
theorem CS.un (C : CS h r w S K q T) (U : UnP h h9 T.2.2 T.1) : CS (hI h9 206 5 0) r w S K q (0, rdE T, T.2.2) := by
  obtain ⟨a1, ⟨b1, b2⟩, ⟨c0, N, c1, c2, c3, c4⟩, ⟨d1, d2⟩, e1, e2, e3, e4⟩ := C
  obtain ⟨-, u2, u3, u4, u5⟩ := U
  have m : ∀ x, x % 8 < 8 := fun x => Nat.mod_lt _ (by decide)
  have e : ∀ a, a < 206 ∨ a = 207 → (hI h9 206 5 0).1 a = h.1 a ∧ (hI h9 206 5 0).2.1 a = h.2.1 a := fun a ha => ⟨by rw [hI_ne (by omega)]; exact u4 a (by omega) (by omega), by show h9.2.1 a = _; rw [u5]⟩
  refine ⟨a1.same (fun a x y => e a (by omega)), ⟨by rw [(e 31 (by decide)).1]; exact b1, fun s => (b2 s).same (fun a x y => e a (by omega))⟩, ⟨c0, N, c1, by rw [(e 100 (by decide)).1]; exact c2, by rw [(e 100 (by decide)).1]; exact c3, fun i hi => (c4 i hi).same (fun a x y => e a (by have := m (N + 8 - K.1 + i); omega))⟩, ⟨by rw [(e 71 (by decide)).1]; exact d1, by rw [(e 71 (by decide)).1]; exact d2⟩, ?_, Nat.zero_le 60, ?_, ?_⟩
  · rw [hI_at, upd_eq]; rfl
  · rw [hI_at, upd_ne (by decide)]; exact u2
  · rw [(e 207 (by decide)).1]; exact e4
theorem CS.frK {k : Nat} (C : CS h r w S K q T) (F : FrP k h h9) (hk : 44 < k ∧ k + 12 < 58) : CS h9 r w S K q T := C.to (fun a ha => F.1 a (by omega)) (C.1.same (fun a x y => F.1 a (by omega)))
theorem CS.back {r9 : Nat → Int32} {w9 : Nat → UInt32} (C : CS h r w S K q T) (P : Pal h9 32 r9 w9) (F : FrP 32 h h9) : CS h9 r9 w9 S K q T := C.to (fun a ha => F.1 a (by omega)) P
theorem UnP.R {I : Nat → Int32} {L : Nat} (U : UnP h h9 I L) (w9 : ¬ rdWr I L = true) : h9.1 206 7 = nI (oN0 I L + 1) ∧ oN0 I L + 1 ≤ 60 ∧ ∀ k, k < oN0 I L + 1 → NtA h9 k (rdI I L k).2 := by
  obtain ⟨u1, u2⟩ := U.1
  have w9 : ¬ (rdI I L (oN0 I L)).1.2 = true := w9
  rw [if_neg w9] at u1
  exact ⟨u1.2.2.2.2.2.1, u1.2.2.2.2.2.2, fun k hk => u2 k (by rw [if_neg w9]; exact hk)⟩
theorem oN0_le {I : Nat → Int32} {L : Nat} (h : oN0 I L + 1 ≤ 60) : stP9 I L (oN0 I L) = true := fstP_p 61 0 (show fstP (stP9 I L) 61 61 0 < 61 by show oN0 I L < 61; omega)
def rdK (r : Nat → Int32) (w : Nat → UInt32) (q : Int32 × Int32) (T : Tx) : Int32 := if rdWr T.2.2 T.1 = true then 1 else (rdC T.2.2 T.1 r w q).1
theorem ftI_or {f : Int32} : (f = 3 ∧ ftI f 3 = 2) ∨ (f = 0 ∧ ftI f 3 = 0) ∨ (f ≠ 0 ∧ f ≠ 3 ∧ ftI f 3 = 1) := by
  unfold ftI
  by_cases e : f = 0
  · exact Or.inr (Or.inl ⟨e, if_pos e⟩)
  · by_cases e3 : f = 3
    · exact Or.inl ⟨e3, by rw [if_neg e, if_pos e3]⟩
    · exact Or.inr (Or.inr ⟨e, e3, by rw [if_neg e, if_neg e3]⟩)
theorem p_rd_end (n d : Nat) {I : Nat → Int32} {L : Nat} {x1 i9 f : Int32} {r0 : Nat → Int32} {w0 : Nat → UInt32} {Gd : Option Value → AH → Prop} {Bd : AH → Prop} (C : CS h r w S K q T) (R : RdI h I L r0 w0) (h40 : CN r0 ≤ 40) (kg : ∀ g, CS g r w S (pushK K r0 w0) q T → Gd (some (.int (nI (oN0 I L + 1)))) g) (kb : ∀ g, CS g r0 w0 S K q T → Bd g) : TX (n + 1) (d + 7) mX10_read 155 [(0, .ref 31), (1, .int x1), (2, .int f), (3, .int i9)] [] h (PX (ftI f 3) (if ftI f 3 = 2 then 2 else 1) Gd Bd) := by
  have A := p_copyFrom (d + 5) palL32 palL45 (by decide) h40 R.1
  rcases ftI_or (f := f) with ⟨e1, e2⟩ | ⟨e1, e2⟩ | ⟨e1, e2, e3⟩
  · rw [e2]
    subst e1
    refine et_s rfl ?_
    refine et_b rfl rfl (fun q => absurd q (by decide)) (fun _ => ?_)
    iterate 4 refine et_s rfl ?_
    refine et_xc rfl rfl ⟨Nat.le_of_ble_eq_true rfl, Nat.le_of_ble_eq_true rfl⟩ (A) (fun rv9 h9 p9 => ?_)
    obtain ⟨rfl, P1, F1⟩ := p9
    have C2 := C.back P1 F1
    iterate 2 refine et_s rfl ?_
    refine et_b rfl rfl (fun q => absurd q (fun z => z rfl)) (fun _ => ?_)
    refine et_t 2 rfl (by decide +kernel) (Nat.le_of_ble_eq_true rfl) ?_
    exact PX.er (by decide) rfl (kb _ C2)
  · rw [e2]
    subst e1
    obtain ⟨c0, N, c1, c2, c3, -⟩ := C.2.2.1
    have M := p_remember (d + 4) (k := 45) (by decide) palL45 h40 R.1 c1 c0 c2 c3
    refine et_s rfl ?_
    refine et_b rfl rfl (fun _ => ?_) (fun q => absurd rfl q)
    iterate 2 refine et_s rfl ?_
    refine et_b rfl rfl (fun _ => ?_) (fun q => absurd (by decide) q)
    refine et_s rfl ?_
    refine et_b rfl rfl (fun _ => ?_) (fun q => absurd rfl q)
    iterate 4 refine et_s rfl ?_
    refine et_xc rfl rfl ⟨Nat.le_of_ble_eq_true rfl, Nat.le_of_ble_eq_true rfl⟩ (M) (fun rv9 h9 p9 => ?_)
    obtain ⟨rfl, g1, g2, g3, g4⟩ := p9
    have C2 := C.rem2 c1 c2 g1 g2 g3 g4
    have Nu := p_number (d + 6) h9
    rw [show h9.1 206 7 = nI (oN0 I L + 1) by rw [(g4 206 (by decide) (by omega)).1]; exact R.2.1] at Nu
    iterate 2 refine et_s rfl ?_
    refine et_c rfl rfl ⟨Nat.le_of_ble_eq_true rfl, Nat.le_of_ble_eq_true rfl⟩ (Nu) ?_
    refine et_q rfl ?_
    exact PX.ok rfl (kg _ C2)
  · rw [e3]
    refine et_s rfl ?_
    refine et_b rfl rfl (fun q => absurd q e1) (fun _ => ?_)
    iterate 4 refine et_s rfl ?_
    refine et_xc rfl rfl ⟨Nat.le_of_ble_eq_true rfl, Nat.le_of_ble_eq_true rfl⟩ (A) (fun rv9 h9 p9 => ?_)
    obtain ⟨rfl, P1, F1⟩ := p9
    have C2 := C.back P1 F1
    iterate 2 refine et_s rfl ?_
    refine et_b rfl rfl (fun _ => ?_) (fun q => absurd e2 q)
    refine et_s rfl ?_
    refine et_b rfl rfl (fun q => absurd q e1) (fun _ => ?_)
    refine et_t 1 rfl (by decide +kernel) (Nat.le_of_ble_eq_true rfl) ?_
    exact PX.er (by decide) rfl (kb _ C2)
theorem p_op_read (n d : Nat) (C : CS h r w S K q T) (I : Inv B r w) (hB : B + 3000 < 2 ^ 30) : TM (n + 1) (d + 7) mX10_read [.ref 31] h (PX (rdK r w q T) (if rdK r w q T = 2 then 2 else 1) (fun v h' => v = some (.int (nI (oN0 T.2.2 T.1 + 1))) ∧ CS h' (rdC T.2.2 T.1 r w q).2.1 (rdC T.2.2 T.1 r w q).2.2.1 S (pushK K r w) (rdC T.2.2 T.1 r w q).2.2.2 (0, rdE T, T.2.2)) (fun h' => CS h' r w S K (if rdWr T.2.2 T.1 = true then q else (rdC T.2.2 T.1 r w q).2.2.2) (0, rdE T, T.2.2))) := by
  have U := p_understand (d + 3) C.2.2.2.2.2.1 C.2.2.2.2.2.2.2 C.2.2.2.2.1
  have h40 := I.1.1.2.1
  by_cases c : rdWr T.2.2 T.1 = true
  · have e : rdK r w q T = 1 := if_pos c
    rw [e, if_pos c]
    show TX _ _ _ 0 [(0, _)] [] _ _
    iterate 2 refine et_s rfl ?_
    refine et_xc rfl rfl ⟨Nat.le_of_ble_eq_true rfl, Nat.le_of_ble_eq_true rfl⟩ (U) (fun rv9 h9 p9 => ?_)
    obtain ⟨rfl, U1⟩ := p9
    have C2 := C.un U1
    iterate 3 refine et_s rfl ?_
    refine et_c rfl rfl ⟨Nat.le_of_ble_eq_true rfl, Nat.le_of_ble_eq_true rfl⟩ (p_empty (d + 6) h9) ?_
    refine et_s rfl ?_
    refine et_b rfl rfl (fun q => absurd q (fun z => z (bI_eq.mpr (by rw [c]; decide)))) (fun _ => ?_)
    refine et_t 1 rfl (by decide +kernel) (Nat.le_of_ble_eq_true rfl) ?_
    exact PX.er (by decide) rfl C2
  · have e : rdK r w q T = (rdC T.2.2 T.1 r w q).1 := if_neg c
    rw [e, if_neg c]
    have cw : (rdI T.2.2 T.1 (oN0 T.2.2 T.1)).1.2 = false := Bool.eq_false_iff.mpr c
    have A := fun (g : AH) (P : Pal g 32 r w) => p_copyFrom (d + 5) palL45 palL32 (by decide) h40 P
    show TX _ _ _ 0 [(0, _)] [] _ _
    iterate 2 refine et_s rfl ?_
    refine et_xc rfl rfl ⟨Nat.le_of_ble_eq_true rfl, Nat.le_of_ble_eq_true rfl⟩ (U) (fun rv9 h9 p9 => ?_)
    obtain ⟨rfl, U1⟩ := p9
    have C2 := C.un U1
    obtain ⟨u1, u2, u3⟩ := U1.R c
    have A2 := A _ C2.1
    iterate 3 refine et_s rfl ?_
    refine et_c rfl rfl ⟨Nat.le_of_ble_eq_true rfl, Nat.le_of_ble_eq_true rfl⟩ (p_empty (d + 6) h9) ?_
    refine et_s rfl ?_
    refine et_b rfl rfl (fun _ => ?_) (fun q => absurd (bI_ne.mpr cw) q)
    iterate 4 refine et_s rfl ?_
    refine et_xc rfl rfl ⟨Nat.le_of_ble_eq_true rfl, Nat.le_of_ble_eq_true rfl⟩ (A2) (fun rv9 h9 p9 => ?_)
    obtain ⟨rfl, P1, F1⟩ := p9
    iterate 4 refine et_s rfl ?_
    skip
    have C3 := C2.frK F1 (by decide)
    have R3 : RdI h9 T.2.2 T.1 r w := ⟨P1, by rw [(F1.1 206 (by decide)).1, hI_at, upd_ne (by decide)]; exact u1, fun k hk => by
      obtain ⟨n1, n2, n3, n4⟩ := u3 k hk
      exact ⟨by rw [(F1.1 208 (by decide)).1, hI_ne (by decide)]; exact n1, by rw [(F1.1 209 (by decide)).1, hI_ne (by decide)]; exact n2, by rw [(F1.1 210 (by decide)).1, hI_ne (by decide)]; exact n3, by rw [(F1.1 211 (by decide)).1, hI_ne (by decide)]; exact n4⟩⟩
    exact et_sub (sub4 rfl rfl rfl rfl) (p_read_loop n d (T := (0, rdE T, T.2.2)) ((0 : Int32), r, w, q) I hB (oN0_le u2) cw u2 (fun g f i hf Cg Rg => by
      have Z := p_rd_end n d (x1 := bI (rdWr T.2.2 T.1 = false)) (i9 := i) (f := f) (Gd := fun v h' => v = some (.int (nI (oN0 T.2.2 T.1 + 1))) ∧ CS h' (rdC T.2.2 T.1 r w q).2.1 (rdC T.2.2 T.1 r w q).2.2.1 S (pushK K r w) (rdC T.2.2 T.1 r w q).2.2.2 (0, rdE T, T.2.2)) (Bd := fun h' => CS h' r w S K (rdC T.2.2 T.1 r w q).2.2.2 (0, rdE T, T.2.2)) Cg Rg h40 (fun g2 z => ⟨rfl, z⟩) (fun g2 z => z)
      rw [hf] at Z
      exact Z) (oN0 T.2.2 T.1 + 1) 0 h9 0 (by omega) rfl C3 R3)
end
end
