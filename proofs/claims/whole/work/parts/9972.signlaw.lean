-- needs: 9971
noncomputable section
variable {p : Program} {l : Launch} {e : Env} {s : State} {m : MethodId} {b : Nat} {below : List Frame} {meth : Method} {c : Code} {D : va_G} {ca : Nat → ClassId} {ad : Nat → Nat} {base L : Nat} {xs : Nat → Int32} {cells slots : Nat} {h : AH} {t : Int32} {B : Nat}
theorem wl_sg {sa va : Nat} {b9 k : Nat} {lc : LC} (Zs : ZS sa va (fun a : Nat => base ≤ a) s s.heap) (Zr : vk_R "SawnIceModel" 214 "tmbf" sa s) (h215 : ad 215 = sa) (hw9 : Wel (h.1 1)) (hb9 : b9 < CN (h.1 1)) (hs9 : ofB (h.1 1) b9 2 = 2) (hk : k < 4) (h7 : ofB (h.1 1) b9 7 = nI (k + 1)) (K : WL p l e s m b below meth c D ca ad base L xs cells slots 1088 lc [.int (sgB.getD k 0)] (hI h 0 0 0)) : WL p l e s m b below meth c D ca ad base L xs cells slots 1085 lc [.int (nI b9), .ref 0] h := by
  intro F hc9 hs8 H locs ls hP hS hl
  have K2 := fun H1 locs1 hP1 hS1 => K F hc9 hs8 H1 locs1 ls hP1 hS1 hl
  obtain ⟨hx, hb, hml, hown, hts, hK, hA, hZ, hbs, hfl, had, hbl, hX⟩ := F
  have hM := met_sg (l := l) (D := D) (ca := ca) (va := va) hA h215 (h := h) hw9 hb9 hs9 hk h7
  exact sCv (q := ([.ref 0, .int (nI b9)], [])) (d' := 20) hx hb hml hown hts hK hP hS hl.1 (by decide) (by decide) hc9 hs8 (cdT_wfL (pc := 1085) rfl) rfl (Nat.zero_le _) hM (fun a U g mk q => ⟨q.1, ⟨q.2.1.1, va_K.moved (u := U) (U := U.calling g mk a) (Vm.Alike.refl U.vm) q.2.1.2⟩, ZS.moved (u := U) (U := U.calling g mk a) (Vm.Alike.refl U.vm) q.2.2.1, vk_R.same (u := U) rfl q.2.2.2⟩) (fun U hU hW => ⟨rfl, ⟨by rw [hU]; exact hP, va_K.moved hW.alike hK⟩, by rw [hU]; exact (Zs.kept hS.2.1).moved hW.alike, vk_R.warm hW Zr⟩) K2
section
variable {r : Nat → Int32} {w : Nat → UInt32} {S : Sv} {K : Hs} {q : Int32 × Int32} {T : Tx}
theorem g_sign1 (R : RS h r w S K q T) (I : IS B r w S K) (a : Int32) (hn : ¬ (sawnC r a = 0 ∧ ofB r a.toNatClampNeg 2 = 2)) : WM 20 mX11_sign [.ref 0, .int a] h (FQ h (sawnC r a) (sgN r a.toNatClampNeg) (fun g => RS g r w S K q T)) := by
  have hw := I.1.1.1
  have I9 := f_isBlock 18 a h
  rw [R.1.1] at I9
  by_cases c1 : 0 ≤ a ∧ a ≤ r 4 - 1
  · have e : sawnC r a = 0 := if_pos c1
    obtain ⟨b, hb, rfl⟩ := (blk_or hw a).resolve_right (fun z => z c1)
    have h40 := hw.2.1
    rw [nI_clamp (by omega)] at hn ⊢
    rw [bI_t c1] at I9
    have F2 := f_of 19 (b := b) (x := 2) (by omega) (by decide) (hI h 0 0 0)
    rw [show (hI h 0 0 0).1 1 = r by rw [hI_ne (by decide)]; exact R.1.1] at F2
    have fin : ∀ y : Int32, sgN r b = y → EvM 20 mX11_sign [.ref 0, .int (nI b)] h (some (.int y)) (hI h 0 0 0) → WM 20 mX11_sign [.ref 0, .int (nI b)] h (FQ h (sawnC r (nI b)) (sgN r b) (fun g => RS g r w S K q T)) := fun y ey E => ⟨_, _, E, ⟨_, rfl, fun _ => ey.symm⟩, R.i0, by rw [e, hI_at, upd_eq], evm_fr rf_clo E (by decide) rfl⟩
    rcases I.1.1.s3 hb with s0 | s1 | s2
    · rw [s0] at F2
      refine fin 114 (if_pos s0) ?_
      show EvR _ _ 0 [(0, _), (1, _)] [] _ _ _
      iterate 4 refine er_s rfl ?_
      refine er_c rfl rfl ⟨Nat.le_of_ble_eq_true rfl, Nat.le_of_ble_eq_true rfl⟩ (I9) ?_
      refine er_b rfl rfl (fun _ => ?_) (fun q => absurd (by decide) q)
      refine er_s rfl ?_
      refine er_c rfl rfl ⟨Nat.le_of_ble_eq_true rfl, Nat.le_of_ble_eq_true rfl⟩ (f_failsF _ _ _) ?_
      refine er_b rfl rfl (fun _ => ?_) (fun q => absurd rfl q)
      iterate 3 refine er_s rfl ?_
      refine er_c rfl rfl ⟨Nat.le_of_ble_eq_true rfl, Nat.le_of_ble_eq_true rfl⟩ (F2) ?_
      refine er_b rfl rfl (fun q => absurd q (fun z => z rfl)) (fun _ => ?_)
      refine er_s rfl ?_
      refine er_g rfl rfl ?_
      refine er_q (ret_bK rfl rfl) ?_ ?_
      · rfl
      · rfl
    · rw [s1] at F2
      refine fin 119 (by unfold sgN; rw [if_neg (by rw [s1]; decide), if_pos s1]) ?_
      show EvR _ _ 0 [(0, _), (1, _)] [] _ _ _
      iterate 4 refine er_s rfl ?_
      refine er_c rfl rfl ⟨Nat.le_of_ble_eq_true rfl, Nat.le_of_ble_eq_true rfl⟩ (I9) ?_
      refine er_b rfl rfl (fun _ => ?_) (fun q => absurd (by decide) q)
      refine er_s rfl ?_
      refine er_c rfl rfl ⟨Nat.le_of_ble_eq_true rfl, Nat.le_of_ble_eq_true rfl⟩ (f_failsF _ _ _) ?_
      refine er_b rfl rfl (fun _ => ?_) (fun q => absurd rfl q)
      iterate 3 refine er_s rfl ?_
      refine er_c rfl rfl ⟨Nat.le_of_ble_eq_true rfl, Nat.le_of_ble_eq_true rfl⟩ (F2) ?_
      refine er_b rfl rfl (fun _ => ?_) (fun q => absurd (by decide) q)
      iterate 3 refine er_s rfl ?_
      refine er_c rfl rfl ⟨Nat.le_of_ble_eq_true rfl, Nat.le_of_ble_eq_true rfl⟩ (F2) ?_
      refine er_s rfl ?_
      refine er_b rfl rfl (fun q => absurd q (fun z => z rfl)) (fun _ => ?_)
      refine er_s rfl ?_
      refine er_g rfl rfl ?_
      refine er_q (ret_bK rfl rfl) ?_ ?_
      · rfl
      · rfl
    · exact absurd ⟨e, s2⟩ hn
  · have e : sawnC r a = 1 := if_neg c1
    rw [bI_f c1] at I9
    have E : EvM 20 mX11_sign [.ref 0, .int a] h (some (.int 97)) (hI h 0 0 1) := by
      show EvR _ _ 0 [(0, _), (1, _)] [] _ _ _
      iterate 4 refine er_s rfl ?_
      refine er_c rfl rfl ⟨Nat.le_of_ble_eq_true rfl, Nat.le_of_ble_eq_true rfl⟩ (I9) ?_
      refine er_b rfl rfl (fun q => absurd q (fun z => z rfl)) (fun _ => ?_)
      refine er_s rfl ?_
      refine er_g rfl rfl ?_
      refine er_c rfl rfl ⟨Nat.le_of_ble_eq_true rfl, Nat.le_of_ble_eq_true rfl⟩ (f_failsT _ _ _) ?_
      refine er_b rfl rfl (fun q => absurd q (by decide)) (fun _ => ?_)
      refine er_s rfl ?_
      refine er_q (ret_bK rfl rfl) ?_ ?_
      · rfl
      · rfl
    exact ⟨_, _, E, ⟨_, rfl, fun z => absurd (e.symm.trans z) (by decide)⟩, R.i0, by rw [e, hI_at, upd_eq], evm_fr rf_clo E (by decide) rfl⟩
theorem sg_gone (I : IS B r w S K) {b : Nat} (hb : b < CN r) (hs : ofB r b 2 = 2) : ∃ k, k < 4 ∧ ofB r b 7 = nI (k + 1) ∧ sgN r b = sgB.getD k 0 := by
  have hS := (I.1.1.b hb).2
  have h7 : ∃ k, k < 4 ∧ ofB r b 7 = nI (k + 1) := by
    rcases hS with z | z | z
    · exact absurd (hs.symm.trans z.1) (by decide)
    · exact absurd (hs.symm.trans z.1) (by decide)
    · obtain ⟨y, y1, y2, y3⟩ := z.2.2.2.2.2
      exact ⟨y - 1, by omega, y3.trans (congrArg nI (by omega))⟩
  obtain ⟨k, k1, k2⟩ := h7
  refine ⟨k, k1, k2, ?_⟩
  unfold sgN
  rw [if_neg (by rw [hs]; decide), if_neg (by rw [hs]; decide), k2]
  rcases (show k = 0 ∨ k = 1 ∨ k = 2 ∨ k = 3 by omega) with e | e | e | e <;> subst e <;> decide
end
set_option maxHeartbeats 1000000 in
theorem c_sign {sa va : Nat} (Zs : ZS sa va (fun a : Nat => base ≤ a) s s.heap) (Zr : vk_R "SawnIceModel" 214 "tmbf" sa s) (h215 : ad 215 = sa) (G : GS B h) (hB : B + 6000 < 2 ^ 30) (hc : cells + 8 ≤ 603072) (hs : slots + 48 ≤ 7227498) (i1 : vp_in (t + 1) L) (KT : ∀ g c2 s2, c2 ≤ cells + 8 → s2 ≤ slots + 48 → GS (B + 3000) g → WL p l e s m b below meth c D ca ad base L xs c2 s2 1913 (LcB t) [] g) : WL p l e s m b below meth c D ca ad base L xs cells slots 1065 (LcB t) [] h := by
  obtain ⟨r, w, S, K, q, T, R, C, I⟩ := G
  by_cases g : sawnC r (xs (t + 1).toNatClampNeg) = 0 ∧ ofB r (xs (t + 1).toNatClampNeg).toNatClampNeg 2 = 2
  · obtain ⟨g0, g2⟩ := g
    obtain ⟨b9, hb9, ex⟩ := (blk_or I.1.1.1 (xs (t + 1).toNatClampNeg)).resolve_right (fun z => z (sawn_0 g0))
    have h40 := I.1.1.1.2.1
    rw [ex, nI_clamp (by omega)] at g2
    obtain ⟨k, k1, k2, k3⟩ := sg_gone I hb9 g2
    iterate 5 refine wl_s rfl ?_
    refine wl_ld rfl i1 ?_
    refine wl_s rfl ?_
    refine wl_7 (n := 3) (d := 20) (mi := mL_sign) (na := 3) rfl (by decide +kernel) rfl (Nat.le_of_ble_eq_true rfl) (by decide) ⟨by omega, by omega⟩ (l_sign C R I (by omega) _) (fun k9 h9 p9 => ?_)
    obtain ⟨rfl, R3, C3, y3⟩ := p9
    have y9 := y3 g0
    rw [ex, nI_clamp (by omega), k3] at y9
    have C4 : CS (hI h9 0 0 0) r w S K q T := C3.fr ⟨fun a ha => ⟨hI_ne (by intro e; subst e; exact absurd ha (by decide)), rfl⟩, rfl⟩
    have R4 := R3.i0 (x := 0)
    have t4 : (hI h9 0 0 0).1 0 0 = sawnC r (xs (t + 1).toNatClampNeg) := by rw [hI_at, upd_eq]; exact g0.symm
    iterate 6 refine wl_s rfl ?_
    refine wl_ld rfl i1 ?_
    rw [ex]
    refine wl_sg Zs Zr h215 (b9 := b9) (k := k) (by rw [R3.1.1]; exact I.1.1.1) (by rw [R3.1.1]; exact hb9) (by rw [R3.1.1]; exact g2) k1 (by rw [R3.1.1]; exact k2) ?_
    iterate 2 refine wl_s rfl ?_
    refine wl_xc rfl rfl ⟨Nat.le_of_ble_eq_true rfl, Nat.le_of_ble_eq_true rfl⟩ (by decide) ((f_thrown 0 _).wm) (fun rv9 h9 p9 => ?_)
    obtain ⟨rfl, rfl⟩ := p9
    rw [ex] at t4
    rw [t4]
    refine wl_s rfl ?_
    refine wl_b rfl rfl (fun _ => ?_) (fun q => absurd rfl q)
    refine wl_s rfl ?_
    refine wl_b rfl rfl (fun c1103 => ?_) (fun c1103 => ?_)
    · refine wl_g rfl rfl ?_
      exact wl_sub (sub6 rfl rfl rfl rfl rfl rfl) (KT _ _ _ (Nat.le_refl _) (Nat.le_refl _) ⟨_, _, _, _, _, _, R4, C4, I.le (by omega) (by omega)⟩)
    · iterate 2 refine wl_s rfl ?_
      refine wl_ll rfl rfl (vi (k := 0)) ?_
      iterate 3 refine wl_s rfl ?_
      refine wl_b rfl rfl (fun _ => ?_) (fun q => absurd (lgc y9) q)
      refine wl_g rfl rfl ?_
      exact wl_sub (sub6 rfl rfl rfl rfl rfl rfl) (KT _ _ _ (Nat.le_refl _) (Nat.le_refl _) ⟨_, _, _, _, _, _, R4, C4, I.le (by omega) (by omega)⟩)
  · iterate 5 refine wl_s rfl ?_
    refine wl_ld rfl i1 ?_
    refine wl_s rfl ?_
    refine wl_7 (n := 3) (d := 20) (mi := mL_sign) (na := 3) rfl (by decide +kernel) rfl (Nat.le_of_ble_eq_true rfl) (by decide) ⟨by omega, by omega⟩ (l_sign C R I (by omega) _) (fun k9 h9 p9 => ?_)
    obtain ⟨rfl, R3, C3, y3⟩ := p9
    iterate 6 refine wl_s rfl ?_
    refine wl_ld rfl i1 ?_
    refine wl_xc rfl rfl ⟨Nat.le_of_ble_eq_true rfl, Nat.le_of_ble_eq_true rfl⟩ (by decide) (g_sign1 R3 I _ g) (fun rv9 h9 p9 => ?_)
    obtain ⟨⟨x9, rfl, v9⟩, R4, t4, F4⟩ := p9
    have C4 := C3.fr F4
    iterate 2 refine wl_s rfl ?_
    refine wl_xc rfl rfl ⟨Nat.le_of_ble_eq_true rfl, Nat.le_of_ble_eq_true rfl⟩ (by decide) ((f_thrown 0 _).wm) (fun rv9 h9 p9 => ?_)
    obtain ⟨rfl, rfl⟩ := p9
    rw [t4]
    refine wl_s rfl ?_
    refine wl_b rfl rfl (fun _ => ?_) (fun q => absurd rfl q)
    refine wl_s rfl ?_
    refine wl_b rfl rfl (fun c1103 => ?_) (fun c1103 => ?_)
    · refine wl_g rfl rfl ?_
      exact wl_sub (sub6 rfl rfl rfl rfl rfl rfl) (KT _ _ _ (Nat.le_refl _) (Nat.le_refl _) ⟨_, _, _, _, _, _, R4, C4, I.le (by omega) (by omega)⟩)
    · iterate 2 refine wl_s rfl ?_
      refine wl_ll rfl rfl (vi (k := 0)) ?_
      iterate 3 refine wl_s rfl ?_
      refine wl_b rfl rfl (fun _ => ?_) (fun q => absurd (lgc (by rw [v9 (Decidable.not_not.mp c1103)]; exact (congrFun (congrFun (congrArg Prod.fst F4.2) 212) 0).trans (y3 (Decidable.not_not.mp c1103)))) q)
      refine wl_g rfl rfl ?_
      exact wl_sub (sub6 rfl rfl rfl rfl rfl rfl) (KT _ _ _ (Nat.le_refl _) (Nat.le_refl _) ⟨_, _, _, _, _, _, R4, C4, I.le (by omega) (by omega)⟩)
end
