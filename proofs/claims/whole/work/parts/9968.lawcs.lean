-- needs: 9967
noncomputable section
theorem bIL0 {P : Prop} {i : Decidable P} (h : bI P = 0) : (bI P).toInt64 = 0 := by rw [h]; rfl
theorem bIL1 {P : Prop} {i : Decidable P} (h : ¬ bI P = 0) : (bI P).toInt64 = 1 := by
  have e : bI P = 1 := bI_t (bI_ne.mp h)
  rw [e]; rfl
section
variable {r : Nat → Int32} {w : Nat → UInt32} {S : Sv} {K : Hs} {q : Int32 × Int32} {T : Tx} {B : Nat}
theorem IS.udo (I : IS B r w S K) : IS B (if undoC K = 0 then K.2.1 (K.1 - 1) else r) (if undoC K = 0 then K.2.2 (K.1 - 1) else w) S (if undoC K = 0 then (K.1 - 1, K.2) else K) := by
  by_cases c : K.1 = 0
  · rw [show undoC K = 1 from if_pos c, if_neg (by decide), if_neg (by decide), if_neg (by decide)]
    exact I
  · rw [show undoC K = 0 from if_neg c, if_pos rfl, if_pos rfl, if_pos rfl]
    exact ⟨I.2.2 (K.1 - 1) (by omega), I.2.1, fun i (hi : i < K.1 - 1) => I.2.2 i (by omega)⟩
theorem IS.rst (I : IS B r w S K) : IS B (if restC S = 0 then S.2.1 else r) (if restC S = 0 then S.2.2 else w) S (if restC S = 0 then (0, K.2) else K) := by
  by_cases c : S.1 = true
  · rw [show restC S = 0 from if_pos c, if_pos rfl, if_pos rfl, if_pos rfl]
    exact ⟨I.2.1 c, I.2.1, fun i (hi : i < 0) => absurd hi (Nat.not_lt_zero _)⟩
  · rw [show restC S = 1 from if_neg c, if_neg (by decide), if_neg (by decide), if_neg (by decide)]
    exact I
theorem IS.sv (I : IS B r w S K) : IS B r w (true, r, w) K := ⟨I.1, fun _ => I.1, I.2.2⟩
theorem IS.rdo (I : IS B r w S K) (hK : K.1 ≤ 8) (hB : B + 6000 < 2 ^ 30) (hN : oN0 T.2.2 T.1 ≤ 60) : IS (B + 3000) (if rdK r w q T = 0 then (rdC T.2.2 T.1 r w q).2.1 else r) (if rdK r w q T = 0 then (rdC T.2.2 T.1 r w q).2.2.1 else w) S (if rdK r w q T = 0 then pushK K r w else K) := by
  have I2 := I.le (show B ≤ B + 3000 by omega) (by omega)
  by_cases c : rdK r w q T = 0
  · rw [if_pos c, if_pos c, if_pos c]
    obtain ⟨B', b1, b2⟩ := cy_Inv (I := T.2.2) (L := T.1) (c := ((0 : Int32), r, w, q)) I.1 (by omega) (oN0 T.2.2 T.1 + 1) (by omega)
    exact I2.push hK (b2.le (by omega) (by omega))
  · rw [if_neg c, if_neg c, if_neg c]
    exact I2
end
section
variable {p : Program} {l : Launch} {e : Env} {s : State} {m : MethodId} {b : Nat} {below : List Frame} {meth : Method} {c : Code} {D : va_G} {ca : Nat → ClassId} {ad : Nat → Nat} {base L : Nat} {xs : Nat → Int32} {cells slots : Nat} {h : AH} {t : Int32} {B : Nat}
theorem c_visit (G : GS B h) (hB : B + 6000 < 2 ^ 30) (hc : cells + 8 ≤ 603072) (hs : slots + 48 ≤ 7227498) (i1 : vp_in (t + 1) L) (KT : ∀ g c2 s2, c2 ≤ cells + 8 → s2 ≤ slots + 48 → GS (B + 3000) g → WL p l e s m b below meth c D ca ad base L xs c2 s2 1913 (LcB t) [] g) : WL p l e s m b below meth c D ca ad base L xs cells slots 252 (LcB t) [] h := by
  obtain ⟨r, w, S, K, q, T, R, C, I⟩ := G
  iterate 5 refine wl_s rfl ?_
  refine wl_ld rfl i1 ?_
  refine wl_s rfl ?_
  refine wl_7 (n := 3) (d := 20) (mi := mL_visit) (na := 3) rfl (by decide +kernel) rfl (Nat.le_of_ble_eq_true rfl) (by decide) ⟨by omega, by omega⟩ (l_visit C R I (by omega) _) (fun k9 h9 p9 => ?_)
  obtain ⟨rfl, R3, C3, y3⟩ := p9
  iterate 6 refine wl_s rfl ?_
  refine wl_ld rfl i1 ?_
  refine wl_xc rfl rfl ⟨Nat.le_of_ble_eq_true rfl, Nat.le_of_ble_eq_true rfl⟩ (by decide) (g_visit R3 I (by omega) _) (fun rv9 h9 p9 => ?_)
  obtain ⟨⟨x9, rfl, v9⟩, R4, t4, F4⟩ := p9
  have C4 := C3.fr F4
  iterate 2 refine wl_s rfl ?_
  refine wl_xc rfl rfl ⟨Nat.le_of_ble_eq_true rfl, Nat.le_of_ble_eq_true rfl⟩ (by decide) ((f_thrown 0 _).wm) (fun rv9 h9 p9 => ?_)
  obtain ⟨rfl, rfl⟩ := p9
  rw [t4]
  refine wl_s rfl ?_
  refine wl_b rfl rfl (fun _ => ?_) (fun q => absurd rfl q)
  refine wl_s rfl ?_
  refine wl_b rfl rfl (fun c290 => ?_) (fun c290 => ?_)
  · refine wl_g rfl rfl ?_
    exact wl_sub (sub6 rfl rfl rfl rfl rfl rfl) (KT _ _ _ (Nat.le_refl _) (Nat.le_refl _) ⟨_, _, _, _, _, _, R4, C4, I.pk R.2.2.1.1 (by omega) (by omega) ((I.1.visit _).le (by omega) (by omega))⟩)
  · iterate 2 refine wl_s rfl ?_
    refine wl_ll rfl rfl (vi (k := 0)) ?_
    iterate 3 refine wl_s rfl ?_
    refine wl_b rfl rfl (fun _ => ?_) (fun q => absurd (lgc (by rw [v9 (Decidable.not_not.mp c290)]; exact (congrFun (congrFun (congrArg Prod.fst F4.2) 212) 0).trans (y3 (Decidable.not_not.mp c290)))) q)
    refine wl_g rfl rfl ?_
    exact wl_sub (sub6 rfl rfl rfl rfl rfl rfl) (KT _ _ _ (Nat.le_refl _) (Nat.le_refl _) ⟨_, _, _, _, _, _, R4, C4, I.pk R.2.2.1.1 (by omega) (by omega) ((I.1.visit _).le (by omega) (by omega))⟩)
theorem c_saw (G : GS B h) (hB : B + 6000 < 2 ^ 30) (hc : cells + 8 ≤ 603072) (hs : slots + 48 ≤ 7227498) (i1 : vp_in (t + 1) L) (i2 : vp_in (t + 2) L) (i3 : vp_in (t + 3) L) (KT : ∀ g c2 s2, c2 ≤ cells + 8 → s2 ≤ slots + 48 → GS (B + 3000) g → WL p l e s m b below meth c D ca ad base L xs c2 s2 1913 (LcB t) [] g) : WL p l e s m b below meth c D ca ad base L xs cells slots 308 (LcB t) [] h := by
  obtain ⟨r, w, S, K, q, T, R, C, I⟩ := G
  iterate 5 refine wl_s rfl ?_
  refine wl_ld rfl i1 ?_
  iterate 4 refine wl_s rfl ?_
  refine wl_ld rfl i2 ?_
  iterate 4 refine wl_s rfl ?_
  refine wl_ld rfl i3 ?_
  refine wl_s rfl ?_
  refine wl_7 (n := 3) (d := 20) (mi := mL_saw) (na := 5) rfl (by decide +kernel) rfl (Nat.le_of_ble_eq_true rfl) (by decide) ⟨by omega, by omega⟩ (l_saw C R I (by omega) _ _ _) (fun k9 h9 p9 => ?_)
  obtain ⟨rfl, R3, C3, y3⟩ := p9
  iterate 6 refine wl_s rfl ?_
  refine wl_ld rfl i1 ?_
  iterate 4 refine wl_s rfl ?_
  refine wl_ld rfl i2 ?_
  iterate 4 refine wl_s rfl ?_
  refine wl_ld rfl i3 ?_
  refine wl_xc rfl rfl ⟨Nat.le_of_ble_eq_true rfl, Nat.le_of_ble_eq_true rfl⟩ (by decide) (g_saw R3 I (by omega) _ _ _) (fun rv9 h9 p9 => ?_)
  obtain ⟨⟨x9, rfl, v9⟩, R4, t4, F4⟩ := p9
  have C4 := C3.fr F4
  iterate 2 refine wl_s rfl ?_
  refine wl_xc rfl rfl ⟨Nat.le_of_ble_eq_true rfl, Nat.le_of_ble_eq_true rfl⟩ (by decide) ((f_thrown 0 _).wm) (fun rv9 h9 p9 => ?_)
  obtain ⟨rfl, rfl⟩ := p9
  rw [t4]
  refine wl_s rfl ?_
  refine wl_b rfl rfl (fun _ => ?_) (fun q => absurd rfl q)
  refine wl_s rfl ?_
  refine wl_b rfl rfl (fun c370 => ?_) (fun c370 => ?_)
  · refine wl_g rfl rfl ?_
    exact wl_sub (sub6 rfl rfl rfl rfl rfl rfl) (KT _ _ _ (Nat.le_refl _) (Nat.le_refl _) ⟨_, _, _, _, _, _, R4, C4, I.pk R.2.2.1.1 (by omega) (by omega) ((I.1.saw9 _ _ _).le (by omega) (by omega))⟩)
  · iterate 2 refine wl_s rfl ?_
    refine wl_ll rfl rfl (vi (k := 0)) ?_
    iterate 3 refine wl_s rfl ?_
    refine wl_b rfl rfl (fun _ => ?_) (fun q => absurd (lgc (by rw [v9 (Decidable.not_not.mp c370)]; exact (congrFun (congrFun (congrArg Prod.fst F4.2) 212) 0).trans (y3 (Decidable.not_not.mp c370)))) q)
    refine wl_g rfl rfl ?_
    exact wl_sub (sub6 rfl rfl rfl rfl rfl rfl) (KT _ _ _ (Nat.le_refl _) (Nat.le_refl _) ⟨_, _, _, _, _, _, R4, C4, I.pk R.2.2.1.1 (by omega) (by omega) ((I.1.saw9 _ _ _).le (by omega) (by omega))⟩)
theorem c_lay (G : GS B h) (hB : B + 6000 < 2 ^ 30) (hc : cells + 8 ≤ 603072) (hs : slots + 48 ≤ 7227498) (i1 : vp_in (t + 1) L) (i2 : vp_in (t + 2) L) (i3 : vp_in (t + 3) L) (KT : ∀ g c2 s2, c2 ≤ cells + 8 → s2 ≤ slots + 48 → GS (B + 3000) g → WL p l e s m b below meth c D ca ad base L xs c2 s2 1913 (LcB t) [] g) : WL p l e s m b below meth c D ca ad base L xs cells slots 388 (LcB t) [] h := by
  obtain ⟨r, w, S, K, q, T, R, C, I⟩ := G
  iterate 5 refine wl_s rfl ?_
  refine wl_ld rfl i1 ?_
  iterate 4 refine wl_s rfl ?_
  refine wl_ld rfl i2 ?_
  iterate 4 refine wl_s rfl ?_
  refine wl_ld rfl i3 ?_
  refine wl_s rfl ?_
  refine wl_7 (n := 3) (d := 20) (mi := mL_lay) (na := 5) rfl (by decide +kernel) rfl (Nat.le_of_ble_eq_true rfl) (by decide) ⟨by omega, by omega⟩ (l_lay C R I (by omega) _ _ _) (fun k9 h9 p9 => ?_)
  obtain ⟨rfl, R3, C3, y3⟩ := p9
  iterate 6 refine wl_s rfl ?_
  refine wl_ld rfl i1 ?_
  iterate 4 refine wl_s rfl ?_
  refine wl_ld rfl i2 ?_
  iterate 4 refine wl_s rfl ?_
  refine wl_ld rfl i3 ?_
  refine wl_xc rfl rfl ⟨Nat.le_of_ble_eq_true rfl, Nat.le_of_ble_eq_true rfl⟩ (by decide) (g_lay R3 I (by omega) _ _ _) (fun rv9 h9 p9 => ?_)
  obtain ⟨⟨x9, rfl, v9⟩, R4, t4, F4⟩ := p9
  have C4 := C3.fr F4
  iterate 2 refine wl_s rfl ?_
  refine wl_xc rfl rfl ⟨Nat.le_of_ble_eq_true rfl, Nat.le_of_ble_eq_true rfl⟩ (by decide) ((f_thrown 0 _).wm) (fun rv9 h9 p9 => ?_)
  obtain ⟨rfl, rfl⟩ := p9
  rw [t4]
  refine wl_s rfl ?_
  refine wl_b rfl rfl (fun _ => ?_) (fun q => absurd rfl q)
  refine wl_s rfl ?_
  refine wl_b rfl rfl (fun c450 => ?_) (fun c450 => ?_)
  · refine wl_g rfl rfl ?_
    exact wl_sub (sub6 rfl rfl rfl rfl rfl rfl) (KT _ _ _ (Nat.le_refl _) (Nat.le_refl _) ⟨_, _, _, _, _, _, R4, C4, I.pk R.2.2.1.1 (by omega) (by omega) ((I.1.lay9 _ _ _).le (by omega) (by omega))⟩)
  · iterate 2 refine wl_s rfl ?_
    refine wl_ll rfl rfl (vi (k := 0)) ?_
    iterate 3 refine wl_s rfl ?_
    refine wl_b rfl rfl (fun _ => ?_) (fun q => absurd (lgc (by rw [v9 (Decidable.not_not.mp c450)]; exact (congrFun (congrFun (congrArg Prod.fst F4.2) 212) 0).trans (y3 (Decidable.not_not.mp c450)))) q)
    refine wl_g rfl rfl ?_
    exact wl_sub (sub6 rfl rfl rfl rfl rfl rfl) (KT _ _ _ (Nat.le_refl _) (Nat.le_refl _) ⟨_, _, _, _, _, _, R4, C4, I.pk R.2.2.1.1 (by omega) (by omega) ((I.1.lay9 _ _ _).le (by omega) (by omega))⟩)
theorem c_take (G : GS B h) (hB : B + 6000 < 2 ^ 30) (hc : cells + 8 ≤ 603072) (hs : slots + 48 ≤ 7227498) (i1 : vp_in (t + 1) L) (KT : ∀ g c2 s2, c2 ≤ cells + 8 → s2 ≤ slots + 48 → GS (B + 3000) g → WL p l e s m b below meth c D ca ad base L xs c2 s2 1913 (LcB t) [] g) : WL p l e s m b below meth c D ca ad base L xs cells slots 468 (LcB t) [] h := by
  obtain ⟨r, w, S, K, q, T, R, C, I⟩ := G
  iterate 5 refine wl_s rfl ?_
  refine wl_ld rfl i1 ?_
  refine wl_s rfl ?_
  refine wl_7 (n := 3) (d := 20) (mi := mL_take) (na := 3) rfl (by decide +kernel) rfl (Nat.le_of_ble_eq_true rfl) (by decide) ⟨by omega, by omega⟩ (l_take C R I (by omega) _) (fun k9 h9 p9 => ?_)
  obtain ⟨rfl, R3, C3, y3⟩ := p9
  iterate 6 refine wl_s rfl ?_
  refine wl_ld rfl i1 ?_
  refine wl_xc rfl rfl ⟨Nat.le_of_ble_eq_true rfl, Nat.le_of_ble_eq_true rfl⟩ (by decide) (g_take R3 I (by omega) _) (fun rv9 h9 p9 => ?_)
  obtain ⟨⟨x9, rfl, v9⟩, R4, t4, F4⟩ := p9
  have C4 := C3.fr F4
  iterate 2 refine wl_s rfl ?_
  refine wl_xc rfl rfl ⟨Nat.le_of_ble_eq_true rfl, Nat.le_of_ble_eq_true rfl⟩ (by decide) ((f_thrown 0 _).wm) (fun rv9 h9 p9 => ?_)
  obtain ⟨rfl, rfl⟩ := p9
  rw [t4]
  refine wl_s rfl ?_
  refine wl_b rfl rfl (fun _ => ?_) (fun q => absurd rfl q)
  refine wl_s rfl ?_
  refine wl_b rfl rfl (fun c506 => ?_) (fun c506 => ?_)
  · refine wl_g rfl rfl ?_
    exact wl_sub (sub6 rfl rfl rfl rfl rfl rfl) (KT _ _ _ (Nat.le_refl _) (Nat.le_refl _) ⟨_, _, _, _, _, _, R4, C4, I.pk R.2.2.1.1 (by omega) (by omega) ((I.1.take9 _).le (by omega) (by omega))⟩)
  · iterate 2 refine wl_s rfl ?_
    refine wl_ll rfl rfl (vi (k := 0)) ?_
    iterate 3 refine wl_s rfl ?_
    refine wl_b rfl rfl (fun _ => ?_) (fun q => absurd (lgc (by rw [v9 (Decidable.not_not.mp c506)]; exact (congrFun (congrFun (congrArg Prod.fst F4.2) 212) 0).trans (y3 (Decidable.not_not.mp c506)))) q)
    refine wl_g rfl rfl ?_
    exact wl_sub (sub6 rfl rfl rfl rfl rfl rfl) (KT _ _ _ (Nat.le_refl _) (Nat.le_refl _) ⟨_, _, _, _, _, _, R4, C4, I.pk R.2.2.1.1 (by omega) (by omega) ((I.1.take9 _).le (by omega) (by omega))⟩)
theorem c_pass (G : GS B h) (hB : B + 6000 < 2 ^ 30) (hc : cells + 8 ≤ 603072) (hs : slots + 48 ≤ 7227498) (i1 : vp_in (t + 1) L) (KT : ∀ g c2 s2, c2 ≤ cells + 8 → s2 ≤ slots + 48 → GS (B + 3000) g → WL p l e s m b below meth c D ca ad base L xs c2 s2 1913 (LcB t) [] g) : WL p l e s m b below meth c D ca ad base L xs cells slots 524 (LcB t) [] h := by
  obtain ⟨r, w, S, K, q, T, R, C, I⟩ := G
  obtain ⟨B', b1, b2⟩ := I.1.pass (xs (t + 1).toNatClampNeg) (by omega)
  iterate 5 refine wl_s rfl ?_
  refine wl_ld rfl i1 ?_
  refine wl_s rfl ?_
  refine wl_7 (n := 3) (d := 20) (mi := mL_pass) (na := 3) rfl (by decide +kernel) rfl (Nat.le_of_ble_eq_true rfl) (by decide) ⟨by omega, by omega⟩ (l_pass C R I (by omega) _) (fun k9 h9 p9 => ?_)
  obtain ⟨rfl, R3, C3, y3⟩ := p9
  iterate 6 refine wl_s rfl ?_
  refine wl_ld rfl i1 ?_
  refine wl_xc rfl rfl ⟨Nat.le_of_ble_eq_true rfl, Nat.le_of_ble_eq_true rfl⟩ (by decide) (g_pass R3 I (by omega) _) (fun rv9 h9 p9 => ?_)
  obtain ⟨⟨x9, rfl, v9⟩, R4, t4, F4⟩ := p9
  have C4 := C3.fr F4
  iterate 2 refine wl_s rfl ?_
  refine wl_xc rfl rfl ⟨Nat.le_of_ble_eq_true rfl, Nat.le_of_ble_eq_true rfl⟩ (by decide) ((f_thrown 0 _).wm) (fun rv9 h9 p9 => ?_)
  obtain ⟨rfl, rfl⟩ := p9
  rw [t4]
  refine wl_s rfl ?_
  refine wl_b rfl rfl (fun _ => ?_) (fun q => absurd rfl q)
  refine wl_s rfl ?_
  refine wl_b rfl rfl (fun c562 => ?_) (fun c562 => ?_)
  · refine wl_g rfl rfl ?_
    exact wl_sub (sub6 rfl rfl rfl rfl rfl rfl) (KT _ _ _ (Nat.le_refl _) (Nat.le_refl _) ⟨_, _, _, _, _, _, R4, C4, I.pk R.2.2.1.1 (by omega) (by omega) ((b2).le (by omega) (by omega))⟩)
  · iterate 2 refine wl_s rfl ?_
    refine wl_ll rfl rfl (vi (k := 0)) ?_
    iterate 3 refine wl_s rfl ?_
    refine wl_b rfl rfl (fun _ => ?_) (fun q => absurd (lgc (by rw [v9 (Decidable.not_not.mp c562)]; exact (congrFun (congrFun (congrArg Prod.fst F4.2) 212) 0).trans (y3 (Decidable.not_not.mp c562)))) q)
    refine wl_g rfl rfl ?_
    exact wl_sub (sub6 rfl rfl rfl rfl rfl rfl) (KT _ _ _ (Nat.le_refl _) (Nat.le_refl _) ⟨_, _, _, _, _, _, R4, C4, I.pk R.2.2.1.1 (by omega) (by omega) ((b2).le (by omega) (by omega))⟩)
theorem c_blockOf (G : GS B h) (hB : B + 6000 < 2 ^ 30) (hc : cells + 8 ≤ 603072) (hs : slots + 48 ≤ 7227498) (i1 : vp_in (t + 1) L) (i2 : vp_in (t + 2) L) (KT : ∀ g c2 s2, c2 ≤ cells + 8 → s2 ≤ slots + 48 → GS (B + 3000) g → WL p l e s m b below meth c D ca ad base L xs c2 s2 1913 (LcB t) [] g) : WL p l e s m b below meth c D ca ad base L xs cells slots 580 (LcB t) [] h := by
  obtain ⟨r, w, S, K, q, T, R, C, I⟩ := G
  iterate 5 refine wl_s rfl ?_
  refine wl_ld rfl i1 ?_
  iterate 4 refine wl_s rfl ?_
  refine wl_ld rfl i2 ?_
  refine wl_s rfl ?_
  refine wl_7 (n := 3) (d := 20) (mi := mL_blockOf) (na := 4) rfl (by decide +kernel) rfl (Nat.le_of_ble_eq_true rfl) (by decide) ⟨by omega, by omega⟩ (l_blockOf C R I (by omega) _ _) (fun k9 h9 p9 => ?_)
  obtain ⟨rfl, R3, C3, y3⟩ := p9
  iterate 6 refine wl_s rfl ?_
  refine wl_ld rfl i1 ?_
  iterate 4 refine wl_s rfl ?_
  refine wl_ld rfl i2 ?_
  refine wl_xc rfl rfl ⟨Nat.le_of_ble_eq_true rfl, Nat.le_of_ble_eq_true rfl⟩ (by decide) (g_blockOf R3 I (by omega) _ _) (fun rv9 h9 p9 => ?_)
  obtain ⟨⟨x9, rfl, v9⟩, R4, t4, F4⟩ := p9
  have C4 := C3.fr F4
  iterate 2 refine wl_s rfl ?_
  refine wl_xc rfl rfl ⟨Nat.le_of_ble_eq_true rfl, Nat.le_of_ble_eq_true rfl⟩ (by decide) ((f_thrown 0 _).wm) (fun rv9 h9 p9 => ?_)
  obtain ⟨rfl, rfl⟩ := p9
  rw [t4]
  refine wl_s rfl ?_
  refine wl_b rfl rfl (fun _ => ?_) (fun q => absurd rfl q)
  refine wl_s rfl ?_
  refine wl_b rfl rfl (fun c630 => ?_) (fun c630 => ?_)
  · refine wl_g rfl rfl ?_
    exact wl_sub (sub6 rfl rfl rfl rfl rfl rfl) (KT _ _ _ (Nat.le_refl _) (Nat.le_refl _) ⟨_, _, _, _, _, _, R4, C4, I.le (by omega) (by omega)⟩)
  · iterate 2 refine wl_s rfl ?_
    refine wl_ll rfl rfl (vi (k := 0)) ?_
    iterate 3 refine wl_s rfl ?_
    refine wl_b rfl rfl (fun _ => ?_) (fun q => absurd (lgc (by rw [v9 (Decidable.not_not.mp c630)]; exact (congrFun (congrFun (congrArg Prod.fst F4.2) 212) 0).trans (y3 (Decidable.not_not.mp c630)))) q)
    refine wl_g rfl rfl ?_
    exact wl_sub (sub6 rfl rfl rfl rfl rfl rfl) (KT _ _ _ (Nat.le_refl _) (Nat.le_refl _) ⟨_, _, _, _, _, _, R4, C4, I.le (by omega) (by omega)⟩)
theorem c_mass (G : GS B h) (hB : B + 6000 < 2 ^ 30) (hc : cells + 8 ≤ 603072) (hs : slots + 48 ≤ 7227498) (i1 : vp_in (t + 1) L) (KT : ∀ g c2 s2, c2 ≤ cells + 8 → s2 ≤ slots + 48 → GS (B + 3000) g → WL p l e s m b below meth c D ca ad base L xs c2 s2 1913 (LcB t) [] g) : WL p l e s m b below meth c D ca ad base L xs cells slots 648 (LcB t) [] h := by
  obtain ⟨r, w, S, K, q, T, R, C, I⟩ := G
  iterate 5 refine wl_s rfl ?_
  refine wl_ld rfl i1 ?_
  refine wl_s rfl ?_
  refine wl_7 (n := 3) (d := 20) (mi := mL_mass) (na := 3) rfl (by decide +kernel) rfl (Nat.le_of_ble_eq_true rfl) (by decide) ⟨by omega, by omega⟩ (l_mass C R I (by omega) _) (fun k9 h9 p9 => ?_)
  obtain ⟨rfl, R3, C3, y3⟩ := p9
  iterate 6 refine wl_s rfl ?_
  refine wl_ld rfl i1 ?_
  refine wl_xc rfl rfl ⟨Nat.le_of_ble_eq_true rfl, Nat.le_of_ble_eq_true rfl⟩ (by decide) (g_mass R3 I _) (fun rv9 h9 p9 => ?_)
  obtain ⟨⟨x9, rfl, v9, -⟩, R4, t4, F4⟩ := p9
  have C4 := C3.fr F4
  iterate 2 refine wl_s rfl ?_
  refine wl_xc rfl rfl ⟨Nat.le_of_ble_eq_true rfl, Nat.le_of_ble_eq_true rfl⟩ (by decide) ((f_thrown 0 _).wm) (fun rv9 h9 p9 => ?_)
  obtain ⟨rfl, rfl⟩ := p9
  rw [t4]
  refine wl_s rfl ?_
  refine wl_b rfl rfl (fun _ => ?_) (fun q => absurd rfl q)
  refine wl_s rfl ?_
  refine wl_b rfl rfl (fun c687 => ?_) (fun c687 => ?_)
  · refine wl_g rfl rfl ?_
    exact wl_sub (sub6 rfl rfl rfl rfl rfl rfl) (KT _ _ _ (Nat.le_refl _) (Nat.le_refl _) ⟨_, _, _, _, _, _, R4, C4, I.le (by omega) (by omega)⟩)
  · iterate 2 refine wl_s rfl ?_
    have m0 := (f2d_m (mass_ok I.1 (Decidable.not_not.mp c687))).2.2
    have e9 := (congrFun (congrFun (congrArg Prod.snd F4.2) 213) 0).trans (y3 (Decidable.not_not.mp c687))
    have ex := v9 (Decidable.not_not.mp c687)
    subst ex
    refine wl_dl rfl rfl (vi (k := 0)) ?_
    refine wl_s rfl ?_
    refine wl_f2d rfl (d_nn (Nat.le_of_lt m0)) ?_
    refine wl_s rfl ?_
    refine wl_b rfl rfl (fun _ => ?_) (fun q => absurd ((cmp_d (by rw [e9]; exact Nat.le_of_lt m0) (Nat.le_of_lt m0)).2.2.mpr (congrArg UInt64.toNat e9)) q)
    refine wl_g rfl rfl ?_
    exact wl_sub (sub6 rfl rfl rfl rfl rfl rfl) (KT _ _ _ (Nat.le_refl _) (Nat.le_refl _) ⟨_, _, _, _, _, _, R4, C4, I.le (by omega) (by omega)⟩)
theorem c_load (G : GS B h) (hB : B + 6000 < 2 ^ 30) (hc : cells + 8 ≤ 603072) (hs : slots + 48 ≤ 7227498) (i1 : vp_in (t + 1) L) (i2 : vp_in (t + 2) L) (KT : ∀ g c2 s2, c2 ≤ cells + 8 → s2 ≤ slots + 48 → GS (B + 3000) g → WL p l e s m b below meth c D ca ad base L xs c2 s2 1913 (LcB t) [] g) : WL p l e s m b below meth c D ca ad base L xs cells slots 726 (LcB t) [] h := by
  obtain ⟨r, w, S, K, q, T, R, C, I⟩ := G
  by_cases z : xs (t + 2).toNatClampNeg = 0
  · iterate 5 refine wl_s rfl ?_
    refine wl_ld rfl i1 ?_
    iterate 4 refine wl_s rfl ?_
    refine wl_ld rfl i2 ?_
    refine wl_b rfl rfl (fun _ => ?_) (fun q => absurd z q)
    iterate 2 refine wl_s rfl ?_
    refine wl_7 (n := 3) (d := 20) (mi := mL_load) (na := 4) rfl (by decide +kernel) rfl (Nat.le_of_ble_eq_true rfl) (by decide) ⟨by omega, by omega⟩ (l_load C R I (by omega) _ _) (fun k9 h9 p9 => ?_)
    obtain ⟨rfl, R3, C3, y3⟩ := p9
    iterate 6 refine wl_s rfl ?_
    refine wl_ld rfl i1 ?_
    iterate 4 refine wl_s rfl ?_
    refine wl_ld rfl i2 ?_
    refine wl_b rfl rfl (fun _ => ?_) (fun q => absurd z q)
    refine wl_s rfl ?_
    refine wl_xc rfl rfl ⟨Nat.le_of_ble_eq_true rfl, Nat.le_of_ble_eq_true rfl⟩ (by decide) (g_load R3 I (by omega) _ _) (fun rv9 h9 p9 => ?_)
    obtain ⟨⟨x9, rfl, v9⟩, R4, t4, F4⟩ := p9
    have C4 := C3.fr F4
    iterate 2 refine wl_s rfl ?_
    refine wl_xc rfl rfl ⟨Nat.le_of_ble_eq_true rfl, Nat.le_of_ble_eq_true rfl⟩ (by decide) ((f_thrown 0 _).wm) (fun rv9 h9 p9 => ?_)
    obtain ⟨rfl, rfl⟩ := p9
    rw [t4]
    refine wl_s rfl ?_
    refine wl_b rfl rfl (fun _ => ?_) (fun q => absurd rfl q)
    refine wl_s rfl ?_
    refine wl_b rfl rfl (fun c792 => ?_) (fun c792 => ?_)
    · refine wl_g rfl rfl ?_
      exact wl_sub (sub6 rfl rfl rfl rfl rfl rfl) (KT _ _ _ (Nat.le_refl _) (Nat.le_refl _) ⟨_, _, _, _, _, _, R4, C4, I.le (by omega) (by omega)⟩)
    · iterate 2 refine wl_s rfl ?_
      refine wl_ll rfl rfl (vi (k := 0)) ?_
      iterate 3 refine wl_s rfl ?_
      refine wl_b rfl rfl (fun _ => ?_) (fun q => absurd (lgc (by rw [v9 (Decidable.not_not.mp c792)]; exact (congrFun (congrFun (congrArg Prod.fst F4.2) 212) 0).trans (y3 (Decidable.not_not.mp c792)))) q)
      refine wl_g rfl rfl ?_
      exact wl_sub (sub6 rfl rfl rfl rfl rfl rfl) (KT _ _ _ (Nat.le_refl _) (Nat.le_refl _) ⟨_, _, _, _, _, _, R4, C4, I.le (by omega) (by omega)⟩)
  · iterate 5 refine wl_s rfl ?_
    refine wl_ld rfl i1 ?_
    iterate 4 refine wl_s rfl ?_
    refine wl_ld rfl i2 ?_
    refine wl_b rfl rfl (fun q => absurd q z) (fun _ => ?_)
    refine wl_s rfl ?_
    refine wl_g rfl rfl ?_
    refine wl_s rfl ?_
    refine wl_7 (n := 3) (d := 20) (mi := mL_load) (na := 4) rfl (by decide +kernel) rfl (Nat.le_of_ble_eq_true rfl) (by decide) ⟨by omega, by omega⟩ (l_load C R I (by omega) _ _) (fun k9 h9 p9 => ?_)
    obtain ⟨rfl, R3, C3, y3⟩ := p9
    iterate 6 refine wl_s rfl ?_
    refine wl_ld rfl i1 ?_
    iterate 4 refine wl_s rfl ?_
    refine wl_ld rfl i2 ?_
    refine wl_b rfl rfl (fun q => absurd q z) (fun _ => ?_)
    refine wl_s rfl ?_
    refine wl_g rfl rfl ?_
    refine wl_xc rfl rfl ⟨Nat.le_of_ble_eq_true rfl, Nat.le_of_ble_eq_true rfl⟩ (by decide) (g_load R3 I (by omega) _ _) (fun rv9 h9 p9 => ?_)
    obtain ⟨⟨x9, rfl, v9⟩, R4, t4, F4⟩ := p9
    have C4 := C3.fr F4
    iterate 2 refine wl_s rfl ?_
    refine wl_xc rfl rfl ⟨Nat.le_of_ble_eq_true rfl, Nat.le_of_ble_eq_true rfl⟩ (by decide) ((f_thrown 0 _).wm) (fun rv9 h9 p9 => ?_)
    obtain ⟨rfl, rfl⟩ := p9
    rw [t4]
    refine wl_s rfl ?_
    refine wl_b rfl rfl (fun _ => ?_) (fun q => absurd rfl q)
    refine wl_s rfl ?_
    refine wl_b rfl rfl (fun c792 => ?_) (fun c792 => ?_)
    · refine wl_g rfl rfl ?_
      exact wl_sub (sub6 rfl rfl rfl rfl rfl rfl) (KT _ _ _ (Nat.le_refl _) (Nat.le_refl _) ⟨_, _, _, _, _, _, R4, C4, I.le (by omega) (by omega)⟩)
    · iterate 2 refine wl_s rfl ?_
      refine wl_ll rfl rfl (vi (k := 0)) ?_
      iterate 3 refine wl_s rfl ?_
      refine wl_b rfl rfl (fun _ => ?_) (fun q => absurd (lgc (by rw [v9 (Decidable.not_not.mp c792)]; exact (congrFun (congrFun (congrArg Prod.fst F4.2) 212) 0).trans (y3 (Decidable.not_not.mp c792)))) q)
      refine wl_g rfl rfl ?_
      exact wl_sub (sub6 rfl rfl rfl rfl rfl rfl) (KT _ _ _ (Nat.le_refl _) (Nat.le_refl _) ⟨_, _, _, _, _, _, R4, C4, I.le (by omega) (by omega)⟩)
theorem c_loadAgain (G : GS B h) (hB : B + 6000 < 2 ^ 30) (hc : cells + 8 ≤ 603072) (hs : slots + 48 ≤ 7227498) (i1 : vp_in (t + 1) L) (KT : ∀ g c2 s2, c2 ≤ cells + 8 → s2 ≤ slots + 48 → GS (B + 3000) g → WL p l e s m b below meth c D ca ad base L xs c2 s2 1913 (LcB t) [] g) : WL p l e s m b below meth c D ca ad base L xs cells slots 810 (LcB t) [] h := by
  obtain ⟨r, w, S, K, q, T, R, C, I⟩ := G
  iterate 5 refine wl_s rfl ?_
  refine wl_ld rfl i1 ?_
  refine wl_s rfl ?_
  refine wl_7 (n := 3) (d := 20) (mi := mL_loadAgain) (na := 3) rfl (by decide +kernel) rfl (Nat.le_of_ble_eq_true rfl) (by decide) ⟨by omega, by omega⟩ (l_loadAgain C R I (by omega) _) (fun k9 h9 p9 => ?_)
  obtain ⟨rfl, R3, C3, y3⟩ := p9
  iterate 6 refine wl_s rfl ?_
  refine wl_ld rfl i1 ?_
  refine wl_xc rfl rfl ⟨Nat.le_of_ble_eq_true rfl, Nat.le_of_ble_eq_true rfl⟩ (by decide) (g_loadAgain R3 I (by omega) _) (fun rv9 h9 p9 => ?_)
  obtain ⟨⟨x9, rfl, v9⟩, R4, t4, F4⟩ := p9
  have C4 := C3.fr F4
  iterate 2 refine wl_s rfl ?_
  refine wl_xc rfl rfl ⟨Nat.le_of_ble_eq_true rfl, Nat.le_of_ble_eq_true rfl⟩ (by decide) ((f_thrown 0 _).wm) (fun rv9 h9 p9 => ?_)
  obtain ⟨rfl, rfl⟩ := p9
  rw [t4]
  refine wl_s rfl ?_
  refine wl_b rfl rfl (fun _ => ?_) (fun q => absurd rfl q)
  refine wl_s rfl ?_
  refine wl_b rfl rfl (fun c848 => ?_) (fun c848 => ?_)
  · refine wl_g rfl rfl ?_
    exact wl_sub (sub6 rfl rfl rfl rfl rfl rfl) (KT _ _ _ (Nat.le_refl _) (Nat.le_refl _) ⟨_, _, _, _, _, _, R4, C4, I.le (by omega) (by omega)⟩)
  · iterate 2 refine wl_s rfl ?_
    refine wl_ll rfl rfl (vi (k := 0)) ?_
    iterate 3 refine wl_s rfl ?_
    refine wl_b rfl rfl (fun _ => ?_) (fun q => absurd (lgc (by rw [v9 (Decidable.not_not.mp c848)]; exact (congrFun (congrFun (congrArg Prod.fst F4.2) 212) 0).trans (y3 (Decidable.not_not.mp c848)))) q)
    refine wl_g rfl rfl ?_
    exact wl_sub (sub6 rfl rfl rfl rfl rfl rfl) (KT _ _ _ (Nat.le_refl _) (Nat.le_refl _) ⟨_, _, _, _, _, _, R4, C4, I.le (by omega) (by omega)⟩)
theorem c_at (G : GS B h) (hB : B + 6000 < 2 ^ 30) (hc : cells + 8 ≤ 603072) (hs : slots + 48 ≤ 7227498) (i1 : vp_in (t + 1) L) (i2 : vp_in (t + 2) L) (KT : ∀ g c2 s2, c2 ≤ cells + 8 → s2 ≤ slots + 48 → GS (B + 3000) g → WL p l e s m b below meth c D ca ad base L xs c2 s2 1913 (LcB t) [] g) : WL p l e s m b below meth c D ca ad base L xs cells slots 866 (LcB t) [] h := by
  obtain ⟨r, w, S, K, q, T, R, C, I⟩ := G
  iterate 5 refine wl_s rfl ?_
  refine wl_ld rfl i1 ?_
  iterate 4 refine wl_s rfl ?_
  refine wl_ld rfl i2 ?_
  refine wl_s rfl ?_
  refine wl_7 (n := 3) (d := 20) (mi := mL_at) (na := 4) rfl (by decide +kernel) rfl (Nat.le_of_ble_eq_true rfl) (by decide) ⟨by omega, by omega⟩ (l_at C R I (by omega) _ _) (fun k9 h9 p9 => ?_)
  obtain ⟨rfl, R3, C3, y3⟩ := p9
  iterate 6 refine wl_s rfl ?_
  refine wl_ld rfl i1 ?_
  iterate 4 refine wl_s rfl ?_
  refine wl_ld rfl i2 ?_
  refine wl_xc rfl rfl ⟨Nat.le_of_ble_eq_true rfl, Nat.le_of_ble_eq_true rfl⟩ (by decide) (g_at R3 I (by omega) _ _) (fun rv9 h9 p9 => ?_)
  obtain ⟨⟨x9, rfl, v9⟩, R4, t4, F4⟩ := p9
  have C4 := C3.fr F4
  iterate 2 refine wl_s rfl ?_
  refine wl_xc rfl rfl ⟨Nat.le_of_ble_eq_true rfl, Nat.le_of_ble_eq_true rfl⟩ (by decide) ((f_thrown 0 _).wm) (fun rv9 h9 p9 => ?_)
  obtain ⟨rfl, rfl⟩ := p9
  rw [t4]
  refine wl_s rfl ?_
  refine wl_b rfl rfl (fun _ => ?_) (fun q => absurd rfl q)
  refine wl_s rfl ?_
  refine wl_b rfl rfl (fun c916 => ?_) (fun c916 => ?_)
  · refine wl_g rfl rfl ?_
    exact wl_sub (sub6 rfl rfl rfl rfl rfl rfl) (KT _ _ _ (Nat.le_refl _) (Nat.le_refl _) ⟨_, _, _, _, _, _, R4, C4, I.le (by omega) (by omega)⟩)
  · iterate 2 refine wl_s rfl ?_
    refine wl_ll rfl rfl (vi (k := 0)) ?_
    iterate 3 refine wl_s rfl ?_
    refine wl_b rfl rfl (fun _ => ?_) (fun q => absurd (lgc (by rw [v9 (Decidable.not_not.mp c916)]; exact (congrFun (congrFun (congrArg Prod.fst F4.2) 212) 0).trans (y3 (Decidable.not_not.mp c916)))) q)
    refine wl_g rfl rfl ?_
    exact wl_sub (sub6 rfl rfl rfl rfl rfl rfl) (KT _ _ _ (Nat.le_refl _) (Nat.le_refl _) ⟨_, _, _, _, _, _, R4, C4, I.le (by omega) (by omega)⟩)
theorem c_height (G : GS B h) (hB : B + 6000 < 2 ^ 30) (hc : cells + 8 ≤ 603072) (hs : slots + 48 ≤ 7227498) (i1 : vp_in (t + 1) L) (KT : ∀ g c2 s2, c2 ≤ cells + 8 → s2 ≤ slots + 48 → GS (B + 3000) g → WL p l e s m b below meth c D ca ad base L xs c2 s2 1913 (LcB t) [] g) : WL p l e s m b below meth c D ca ad base L xs cells slots 934 (LcB t) [] h := by
  obtain ⟨r, w, S, K, q, T, R, C, I⟩ := G
  iterate 5 refine wl_s rfl ?_
  refine wl_ld rfl i1 ?_
  refine wl_s rfl ?_
  refine wl_7 (n := 3) (d := 20) (mi := mL_height) (na := 3) rfl (by decide +kernel) rfl (Nat.le_of_ble_eq_true rfl) (by decide) ⟨by omega, by omega⟩ (l_height C R I (by omega) _) (fun k9 h9 p9 => ?_)
  obtain ⟨rfl, R3, C3, y3⟩ := p9
  iterate 6 refine wl_s rfl ?_
  refine wl_ld rfl i1 ?_
  refine wl_xc rfl rfl ⟨Nat.le_of_ble_eq_true rfl, Nat.le_of_ble_eq_true rfl⟩ (by decide) (g_height R3 I (by omega) _) (fun rv9 h9 p9 => ?_)
  obtain ⟨⟨x9, rfl, v9⟩, R4, t4, F4⟩ := p9
  have C4 := C3.fr F4
  iterate 2 refine wl_s rfl ?_
  refine wl_xc rfl rfl ⟨Nat.le_of_ble_eq_true rfl, Nat.le_of_ble_eq_true rfl⟩ (by decide) ((f_thrown 0 _).wm) (fun rv9 h9 p9 => ?_)
  obtain ⟨rfl, rfl⟩ := p9
  rw [t4]
  refine wl_s rfl ?_
  refine wl_b rfl rfl (fun _ => ?_) (fun q => absurd rfl q)
  refine wl_s rfl ?_
  refine wl_b rfl rfl (fun c972 => ?_) (fun c972 => ?_)
  · refine wl_g rfl rfl ?_
    exact wl_sub (sub6 rfl rfl rfl rfl rfl rfl) (KT _ _ _ (Nat.le_refl _) (Nat.le_refl _) ⟨_, _, _, _, _, _, R4, C4, I.le (by omega) (by omega)⟩)
  · iterate 2 refine wl_s rfl ?_
    refine wl_ll rfl rfl (vi (k := 0)) ?_
    iterate 3 refine wl_s rfl ?_
    refine wl_b rfl rfl (fun _ => ?_) (fun q => absurd (lgc (by rw [v9 (Decidable.not_not.mp c972)]; exact (congrFun (congrFun (congrArg Prod.fst F4.2) 212) 0).trans (y3 (Decidable.not_not.mp c972)))) q)
    refine wl_g rfl rfl ?_
    exact wl_sub (sub6 rfl rfl rfl rfl rfl rfl) (KT _ _ _ (Nat.le_refl _) (Nat.le_refl _) ⟨_, _, _, _, _, _, R4, C4, I.le (by omega) (by omega)⟩)
theorem c_isShady (G : GS B h) (hB : B + 6000 < 2 ^ 30) (hc : cells + 8 ≤ 603072) (hs : slots + 48 ≤ 7227498) (i1 : vp_in (t + 1) L) (i2 : vp_in (t + 2) L) (KT : ∀ g c2 s2, c2 ≤ cells + 8 → s2 ≤ slots + 48 → GS (B + 3000) g → WL p l e s m b below meth c D ca ad base L xs c2 s2 1913 (LcB t) [] g) : WL p l e s m b below meth c D ca ad base L xs cells slots 990 (LcB t) [] h := by
  obtain ⟨r, w, S, K, q, T, R, C, I⟩ := G
  iterate 5 refine wl_s rfl ?_
  refine wl_ld rfl i1 ?_
  iterate 4 refine wl_s rfl ?_
  refine wl_ld rfl i2 ?_
  refine wl_s rfl ?_
  refine wl_7 (n := 3) (d := 20) (mi := mL_isShady) (na := 4) rfl (by decide +kernel) rfl (Nat.le_of_ble_eq_true rfl) (by decide) ⟨by omega, by omega⟩ (l_isShady C R I (by omega) _ _) (fun k9 h9 p9 => ?_)
  obtain ⟨rfl, R3, C3, y3⟩ := p9
  iterate 6 refine wl_s rfl ?_
  refine wl_ld rfl i1 ?_
  iterate 4 refine wl_s rfl ?_
  refine wl_ld rfl i2 ?_
  refine wl_xc rfl rfl ⟨Nat.le_of_ble_eq_true rfl, Nat.le_of_ble_eq_true rfl⟩ (by decide) (g_isShady R3 I (by omega) _ _) (fun rv9 h9 p9 => ?_)
  obtain ⟨⟨x9, rfl, v9⟩, R4, t4, F4⟩ := p9
  have C4 := C3.fr F4
  iterate 2 refine wl_s rfl ?_
  refine wl_xc rfl rfl ⟨Nat.le_of_ble_eq_true rfl, Nat.le_of_ble_eq_true rfl⟩ (by decide) ((f_thrown 0 _).wm) (fun rv9 h9 p9 => ?_)
  obtain ⟨rfl, rfl⟩ := p9
  rw [t4]
  refine wl_s rfl ?_
  refine wl_b rfl rfl (fun _ => ?_) (fun q => absurd rfl q)
  refine wl_s rfl ?_
  refine wl_b rfl rfl (fun c1040 => ?_) (fun c1040 => ?_)
  · refine wl_g rfl rfl ?_
    exact wl_sub (sub6 rfl rfl rfl rfl rfl rfl) (KT _ _ _ (Nat.le_refl _) (Nat.le_refl _) ⟨_, _, _, _, _, _, R4, C4, I.le (by omega) (by omega)⟩)
  · iterate 2 refine wl_s rfl ?_
    refine wl_ll rfl rfl (vi (k := 0)) ?_
    refine wl_s rfl ?_
    refine wl_b rfl rfl (fun c1048 => ?_) (fun c1048 => ?_)
    · iterate 2 refine wl_s rfl ?_
      have z9 := lgc ((congrFun (congrFun (congrArg Prod.fst F4.2) 212) 0).trans ((y3 (Decidable.not_not.mp c1040)).trans (bIL0 ((v9 (Decidable.not_not.mp c1040)).symm.trans c1048))))
      refine wl_b rfl rfl (fun _ => ?_) (fun q => absurd z9 q)
      refine wl_g rfl rfl ?_
      exact wl_sub (sub6 rfl rfl rfl rfl rfl rfl) (KT _ _ _ (Nat.le_refl _) (Nat.le_refl _) ⟨_, _, _, _, _, _, R4, C4, I.le (by omega) (by omega)⟩)
    · refine wl_s rfl ?_
      refine wl_g rfl rfl ?_
      refine wl_s rfl ?_
      have z9 := lgc ((congrFun (congrFun (congrArg Prod.fst F4.2) 212) 0).trans ((y3 (Decidable.not_not.mp c1040)).trans (bIL1 (fun z => c1048 ((v9 (Decidable.not_not.mp c1040)).trans z)))))
      refine wl_b rfl rfl (fun _ => ?_) (fun q => absurd z9 q)
      refine wl_g rfl rfl ?_
      exact wl_sub (sub6 rfl rfl rfl rfl rfl rfl) (KT _ _ _ (Nat.le_refl _) (Nat.le_refl _) ⟨_, _, _, _, _, _, R4, C4, I.le (by omega) (by omega)⟩)
theorem c_rooms (G : GS B h) (hB : B + 6000 < 2 ^ 30) (hc : cells + 8 ≤ 603072) (hs : slots + 48 ≤ 7227498) (i1 : vp_in (t + 1) L) (i2 : vp_in (t + 2) L) (KT : ∀ g c2 s2, c2 ≤ cells + 8 → s2 ≤ slots + 48 → GS (B + 3000) g → WL p l e s m b below meth c D ca ad base L xs c2 s2 1913 (LcB t) [] g) : WL p l e s m b below meth c D ca ad base L xs cells slots 1121 (LcB t) [] h := by
  obtain ⟨r, w, S, K, q, T, R, C, I⟩ := G
  iterate 5 refine wl_s rfl ?_
  refine wl_ld rfl i1 ?_
  iterate 4 refine wl_s rfl ?_
  refine wl_ld rfl i2 ?_
  refine wl_s rfl ?_
  refine wl_7 (n := 3) (d := 20) (mi := mL_rooms) (na := 4) rfl (by decide +kernel) rfl (Nat.le_of_ble_eq_true rfl) (by decide) ⟨by omega, by omega⟩ (l_rooms C R I (by omega) _ _) (fun k9 h9 p9 => ?_)
  obtain ⟨rfl, R3, C3, y3⟩ := p9
  iterate 6 refine wl_s rfl ?_
  refine wl_ld rfl i1 ?_
  iterate 4 refine wl_s rfl ?_
  refine wl_ld rfl i2 ?_
  refine wl_xc rfl rfl ⟨Nat.le_of_ble_eq_true rfl, Nat.le_of_ble_eq_true rfl⟩ (by decide) (g_rooms R3 I (by omega) _ _) (fun rv9 h9 p9 => ?_)
  obtain ⟨⟨x9, rfl, v9⟩, R4, t4, F4⟩ := p9
  have C4 := C3.fr F4
  iterate 2 refine wl_s rfl ?_
  refine wl_xc rfl rfl ⟨Nat.le_of_ble_eq_true rfl, Nat.le_of_ble_eq_true rfl⟩ (by decide) ((f_thrown 0 _).wm) (fun rv9 h9 p9 => ?_)
  obtain ⟨rfl, rfl⟩ := p9
  rw [t4]
  refine wl_s rfl ?_
  refine wl_b rfl rfl (fun _ => ?_) (fun q => absurd rfl q)
  refine wl_s rfl ?_
  refine wl_b rfl rfl (fun c1171 => ?_) (fun c1171 => ?_)
  · refine wl_g rfl rfl ?_
    exact wl_sub (sub6 rfl rfl rfl rfl rfl rfl) (KT _ _ _ (Nat.le_refl _) (Nat.le_refl _) ⟨_, _, _, _, _, _, R4, C4, I.le (by omega) (by omega)⟩)
  · iterate 2 refine wl_s rfl ?_
    refine wl_ll rfl rfl (vi (k := 0)) ?_
    iterate 3 refine wl_s rfl ?_
    refine wl_b rfl rfl (fun _ => ?_) (fun q => absurd (lgc (by rw [v9 (Decidable.not_not.mp c1171)]; exact (congrFun (congrFun (congrArg Prod.fst F4.2) 212) 0).trans (y3 (Decidable.not_not.mp c1171)))) q)
    refine wl_g rfl rfl ?_
    exact wl_sub (sub6 rfl rfl rfl rfl rfl rfl) (KT _ _ _ (Nat.le_refl _) (Nat.le_refl _) ⟨_, _, _, _, _, _, R4, C4, I.le (by omega) (by omega)⟩)
theorem c_inRack (G : GS B h) (hB : B + 6000 < 2 ^ 30) (hc : cells + 8 ≤ 603072) (hs : slots + 48 ≤ 7227498) (i1 : vp_in (t + 1) L) (i2 : vp_in (t + 2) L) (KT : ∀ g c2 s2, c2 ≤ cells + 8 → s2 ≤ slots + 48 → GS (B + 3000) g → WL p l e s m b below meth c D ca ad base L xs c2 s2 1913 (LcB t) [] g) : WL p l e s m b below meth c D ca ad base L xs cells slots 1189 (LcB t) [] h := by
  obtain ⟨r, w, S, K, q, T, R, C, I⟩ := G
  iterate 5 refine wl_s rfl ?_
  refine wl_ld rfl i1 ?_
  iterate 4 refine wl_s rfl ?_
  refine wl_ld rfl i2 ?_
  refine wl_s rfl ?_
  refine wl_7 (n := 3) (d := 20) (mi := mL_inRack) (na := 4) rfl (by decide +kernel) rfl (Nat.le_of_ble_eq_true rfl) (by decide) ⟨by omega, by omega⟩ (l_inRack C R I (by omega) _ _) (fun k9 h9 p9 => ?_)
  obtain ⟨rfl, R3, C3, y3⟩ := p9
  iterate 6 refine wl_s rfl ?_
  refine wl_ld rfl i1 ?_
  iterate 4 refine wl_s rfl ?_
  refine wl_ld rfl i2 ?_
  refine wl_xc rfl rfl ⟨Nat.le_of_ble_eq_true rfl, Nat.le_of_ble_eq_true rfl⟩ (by decide) (g_inRack R3 I (by omega) _ _) (fun rv9 h9 p9 => ?_)
  obtain ⟨⟨x9, rfl, v9⟩, R4, t4, F4⟩ := p9
  have C4 := C3.fr F4
  iterate 2 refine wl_s rfl ?_
  refine wl_xc rfl rfl ⟨Nat.le_of_ble_eq_true rfl, Nat.le_of_ble_eq_true rfl⟩ (by decide) ((f_thrown 0 _).wm) (fun rv9 h9 p9 => ?_)
  obtain ⟨rfl, rfl⟩ := p9
  rw [t4]
  refine wl_s rfl ?_
  refine wl_b rfl rfl (fun _ => ?_) (fun q => absurd rfl q)
  refine wl_s rfl ?_
  refine wl_b rfl rfl (fun c1239 => ?_) (fun c1239 => ?_)
  · refine wl_g rfl rfl ?_
    exact wl_sub (sub6 rfl rfl rfl rfl rfl rfl) (KT _ _ _ (Nat.le_refl _) (Nat.le_refl _) ⟨_, _, _, _, _, _, R4, C4, I.le (by omega) (by omega)⟩)
  · iterate 2 refine wl_s rfl ?_
    refine wl_ll rfl rfl (vi (k := 0)) ?_
    iterate 3 refine wl_s rfl ?_
    refine wl_b rfl rfl (fun _ => ?_) (fun q => absurd (lgc (by rw [v9 (Decidable.not_not.mp c1239)]; exact (congrFun (congrFun (congrArg Prod.fst F4.2) 212) 0).trans (y3 (Decidable.not_not.mp c1239)))) q)
    refine wl_g rfl rfl ?_
    exact wl_sub (sub6 rfl rfl rfl rfl rfl rfl) (KT _ _ _ (Nat.le_refl _) (Nat.le_refl _) ⟨_, _, _, _, _, _, R4, C4, I.le (by omega) (by omega)⟩)
theorem c_worst (G : GS B h) (hB : B + 6000 < 2 ^ 30) (hc : cells + 8 ≤ 603072) (hs : slots + 48 ≤ 7227498) (KT : ∀ g c2 s2, c2 ≤ cells + 8 → s2 ≤ slots + 48 → GS (B + 3000) g → WL p l e s m b below meth c D ca ad base L xs c2 s2 1913 (LcB t) [] g) : WL p l e s m b below meth c D ca ad base L xs cells slots 1257 (LcB t) [] h := by
  obtain ⟨r, w, S, K, q, T, R, C, I⟩ := G
  iterate 2 refine wl_s rfl ?_
  refine wl_7 (n := 3) (d := 20) (mi := mL_worst) (na := 2) rfl (by decide +kernel) rfl (Nat.le_of_ble_eq_true rfl) (by decide) ⟨by omega, by omega⟩ (l_worst C R I (by omega)) (fun k9 h9 p9 => ?_)
  obtain ⟨rfl, R3, C3, y3⟩ := p9
  iterate 2 refine wl_s rfl ?_
  refine wl_xc rfl rfl ⟨Nat.le_of_ble_eq_true rfl, Nat.le_of_ble_eq_true rfl⟩ (by decide) (g_worst R3 I (by omega)) (fun rv9 h9 p9 => ?_)
  obtain ⟨⟨x9, rfl, v9⟩, R4, t4, F4⟩ := p9
  have C4 := C3.fr F4
  iterate 2 refine wl_s rfl ?_
  refine wl_xc rfl rfl ⟨Nat.le_of_ble_eq_true rfl, Nat.le_of_ble_eq_true rfl⟩ (by decide) ((f_thrown 0 _).wm) (fun rv9 h9 p9 => ?_)
  obtain ⟨rfl, rfl⟩ := p9
  rw [t4]
  refine wl_s rfl ?_
  refine wl_b rfl rfl (fun _ => ?_) (fun q => absurd rfl q)
  refine wl_s rfl ?_
  refine wl_b rfl rfl (fun c1283 => ?_) (fun c1283 => ?_)
  · refine wl_g rfl rfl ?_
    exact wl_sub (sub6 rfl rfl rfl rfl rfl rfl) (KT _ _ _ (Nat.le_refl _) (Nat.le_refl _) ⟨_, _, _, _, _, _, R4, C4, I.le (by omega) (by omega)⟩)
  · iterate 2 refine wl_s rfl ?_
    refine wl_ll rfl rfl (vi (k := 0)) ?_
    iterate 3 refine wl_s rfl ?_
    refine wl_b rfl rfl (fun _ => ?_) (fun q => absurd (lgc (by rw [v9 (Decidable.not_not.mp c1283)]; exact (congrFun (congrFun (congrArg Prod.fst F4.2) 212) 0).trans (y3 (Decidable.not_not.mp c1283)))) q)
    refine wl_g rfl rfl ?_
    exact wl_sub (sub6 rfl rfl rfl rfl rfl rfl) (KT _ _ _ (Nat.le_refl _) (Nat.le_refl _) ⟨_, _, _, _, _, _, R4, C4, I.le (by omega) (by omega)⟩)
theorem c_goneIn (G : GS B h) (hB : B + 6000 < 2 ^ 30) (hc : cells + 8 ≤ 603072) (hs : slots + 48 ≤ 7227498) (KT : ∀ g c2 s2, c2 ≤ cells + 8 → s2 ≤ slots + 48 → GS (B + 3000) g → WL p l e s m b below meth c D ca ad base L xs c2 s2 1913 (LcB t) [] g) : WL p l e s m b below meth c D ca ad base L xs cells slots 1301 (LcB t) [] h := by
  obtain ⟨r, w, S, K, q, T, R, C, I⟩ := G
  iterate 2 refine wl_s rfl ?_
  refine wl_7 (n := 3) (d := 20) (mi := mL_goneIn) (na := 2) rfl (by decide +kernel) rfl (Nat.le_of_ble_eq_true rfl) (by decide) ⟨by omega, by omega⟩ (l_goneIn C R I (by omega)) (fun k9 h9 p9 => ?_)
  obtain ⟨rfl, R3, C3, y3⟩ := p9
  iterate 2 refine wl_s rfl ?_
  refine wl_xc rfl rfl ⟨Nat.le_of_ble_eq_true rfl, Nat.le_of_ble_eq_true rfl⟩ (by decide) (g_goneIn R3 I (by omega)) (fun rv9 h9 p9 => ?_)
  obtain ⟨⟨x9, rfl, v9⟩, R4, t4, F4⟩ := p9
  have C4 := C3.fr F4
  iterate 2 refine wl_s rfl ?_
  refine wl_xc rfl rfl ⟨Nat.le_of_ble_eq_true rfl, Nat.le_of_ble_eq_true rfl⟩ (by decide) ((f_thrown 0 _).wm) (fun rv9 h9 p9 => ?_)
  obtain ⟨rfl, rfl⟩ := p9
  rw [t4]
  refine wl_s rfl ?_
  refine wl_b rfl rfl (fun _ => ?_) (fun q => absurd rfl q)
  refine wl_s rfl ?_
  refine wl_b rfl rfl (fun c1327 => ?_) (fun c1327 => ?_)
  · refine wl_g rfl rfl ?_
    exact wl_sub (sub6 rfl rfl rfl rfl rfl rfl) (KT _ _ _ (Nat.le_refl _) (Nat.le_refl _) ⟨_, _, _, _, _, _, R4, C4, I.le (by omega) (by omega)⟩)
  · iterate 2 refine wl_s rfl ?_
    refine wl_ll rfl rfl (vi (k := 0)) ?_
    iterate 3 refine wl_s rfl ?_
    refine wl_b rfl rfl (fun _ => ?_) (fun q => absurd (lgc (by rw [v9 (Decidable.not_not.mp c1327)]; exact (congrFun (congrFun (congrArg Prod.fst F4.2) 212) 0).trans (y3 (Decidable.not_not.mp c1327)))) q)
    refine wl_g rfl rfl ?_
    exact wl_sub (sub6 rfl rfl rfl rfl rfl rfl) (KT _ _ _ (Nat.le_refl _) (Nat.le_refl _) ⟨_, _, _, _, _, _, R4, C4, I.le (by omega) (by omega)⟩)
theorem c_massBits (G : GS B h) (hB : B + 6000 < 2 ^ 30) (hc : cells + 8 ≤ 603072) (hs : slots + 48 ≤ 7227498) (i1 : vp_in (t + 1) L) (i2 : vp_in (t + 2) L) (KT : ∀ g c2 s2, c2 ≤ cells + 8 → s2 ≤ slots + 48 → GS (B + 3000) g → WL p l e s m b below meth c D ca ad base L xs c2 s2 1913 (LcB t) [] g) : WL p l e s m b below meth c D ca ad base L xs cells slots 1345 (LcB t) [] h := by
  obtain ⟨r, w, S, K, q, T, R, C, I⟩ := G
  iterate 5 refine wl_s rfl ?_
  refine wl_ld rfl i1 ?_
  iterate 4 refine wl_s rfl ?_
  refine wl_ld rfl i2 ?_
  refine wl_s rfl ?_
  refine wl_7 (n := 3) (d := 20) (mi := mL_massBits) (na := 4) rfl (by decide +kernel) rfl (Nat.le_of_ble_eq_true rfl) (by decide) ⟨by omega, by omega⟩ (l_massBits C R I (by omega) _ _) (fun k9 h9 p9 => ?_)
  obtain ⟨rfl, R3, C3, y3⟩ := p9
  iterate 6 refine wl_s rfl ?_
  refine wl_ld rfl i1 ?_
  iterate 4 refine wl_s rfl ?_
  refine wl_ld rfl i2 ?_
  refine wl_xc rfl rfl ⟨Nat.le_of_ble_eq_true rfl, Nat.le_of_ble_eq_true rfl⟩ (by decide) (g_massBits R3 I (by omega) _ _) (fun rv9 h9 p9 => ?_)
  obtain ⟨⟨x9, rfl, v9⟩, R4, t4, F4⟩ := p9
  have C4 := C3.fr F4
  iterate 2 refine wl_s rfl ?_
  refine wl_xc rfl rfl ⟨Nat.le_of_ble_eq_true rfl, Nat.le_of_ble_eq_true rfl⟩ (by decide) ((f_thrown 0 _).wm) (fun rv9 h9 p9 => ?_)
  obtain ⟨rfl, rfl⟩ := p9
  rw [t4]
  refine wl_s rfl ?_
  refine wl_b rfl rfl (fun _ => ?_) (fun q => absurd rfl q)
  refine wl_s rfl ?_
  refine wl_b rfl rfl (fun c1395 => ?_) (fun c1395 => ?_)
  · refine wl_g rfl rfl ?_
    exact wl_sub (sub6 rfl rfl rfl rfl rfl rfl) (KT _ _ _ (Nat.le_refl _) (Nat.le_refl _) ⟨_, _, _, _, _, _, R4, C4, I.le (by omega) (by omega)⟩)
  · iterate 2 refine wl_s rfl ?_
    refine wl_ll rfl rfl (vi (k := 0)) ?_
    iterate 3 refine wl_s rfl ?_
    refine wl_b rfl rfl (fun _ => ?_) (fun q => absurd (lgc (by rw [v9 (Decidable.not_not.mp c1395)]; exact (congrFun (congrFun (congrArg Prod.fst F4.2) 212) 0).trans (y3 (Decidable.not_not.mp c1395)))) q)
    refine wl_g rfl rfl ?_
    exact wl_sub (sub6 rfl rfl rfl rfl rfl rfl) (KT _ _ _ (Nat.le_refl _) (Nat.le_refl _) ⟨_, _, _, _, _, _, R4, C4, I.le (by omega) (by omega)⟩)
theorem c_safe (G : GS B h) (hB : B + 6000 < 2 ^ 30) (hc : cells + 8 ≤ 603072) (hs : slots + 48 ≤ 7227498) (KT : ∀ g c2 s2, c2 ≤ cells + 8 → s2 ≤ slots + 48 → GS (B + 3000) g → WL p l e s m b below meth c D ca ad base L xs c2 s2 1913 (LcB t) [] g) : WL p l e s m b below meth c D ca ad base L xs cells slots 1413 (LcB t) [] h := by
  obtain ⟨r, w, S, K, q, T, R, C, I⟩ := G
  iterate 2 refine wl_s rfl ?_
  refine wl_7 (n := 3) (d := 20) (mi := mL_safe) (na := 2) rfl (by decide +kernel) rfl (Nat.le_of_ble_eq_true rfl) (by decide) ⟨by omega, by omega⟩ (l_safe C R I (by omega)) (fun k9 h9 p9 => ?_)
  obtain ⟨rfl, R3, C3, y3⟩ := p9
  iterate 2 refine wl_s rfl ?_
  refine wl_xc rfl rfl ⟨Nat.le_of_ble_eq_true rfl, Nat.le_of_ble_eq_true rfl⟩ (by decide) (g_safe R3 I (by omega)) (fun rv9 h9 p9 => ?_)
  obtain ⟨⟨x9, rfl, v9⟩, R4, t4, F4⟩ := p9
  have C4 := C3.fr F4
  iterate 2 refine wl_s rfl ?_
  refine wl_xc rfl rfl ⟨Nat.le_of_ble_eq_true rfl, Nat.le_of_ble_eq_true rfl⟩ (by decide) ((f_thrown 0 _).wm) (fun rv9 h9 p9 => ?_)
  obtain ⟨rfl, rfl⟩ := p9
  rw [t4]
  refine wl_s rfl ?_
  refine wl_b rfl rfl (fun _ => ?_) (fun q => absurd rfl q)
  refine wl_s rfl ?_
  refine wl_b rfl rfl (fun c1439 => ?_) (fun c1439 => ?_)
  · refine wl_g rfl rfl ?_
    exact wl_sub (sub6 rfl rfl rfl rfl rfl rfl) (KT _ _ _ (Nat.le_refl _) (Nat.le_refl _) ⟨_, _, _, _, _, _, R4, C4, I.le (by omega) (by omega)⟩)
  · iterate 2 refine wl_s rfl ?_
    refine wl_ll rfl rfl (vi (k := 0)) ?_
    iterate 3 refine wl_s rfl ?_
    refine wl_b rfl rfl (fun _ => ?_) (fun q => absurd (lgc (by rw [v9 (Decidable.not_not.mp c1439)]; exact (congrFun (congrFun (congrArg Prod.fst F4.2) 212) 0).trans (y3 (Decidable.not_not.mp c1439)))) q)
    refine wl_g rfl rfl ?_
    exact wl_sub (sub6 rfl rfl rfl rfl rfl rfl) (KT _ _ _ (Nat.le_refl _) (Nat.le_refl _) ⟨_, _, _, _, _, _, R4, C4, I.le (by omega) (by omega)⟩)
theorem c_left (G : GS B h) (hB : B + 6000 < 2 ^ 30) (hc : cells + 8 ≤ 603072) (hs : slots + 48 ≤ 7227498) (i1 : vp_in (t + 1) L) (KT : ∀ g c2 s2, c2 ≤ cells + 8 → s2 ≤ slots + 48 → GS (B + 3000) g → WL p l e s m b below meth c D ca ad base L xs c2 s2 1913 (LcB t) [] g) : WL p l e s m b below meth c D ca ad base L xs cells slots 1457 (LcB t) [] h := by
  obtain ⟨r, w, S, K, q, T, R, C, I⟩ := G
  iterate 5 refine wl_s rfl ?_
  refine wl_ld rfl i1 ?_
  refine wl_s rfl ?_
  refine wl_7 (n := 3) (d := 20) (mi := mL_left) (na := 3) rfl (by decide +kernel) rfl (Nat.le_of_ble_eq_true rfl) (by decide) ⟨by omega, by omega⟩ (l_left C R I (by omega) _) (fun k9 h9 p9 => ?_)
  obtain ⟨rfl, R3, C3, y3⟩ := p9
  iterate 6 refine wl_s rfl ?_
  refine wl_ld rfl i1 ?_
  refine wl_xc rfl rfl ⟨Nat.le_of_ble_eq_true rfl, Nat.le_of_ble_eq_true rfl⟩ (by decide) (g_left R3 I (by omega) _) (fun rv9 h9 p9 => ?_)
  obtain ⟨⟨x9, rfl, v9⟩, R4, t4, F4⟩ := p9
  have C4 := C3.fr F4
  iterate 2 refine wl_s rfl ?_
  refine wl_xc rfl rfl ⟨Nat.le_of_ble_eq_true rfl, Nat.le_of_ble_eq_true rfl⟩ (by decide) ((f_thrown 0 _).wm) (fun rv9 h9 p9 => ?_)
  obtain ⟨rfl, rfl⟩ := p9
  rw [t4]
  refine wl_s rfl ?_
  refine wl_b rfl rfl (fun _ => ?_) (fun q => absurd rfl q)
  refine wl_s rfl ?_
  refine wl_b rfl rfl (fun c1495 => ?_) (fun c1495 => ?_)
  · refine wl_g rfl rfl ?_
    exact wl_sub (sub6 rfl rfl rfl rfl rfl rfl) (KT _ _ _ (Nat.le_refl _) (Nat.le_refl _) ⟨_, _, _, _, _, _, R4, C4, I.le (by omega) (by omega)⟩)
  · iterate 2 refine wl_s rfl ?_
    refine wl_ll rfl rfl (vi (k := 0)) ?_
    iterate 3 refine wl_s rfl ?_
    refine wl_b rfl rfl (fun _ => ?_) (fun q => absurd (lgc (by rw [v9 (Decidable.not_not.mp c1495)]; exact (congrFun (congrFun (congrArg Prod.fst F4.2) 212) 0).trans (y3 (Decidable.not_not.mp c1495)))) q)
    refine wl_g rfl rfl ?_
    exact wl_sub (sub6 rfl rfl rfl rfl rfl rfl) (KT _ _ _ (Nat.le_refl _) (Nat.le_refl _) ⟨_, _, _, _, _, _, R4, C4, I.le (by omega) (by omega)⟩)
theorem c_append (G : GS B h) (hB : B + 6000 < 2 ^ 30) (hc : cells + 8 ≤ 603072) (hs : slots + 48 ≤ 7227498) (i1 : vp_in (t + 1) L) (KT : ∀ g c2 s2, c2 ≤ cells + 8 → s2 ≤ slots + 48 → GS (B + 3000) g → WL p l e s m b below meth c D ca ad base L xs c2 s2 1913 (LcB t) [] g) : WL p l e s m b below meth c D ca ad base L xs cells slots 1513 (LcB t) [] h := by
  obtain ⟨r, w, S, K, q, T, R, C, I⟩ := G
  iterate 5 refine wl_s rfl ?_
  refine wl_ld rfl i1 ?_
  iterate 2 refine wl_s rfl ?_
  refine wl_7 (n := 3) (d := 20) (mi := mL_append) (na := 3) rfl (by decide +kernel) rfl (Nat.le_of_ble_eq_true rfl) (by decide) ⟨by omega, by omega⟩ (l_append C R I (by omega) _ i2c_k) (fun k9 h9 p9 => ?_)
  obtain ⟨rfl, R3, C3, y3⟩ := p9
  iterate 6 refine wl_s rfl ?_
  refine wl_ld rfl i1 ?_
  refine wl_s rfl ?_
  refine wl_xc rfl rfl ⟨Nat.le_of_ble_eq_true rfl, Nat.le_of_ble_eq_true rfl⟩ (by decide) (g_append R3 _ i2c_k) (fun rv9 h9 p9 => ?_)
  obtain ⟨⟨x9, rfl, v9⟩, R4, t4, F4⟩ := p9
  have C4 := C3.fr F4
  iterate 2 refine wl_s rfl ?_
  refine wl_xc rfl rfl ⟨Nat.le_of_ble_eq_true rfl, Nat.le_of_ble_eq_true rfl⟩ (by decide) ((f_thrown 0 _).wm) (fun rv9 h9 p9 => ?_)
  obtain ⟨rfl, rfl⟩ := p9
  rw [t4]
  refine wl_s rfl ?_
  refine wl_b rfl rfl (fun _ => ?_) (fun q => absurd rfl q)
  refine wl_s rfl ?_
  refine wl_b rfl rfl (fun c1553 => ?_) (fun c1553 => ?_)
  · refine wl_g rfl rfl ?_
    exact wl_sub (sub6 rfl rfl rfl rfl rfl rfl) (KT _ _ _ (Nat.le_refl _) (Nat.le_refl _) ⟨_, _, _, _, _, _, R4, C4, I.le (by omega) (by omega)⟩)
  · iterate 2 refine wl_s rfl ?_
    refine wl_ll rfl rfl (vi (k := 0)) ?_
    iterate 3 refine wl_s rfl ?_
    refine wl_b rfl rfl (fun _ => ?_) (fun q => absurd (lgc (by rw [v9 (Decidable.not_not.mp c1553)]; exact (congrFun (congrFun (congrArg Prod.fst F4.2) 212) 0).trans (y3 (Decidable.not_not.mp c1553)))) q)
    refine wl_g rfl rfl ?_
    exact wl_sub (sub6 rfl rfl rfl rfl rfl rfl) (KT _ _ _ (Nat.le_refl _) (Nat.le_refl _) ⟨_, _, _, _, _, _, R4, C4, I.le (by omega) (by omega)⟩)
theorem c_read (G : GS B h) (hB : B + 6000 < 2 ^ 30) (hc : cells + 8 ≤ 603072) (hs : slots + 48 ≤ 7227498) (KT : ∀ g c2 s2, c2 ≤ cells + 8 → s2 ≤ slots + 48 → GS (B + 3000) g → WL p l e s m b below meth c D ca ad base L xs c2 s2 1913 (LcB t) [] g) : WL p l e s m b below meth c D ca ad base L xs cells slots 1571 (LcB t) [] h := by
  obtain ⟨r, w, S, K, q, T, R, C, I⟩ := G
  obtain ⟨-, -, -, -, -, -, N1, -⟩ := f_countOrders 5 R.2.2.2.2.2.2.1 R.2.2.2.2.2.2.2.2 R.2.2.2.2.2.1
  iterate 2 refine wl_s rfl ?_
  refine wl_7 (n := 3) (d := 20) (mi := mL_read) (na := 2) rfl (by decide +kernel) rfl (Nat.le_of_ble_eq_true rfl) (by decide) ⟨by omega, by omega⟩ (l_read C R I (by omega)) (fun k9 h9 p9 => ?_)
  obtain ⟨rfl, R3, C3, y3⟩ := p9
  iterate 2 refine wl_s rfl ?_
  refine wl_xc rfl rfl ⟨Nat.le_of_ble_eq_true rfl, Nat.le_of_ble_eq_true rfl⟩ (by decide) (g_read R3 I (by omega)) (fun rv9 h9 p9 => ?_)
  obtain ⟨⟨x9, rfl, v9⟩, R4, t4, F4⟩ := p9
  have C4 := C3.fr F4
  iterate 2 refine wl_s rfl ?_
  refine wl_xc rfl rfl ⟨Nat.le_of_ble_eq_true rfl, Nat.le_of_ble_eq_true rfl⟩ (by decide) ((f_thrown 0 _).wm) (fun rv9 h9 p9 => ?_)
  obtain ⟨rfl, rfl⟩ := p9
  rw [t4]
  refine wl_s rfl ?_
  refine wl_b rfl rfl (fun _ => ?_) (fun q => absurd rfl q)
  refine wl_s rfl ?_
  refine wl_b rfl rfl (fun c1597 => ?_) (fun c1597 => ?_)
  · refine wl_g rfl rfl ?_
    exact wl_sub (sub6 rfl rfl rfl rfl rfl rfl) (KT _ _ _ (Nat.le_refl _) (Nat.le_refl _) ⟨_, _, _, _, _, _, R4, C4, I.rdo R.2.2.1.1 (by omega) N1⟩)
  · iterate 2 refine wl_s rfl ?_
    refine wl_ll rfl rfl (vi (k := 0)) ?_
    iterate 3 refine wl_s rfl ?_
    refine wl_b rfl rfl (fun _ => ?_) (fun q => absurd (lgc (by rw [v9 (Decidable.not_not.mp c1597)]; exact (congrFun (congrFun (congrArg Prod.fst F4.2) 212) 0).trans (y3 (Decidable.not_not.mp c1597)))) q)
    refine wl_g rfl rfl ?_
    exact wl_sub (sub6 rfl rfl rfl rfl rfl rfl) (KT _ _ _ (Nat.le_refl _) (Nat.le_refl _) ⟨_, _, _, _, _, _, R4, C4, I.rdo R.2.2.1.1 (by omega) N1⟩)
theorem c_errorPosition (G : GS B h) (hB : B + 6000 < 2 ^ 30) (KT : ∀ g c2 s2, c2 ≤ cells + 8 → s2 ≤ slots + 48 → GS (B + 3000) g → WL p l e s m b below meth c D ca ad base L xs c2 s2 1913 (LcB t) [] g) : WL p l e s m b below meth c D ca ad base L xs cells slots 1615 (LcB t) [] h := by
  obtain ⟨r, w, S, K, q, T, R, C, I⟩ := G
  refine wl_s rfl ?_
  refine wl_xc rfl rfl ⟨Nat.le_of_ble_eq_true rfl, Nat.le_of_ble_eq_true rfl⟩ (by decide) (wm_fr cl_clo (p_op_errorPosition 19 C) (by decide) rfl) (fun rv9 h9 p9 => ?_)
  obtain ⟨⟨rfl, C3⟩, F3⟩ := p9
  have R3 := R.fr F3
  refine wl_s rfl ?_
  refine wl_xc rfl rfl ⟨Nat.le_of_ble_eq_true rfl, Nat.le_of_ble_eq_true rfl⟩ (by decide) (g_errorPosition R3) (fun rv9 h9 p9 => ?_)
  obtain ⟨rfl, R4, F4⟩ := p9
  have C4 := C3.fr F4
  refine wl_b rfl rfl (fun _ => ?_) (fun q => absurd rfl q)
  exact wl_sub (sub6 rfl rfl rfl rfl rfl rfl) (KT _ _ _ (Nat.le_add_right _ _) (Nat.le_add_right _ _) ⟨_, _, _, _, _, _, R4, C4, I.le (by omega) (by omega)⟩)
theorem c_refusal (G : GS B h) (hB : B + 6000 < 2 ^ 30) (hc : cells + 8 ≤ 603072) (hs : slots + 48 ≤ 7227498) (i1 : vp_in (t + 1) L) (KT : ∀ g c2 s2, c2 ≤ cells + 8 → s2 ≤ slots + 48 → GS (B + 3000) g → WL p l e s m b below meth c D ca ad base L xs c2 s2 1913 (LcB t) [] g) : WL p l e s m b below meth c D ca ad base L xs cells slots 1628 (LcB t) [] h := by
  obtain ⟨r, w, S, K, q, T, R, C, I⟩ := G
  by_cases z : xs (t + 1).toNatClampNeg = 0
  · iterate 5 refine wl_s rfl ?_
    refine wl_ld rfl i1 ?_
    refine wl_b rfl rfl (fun _ => ?_) (fun q => absurd z q)
    iterate 2 refine wl_s rfl ?_
    refine wl_7 (n := 3) (d := 20) (mi := mL_refusal) (na := 3) rfl (by decide +kernel) rfl (Nat.le_of_ble_eq_true rfl) (by decide) ⟨by omega, by omega⟩ (l_refusal C R I (by omega) _) (fun k9 h9 p9 => ?_)
    obtain ⟨rfl, R3, C3, y3⟩ := p9
    iterate 6 refine wl_s rfl ?_
    refine wl_ld rfl i1 ?_
    refine wl_b rfl rfl (fun _ => ?_) (fun q => absurd z q)
    refine wl_s rfl ?_
    refine wl_xc rfl rfl ⟨Nat.le_of_ble_eq_true rfl, Nat.le_of_ble_eq_true rfl⟩ (by decide) (g_refusal R3 _) (fun rv9 h9 p9 => ?_)
    obtain ⟨⟨x9, rfl, v9⟩, R4, t4, F4⟩ := p9
    have C4 := C3.fr F4
    iterate 2 refine wl_s rfl ?_
    refine wl_xc rfl rfl ⟨Nat.le_of_ble_eq_true rfl, Nat.le_of_ble_eq_true rfl⟩ (by decide) ((f_thrown 0 _).wm) (fun rv9 h9 p9 => ?_)
    obtain ⟨rfl, rfl⟩ := p9
    rw [t4]
    refine wl_s rfl ?_
    refine wl_b rfl rfl (fun _ => ?_) (fun q => absurd rfl q)
    refine wl_s rfl ?_
    refine wl_b rfl rfl (fun c1682 => ?_) (fun c1682 => ?_)
    · refine wl_g rfl rfl ?_
      exact wl_sub (sub6 rfl rfl rfl rfl rfl rfl) (KT _ _ _ (Nat.le_refl _) (Nat.le_refl _) ⟨_, _, _, _, _, _, R4, C4, I.le (by omega) (by omega)⟩)
    · iterate 2 refine wl_s rfl ?_
      refine wl_ll rfl rfl (vi (k := 0)) ?_
      iterate 3 refine wl_s rfl ?_
      refine wl_b rfl rfl (fun _ => ?_) (fun q => absurd (lgc (by rw [v9 (Decidable.not_not.mp c1682)]; exact (congrFun (congrFun (congrArg Prod.fst F4.2) 212) 0).trans (y3 (Decidable.not_not.mp c1682)))) q)
      refine wl_g rfl rfl ?_
      exact wl_sub (sub6 rfl rfl rfl rfl rfl rfl) (KT _ _ _ (Nat.le_refl _) (Nat.le_refl _) ⟨_, _, _, _, _, _, R4, C4, I.le (by omega) (by omega)⟩)
  · iterate 5 refine wl_s rfl ?_
    refine wl_ld rfl i1 ?_
    refine wl_b rfl rfl (fun q => absurd q z) (fun _ => ?_)
    refine wl_s rfl ?_
    refine wl_g rfl rfl ?_
    refine wl_s rfl ?_
    refine wl_7 (n := 3) (d := 20) (mi := mL_refusal) (na := 3) rfl (by decide +kernel) rfl (Nat.le_of_ble_eq_true rfl) (by decide) ⟨by omega, by omega⟩ (l_refusal C R I (by omega) _) (fun k9 h9 p9 => ?_)
    obtain ⟨rfl, R3, C3, y3⟩ := p9
    iterate 6 refine wl_s rfl ?_
    refine wl_ld rfl i1 ?_
    refine wl_b rfl rfl (fun q => absurd q z) (fun _ => ?_)
    refine wl_s rfl ?_
    refine wl_g rfl rfl ?_
    refine wl_xc rfl rfl ⟨Nat.le_of_ble_eq_true rfl, Nat.le_of_ble_eq_true rfl⟩ (by decide) (g_refusal R3 _) (fun rv9 h9 p9 => ?_)
    obtain ⟨⟨x9, rfl, v9⟩, R4, t4, F4⟩ := p9
    have C4 := C3.fr F4
    iterate 2 refine wl_s rfl ?_
    refine wl_xc rfl rfl ⟨Nat.le_of_ble_eq_true rfl, Nat.le_of_ble_eq_true rfl⟩ (by decide) ((f_thrown 0 _).wm) (fun rv9 h9 p9 => ?_)
    obtain ⟨rfl, rfl⟩ := p9
    rw [t4]
    refine wl_s rfl ?_
    refine wl_b rfl rfl (fun _ => ?_) (fun q => absurd rfl q)
    refine wl_s rfl ?_
    refine wl_b rfl rfl (fun c1682 => ?_) (fun c1682 => ?_)
    · refine wl_g rfl rfl ?_
      exact wl_sub (sub6 rfl rfl rfl rfl rfl rfl) (KT _ _ _ (Nat.le_refl _) (Nat.le_refl _) ⟨_, _, _, _, _, _, R4, C4, I.le (by omega) (by omega)⟩)
    · iterate 2 refine wl_s rfl ?_
      refine wl_ll rfl rfl (vi (k := 0)) ?_
      iterate 3 refine wl_s rfl ?_
      refine wl_b rfl rfl (fun _ => ?_) (fun q => absurd (lgc (by rw [v9 (Decidable.not_not.mp c1682)]; exact (congrFun (congrFun (congrArg Prod.fst F4.2) 212) 0).trans (y3 (Decidable.not_not.mp c1682)))) q)
      refine wl_g rfl rfl ?_
      exact wl_sub (sub6 rfl rfl rfl rfl rfl rfl) (KT _ _ _ (Nat.le_refl _) (Nat.le_refl _) ⟨_, _, _, _, _, _, R4, C4, I.le (by omega) (by omega)⟩)
theorem c_account (G : GS B h) (hB : B + 6000 < 2 ^ 30) (hc : cells + 8 ≤ 603072) (hs : slots + 48 ≤ 7227498) (i1 : vp_in (t + 1) L) (KT : ∀ g c2 s2, c2 ≤ cells + 8 → s2 ≤ slots + 48 → GS (B + 3000) g → WL p l e s m b below meth c D ca ad base L xs c2 s2 1913 (LcB t) [] g) : WL p l e s m b below meth c D ca ad base L xs cells slots 1700 (LcB t) [] h := by
  obtain ⟨r, w, S, K, q, T, R, C, I⟩ := G
  iterate 5 refine wl_s rfl ?_
  refine wl_ld rfl i1 ?_
  refine wl_s rfl ?_
  refine wl_7 (n := 3) (d := 20) (mi := mL_account) (na := 3) rfl (by decide +kernel) rfl (Nat.le_of_ble_eq_true rfl) (by decide) ⟨by omega, by omega⟩ (l_account C R I (by omega) _) (fun k9 h9 p9 => ?_)
  obtain ⟨rfl, R3, C3, y3⟩ := p9
  iterate 6 refine wl_s rfl ?_
  refine wl_ld rfl i1 ?_
  refine wl_xc rfl rfl ⟨Nat.le_of_ble_eq_true rfl, Nat.le_of_ble_eq_true rfl⟩ (by decide) (g_account R3 I (by omega) _) (fun rv9 h9 p9 => ?_)
  obtain ⟨⟨x9, rfl, v9⟩, R4, t4, F4⟩ := p9
  have C4 := C3.fr F4
  iterate 2 refine wl_s rfl ?_
  refine wl_xc rfl rfl ⟨Nat.le_of_ble_eq_true rfl, Nat.le_of_ble_eq_true rfl⟩ (by decide) ((f_thrown 0 _).wm) (fun rv9 h9 p9 => ?_)
  obtain ⟨rfl, rfl⟩ := p9
  rw [t4]
  refine wl_s rfl ?_
  refine wl_b rfl rfl (fun _ => ?_) (fun q => absurd rfl q)
  refine wl_s rfl ?_
  refine wl_b rfl rfl (fun c1738 => ?_) (fun c1738 => ?_)
  · refine wl_g rfl rfl ?_
    exact wl_sub (sub6 rfl rfl rfl rfl rfl rfl) (KT _ _ _ (Nat.le_refl _) (Nat.le_refl _) ⟨_, _, _, _, _, _, R4, C4, I.le (by omega) (by omega)⟩)
  · iterate 2 refine wl_s rfl ?_
    refine wl_ll rfl rfl (vi (k := 0)) ?_
    iterate 3 refine wl_s rfl ?_
    refine wl_b rfl rfl (fun _ => ?_) (fun q => absurd (lgc (by rw [v9 (Decidable.not_not.mp c1738)]; exact (congrFun (congrFun (congrArg Prod.fst F4.2) 212) 0).trans (y3 (Decidable.not_not.mp c1738)))) q)
    refine wl_g rfl rfl ?_
    exact wl_sub (sub6 rfl rfl rfl rfl rfl rfl) (KT _ _ _ (Nat.le_refl _) (Nat.le_refl _) ⟨_, _, _, _, _, _, R4, C4, I.le (by omega) (by omega)⟩)
theorem c_isWell (G : GS B h) (hB : B + 6000 < 2 ^ 30) (KT : ∀ g c2 s2, c2 ≤ cells + 8 → s2 ≤ slots + 48 → GS (B + 3000) g → WL p l e s m b below meth c D ca ad base L xs c2 s2 1913 (LcB t) [] g) : WL p l e s m b below meth c D ca ad base L xs cells slots 1756 (LcB t) [] h := by
  obtain ⟨r, w, S, K, q, T, R, C, I⟩ := G
  refine wl_s rfl ?_
  refine wl_xc rfl rfl ⟨Nat.le_of_ble_eq_true rfl, Nat.le_of_ble_eq_true rfl⟩ (by decide) (wm_fr cl_clo (p_op_isWell 5 C I.1) (by decide) rfl) (fun rv9 h9 p9 => ?_)
  obtain ⟨⟨rfl, C3⟩, F3⟩ := p9
  have R3 := R.fr F3
  refine wl_s rfl ?_
  refine wl_xc rfl rfl ⟨Nat.le_of_ble_eq_true rfl, Nat.le_of_ble_eq_true rfl⟩ (by decide) (g_isWell R3 I) (fun rv9 h9 p9 => ?_)
  obtain ⟨rfl, R4, F4⟩ := p9
  have C4 := C3.fr F4
  refine wl_b rfl rfl (fun _ => ?_) (fun q => absurd rfl q)
  exact wl_sub (sub6 rfl rfl rfl rfl rfl rfl) (KT _ _ _ (Nat.le_add_right _ _) (Nat.le_add_right _ _) ⟨_, _, _, _, _, _, R4, C4, I.le (by omega) (by omega)⟩)
theorem c_meanBits (G : GS B h) (hB : B + 6000 < 2 ^ 30) (hc : cells + 8 ≤ 603072) (hs : slots + 48 ≤ 7227498) (KT : ∀ g c2 s2, c2 ≤ cells + 8 → s2 ≤ slots + 48 → GS (B + 3000) g → WL p l e s m b below meth c D ca ad base L xs c2 s2 1913 (LcB t) [] g) : WL p l e s m b below meth c D ca ad base L xs cells slots 1769 (LcB t) [] h := by
  obtain ⟨r, w, S, K, q, T, R, C, I⟩ := G
  iterate 2 refine wl_s rfl ?_
  refine wl_7 (n := 3) (d := 20) (mi := mL_meanBits) (na := 2) rfl (by decide +kernel) rfl (Nat.le_of_ble_eq_true rfl) (by decide) ⟨by omega, by omega⟩ (l_meanBits C R I (by omega)) (fun k9 h9 p9 => ?_)
  obtain ⟨rfl, R3, C3, y3⟩ := p9
  iterate 2 refine wl_s rfl ?_
  refine wl_xc rfl rfl ⟨Nat.le_of_ble_eq_true rfl, Nat.le_of_ble_eq_true rfl⟩ (by decide) (g_meanBits R3 I) (fun rv9 h9 p9 => ?_)
  obtain ⟨⟨x9, rfl, v9⟩, R4, t4, F4⟩ := p9
  have C4 := C3.fr F4
  iterate 2 refine wl_s rfl ?_
  refine wl_xc rfl rfl ⟨Nat.le_of_ble_eq_true rfl, Nat.le_of_ble_eq_true rfl⟩ (by decide) ((f_thrown 0 _).wm) (fun rv9 h9 p9 => ?_)
  obtain ⟨rfl, rfl⟩ := p9
  rw [t4]
  refine wl_s rfl ?_
  refine wl_b rfl rfl (fun _ => ?_) (fun q => absurd rfl q)
  refine wl_s rfl ?_
  refine wl_b rfl rfl (fun c1795 => ?_) (fun c1795 => ?_)
  · refine wl_g rfl rfl ?_
    exact wl_sub (sub6 rfl rfl rfl rfl rfl rfl) (KT _ _ _ (Nat.le_refl _) (Nat.le_refl _) ⟨_, _, _, _, _, _, R4, C4, I.le (by omega) (by omega)⟩)
  · iterate 2 refine wl_s rfl ?_
    refine wl_ll rfl rfl (vi (k := 0)) ?_
    iterate 2 refine wl_s rfl ?_
    refine wl_b rfl rfl (fun _ => ?_) (fun q => absurd (lgc (by rw [v9 (Decidable.not_not.mp c1795)]; exact (congrFun (congrFun (congrArg Prod.fst F4.2) 212) 0).trans (y3 (Decidable.not_not.mp c1795)))) q)
    refine wl_g rfl rfl ?_
    exact wl_sub (sub6 rfl rfl rfl rfl rfl rfl) (KT _ _ _ (Nat.le_refl _) (Nat.le_refl _) ⟨_, _, _, _, _, _, R4, C4, I.le (by omega) (by omega)⟩)
theorem c_undo (G : GS B h) (hB : B + 6000 < 2 ^ 30) (hc : cells + 8 ≤ 603072) (hs : slots + 48 ≤ 7227498) (KT : ∀ g c2 s2, c2 ≤ cells + 8 → s2 ≤ slots + 48 → GS (B + 3000) g → WL p l e s m b below meth c D ca ad base L xs c2 s2 1913 (LcB t) [] g) : WL p l e s m b below meth c D ca ad base L xs cells slots 1812 (LcB t) [] h := by
  obtain ⟨r, w, S, K, q, T, R, C, I⟩ := G
  iterate 2 refine wl_s rfl ?_
  refine wl_7 (n := 3) (d := 20) (mi := mL_undo) (na := 2) rfl (by decide +kernel) rfl (Nat.le_of_ble_eq_true rfl) (by decide) ⟨by omega, by omega⟩ (l_undo C R I (by omega)) (fun k9 h9 p9 => ?_)
  obtain ⟨rfl, R3, C3, y3⟩ := p9
  iterate 2 refine wl_s rfl ?_
  refine wl_xc rfl rfl ⟨Nat.le_of_ble_eq_true rfl, Nat.le_of_ble_eq_true rfl⟩ (by decide) (g_undo R3 I) (fun rv9 h9 p9 => ?_)
  obtain ⟨⟨x9, rfl, v9⟩, R4, t4, F4⟩ := p9
  have C4 := C3.fr F4
  iterate 2 refine wl_s rfl ?_
  refine wl_xc rfl rfl ⟨Nat.le_of_ble_eq_true rfl, Nat.le_of_ble_eq_true rfl⟩ (by decide) ((f_thrown 0 _).wm) (fun rv9 h9 p9 => ?_)
  obtain ⟨rfl, rfl⟩ := p9
  rw [t4]
  refine wl_s rfl ?_
  refine wl_b rfl rfl (fun _ => ?_) (fun q => absurd rfl q)
  refine wl_s rfl ?_
  refine wl_b rfl rfl (fun c1838 => ?_) (fun c1838 => ?_)
  · refine wl_g rfl rfl ?_
    exact wl_sub (sub6 rfl rfl rfl rfl rfl rfl) (KT _ _ _ (Nat.le_refl _) (Nat.le_refl _) ⟨_, _, _, _, _, _, R4, C4, I.udo.le (by omega) (by omega)⟩)
  · iterate 2 refine wl_s rfl ?_
    refine wl_ll rfl rfl (vi (k := 0)) ?_
    iterate 3 refine wl_s rfl ?_
    refine wl_b rfl rfl (fun _ => ?_) (fun q => absurd (lgc (by rw [v9 (Decidable.not_not.mp c1838)]; exact (congrFun (congrFun (congrArg Prod.fst F4.2) 212) 0).trans (y3 (Decidable.not_not.mp c1838)))) q)
    refine wl_g rfl rfl ?_
    exact wl_sub (sub6 rfl rfl rfl rfl rfl rfl) (KT _ _ _ (Nat.le_refl _) (Nat.le_refl _) ⟨_, _, _, _, _, _, R4, C4, I.udo.le (by omega) (by omega)⟩)
theorem c_save (G : GS B h) (hB : B + 6000 < 2 ^ 30) (KT : ∀ g c2 s2, c2 ≤ cells + 8 → s2 ≤ slots + 48 → GS (B + 3000) g → WL p l e s m b below meth c D ca ad base L xs c2 s2 1913 (LcB t) [] g) : WL p l e s m b below meth c D ca ad base L xs cells slots 1856 (LcB t) [] h := by
  obtain ⟨r, w, S, K, q, T, R, C, I⟩ := G
  refine wl_s rfl ?_
  refine wl_xc rfl rfl ⟨Nat.le_of_ble_eq_true rfl, Nat.le_of_ble_eq_true rfl⟩ (by decide) (wm_fr cl_clo (p_op_save 18 C I.1) (by decide) rfl) (fun rv9 h9 p9 => ?_)
  obtain ⟨⟨rfl, C3⟩, F3⟩ := p9
  have R3 := R.fr F3
  refine wl_s rfl ?_
  refine wl_xc rfl rfl ⟨Nat.le_of_ble_eq_true rfl, Nat.le_of_ble_eq_true rfl⟩ (by decide) (g_save R3) (fun rv9 h9 p9 => ?_)
  obtain ⟨rfl, R4, F4⟩ := p9
  have C4 := C3.fr F4
  refine wl_b rfl rfl (fun _ => ?_) (fun q => absurd rfl q)
  exact wl_sub (sub6 rfl rfl rfl rfl rfl rfl) (KT _ _ _ (Nat.le_add_right _ _) (Nat.le_add_right _ _) ⟨_, _, _, _, _, _, R4, C4, I.sv.le (by omega) (by omega)⟩)
theorem c_restore (G : GS B h) (hB : B + 6000 < 2 ^ 30) (hc : cells + 8 ≤ 603072) (hs : slots + 48 ≤ 7227498) (KT : ∀ g c2 s2, c2 ≤ cells + 8 → s2 ≤ slots + 48 → GS (B + 3000) g → WL p l e s m b below meth c D ca ad base L xs c2 s2 1913 (LcB t) [] g) : WL p l e s m b below meth c D ca ad base L xs cells slots 1869 (LcB t) [] h := by
  obtain ⟨r, w, S, K, q, T, R, C, I⟩ := G
  iterate 2 refine wl_s rfl ?_
  refine wl_7 (n := 3) (d := 20) (mi := mL_restore) (na := 2) rfl (by decide +kernel) rfl (Nat.le_of_ble_eq_true rfl) (by decide) ⟨by omega, by omega⟩ (l_restore C R I (by omega)) (fun k9 h9 p9 => ?_)
  obtain ⟨rfl, R3, C3, y3⟩ := p9
  iterate 2 refine wl_s rfl ?_
  refine wl_xc rfl rfl ⟨Nat.le_of_ble_eq_true rfl, Nat.le_of_ble_eq_true rfl⟩ (by decide) (g_restore R3 I) (fun rv9 h9 p9 => ?_)
  obtain ⟨⟨x9, rfl, v9⟩, R4, t4, F4⟩ := p9
  have C4 := C3.fr F4
  iterate 2 refine wl_s rfl ?_
  refine wl_xc rfl rfl ⟨Nat.le_of_ble_eq_true rfl, Nat.le_of_ble_eq_true rfl⟩ (by decide) ((f_thrown 0 _).wm) (fun rv9 h9 p9 => ?_)
  obtain ⟨rfl, rfl⟩ := p9
  rw [t4]
  refine wl_s rfl ?_
  refine wl_b rfl rfl (fun _ => ?_) (fun q => absurd rfl q)
  refine wl_s rfl ?_
  refine wl_b rfl rfl (fun c1895 => ?_) (fun c1895 => ?_)
  · refine wl_g rfl rfl ?_
    exact wl_sub (sub6 rfl rfl rfl rfl rfl rfl) (KT _ _ _ (Nat.le_refl _) (Nat.le_refl _) ⟨_, _, _, _, _, _, R4, C4, I.rst.le (by omega) (by omega)⟩)
  · iterate 2 refine wl_s rfl ?_
    refine wl_ll rfl rfl (vi (k := 0)) ?_
    iterate 3 refine wl_s rfl ?_
    refine wl_b rfl rfl (fun _ => ?_) (fun q => absurd (lgc (by rw [v9 (Decidable.not_not.mp c1895)]; exact (congrFun (congrFun (congrArg Prod.fst F4.2) 212) 0).trans (y3 (Decidable.not_not.mp c1895)))) q)
    refine wl_g rfl rfl ?_
    exact wl_sub (sub6 rfl rfl rfl rfl rfl rfl) (KT _ _ _ (Nat.le_refl _) (Nat.le_refl _) ⟨_, _, _, _, _, _, R4, C4, I.rst.le (by omega) (by omega)⟩)
end
end
