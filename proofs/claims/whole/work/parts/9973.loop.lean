-- needs: 9972
noncomputable section
variable {p : Program} {l : Launch} {e : Env} {s : State} {m : MethodId} {b : Nat} {below : List Frame} {meth : Method} {c : Code} {D : va_G} {ca : Nat → ClassId} {ad : Nat → Nat} {base L : Nat} {xs : Nat → Int32} {cells slots : Nat} {h : AH} {t : Int32} {B : Nat} {sa va : Nat}
/-- the choice of what to ask -/
theorem law_case (Zs : ZS sa va (fun a : Nat => base ≤ a) s s.heap) (Zr : vk_R "SawnIceModel" 214 "tmbf" sa s) (h215 : ad 215 = sa) (G : GS B h) (hB : B + 6000 < 2 ^ 30) (hc : cells + 8 ≤ 603072) (hs : slots + 48 ≤ 7227498) (i1 : vp_in (t + 1) L) (i2 : vp_in (t + 2) L) (i3 : vp_in (t + 3) L) {j : Nat} (hj : j ≤ 31) (KT : ∀ g c2 s2, c2 ≤ cells + 8 → s2 ≤ slots + 48 → GS (B + 3000) g → WL p l e s m b below meth c D ca ad base L xs c2 s2 1913 (LcB t) [] g) : WL p l e s m b below meth c D ca ad base L xs cells slots 44 (LcB t) [.int (nI j)] h := by
  rcases (show j = 0 ∨ j = 1 ∨ j = 2 ∨ j = 3 ∨ j = 4 ∨ j = 5 ∨ j = 6 ∨ j = 7 ∨ j = 8 ∨ j = 9 ∨ j = 10 ∨ j = 11 ∨ j = 12 ∨ j = 13 ∨ j = 14 ∨ j = 15 ∨ j = 16 ∨ j = 17 ∨ j = 18 ∨ j = 19 ∨ j = 20 ∨ j = 21 ∨ j = 22 ∨ j = 23 ∨ j = 24 ∨ j = 25 ∨ j = 26 ∨ j = 27 ∨ j = 28 ∨ j = 29 ∨ j = 30 ∨ j = 31 by omega) with rfl | rfl | rfl | rfl | rfl | rfl | rfl | rfl | rfl | rfl | rfl | rfl | rfl | rfl | rfl | rfl | rfl | rfl | rfl | rfl | rfl | rfl | rfl | rfl | rfl | rfl | rfl | rfl | rfl | rfl | rfl | rfl
  · refine wl_sw rfl (tgt := 184) rfl ?_
    exact c_heat G hB hc hs i1 i2 KT
  · refine wl_sw rfl (tgt := 252) rfl ?_
    exact c_visit G hB hc hs i1 KT
  · refine wl_sw rfl (tgt := 308) rfl ?_
    exact c_saw G hB hc hs i1 i2 i3 KT
  · refine wl_sw rfl (tgt := 388) rfl ?_
    exact c_lay G hB hc hs i1 i2 i3 KT
  · refine wl_sw rfl (tgt := 468) rfl ?_
    exact c_take G hB hc hs i1 KT
  · refine wl_sw rfl (tgt := 524) rfl ?_
    exact c_pass G hB hc hs i1 KT
  · refine wl_sw rfl (tgt := 580) rfl ?_
    exact c_blockOf G hB hc hs i1 i2 KT
  · refine wl_sw rfl (tgt := 648) rfl ?_
    exact c_mass G hB hc hs i1 KT
  · refine wl_sw rfl (tgt := 726) rfl ?_
    exact c_load G hB hc hs i1 i2 KT
  · refine wl_sw rfl (tgt := 810) rfl ?_
    exact c_loadAgain G hB hc hs i1 KT
  · refine wl_sw rfl (tgt := 866) rfl ?_
    exact c_at G hB hc hs i1 i2 KT
  · refine wl_sw rfl (tgt := 934) rfl ?_
    exact c_height G hB hc hs i1 KT
  · refine wl_sw rfl (tgt := 990) rfl ?_
    exact c_isShady G hB hc hs i1 i2 KT
  · refine wl_sw rfl (tgt := 1065) rfl ?_
    exact c_sign Zs Zr h215 G hB hc hs i1 KT
  · refine wl_sw rfl (tgt := 1121) rfl ?_
    exact c_rooms G hB hc hs i1 i2 KT
  · refine wl_sw rfl (tgt := 1189) rfl ?_
    exact c_inRack G hB hc hs i1 i2 KT
  · refine wl_sw rfl (tgt := 1257) rfl ?_
    exact c_worst G hB hc hs  KT
  · refine wl_sw rfl (tgt := 1301) rfl ?_
    exact c_goneIn G hB hc hs  KT
  · refine wl_sw rfl (tgt := 1345) rfl ?_
    exact c_massBits G hB hc hs i1 i2 KT
  · refine wl_sw rfl (tgt := 1413) rfl ?_
    exact c_safe G hB hc hs  KT
  · refine wl_sw rfl (tgt := 1457) rfl ?_
    exact c_left G hB hc hs i1 KT
  · refine wl_sw rfl (tgt := 1513) rfl ?_
    exact c_append G hB hc hs i1 KT
  · refine wl_sw rfl (tgt := 1571) rfl ?_
    exact c_read G hB hc hs  KT
  · refine wl_sw rfl (tgt := 1615) rfl ?_
    exact c_errorPosition G hB  KT
  · refine wl_sw rfl (tgt := 1628) rfl ?_
    exact c_refusal G hB hc hs i1 KT
  · refine wl_sw rfl (tgt := 1700) rfl ?_
    exact c_account G hB hc hs i1 KT
  · refine wl_sw rfl (tgt := 1756) rfl ?_
    exact c_isWell G hB  KT
  · refine wl_sw rfl (tgt := 1769) rfl ?_
    exact c_meanBits G hB hc hs  KT
  · refine wl_sw rfl (tgt := 1812) rfl ?_
    exact c_undo G hB hc hs  KT
  · refine wl_sw rfl (tgt := 1856) rfl ?_
    exact c_save G hB  KT
  · refine wl_sw rfl (tgt := 1869) rfl ?_
    exact c_restore G hB hc hs  KT
  · refine wl_sw rfl (tgt := 1913) rfl ?_
    exact KT _ _ _ (Nat.le_add_right _ _) (Nat.le_add_right _ _) (by obtain ⟨r, w, S, K, q, T, R, C, I⟩ := G; exact ⟨r, w, S, K, q, T, R, C, I.le (by omega) (by omega)⟩)
theorem wl_fin {lc : LC} (hr : meth.sig.returnType = ret) (hlk : meth.locks = false) : WL p l e s m b below meth c D ca ad base L xs cells slots 1920 lc [.int 1] h := by
  intro F hc9 hs9 H locs ls hP hS hl
  obtain ⟨hx, hb, -, -, -, -, -, -, hbs, -⟩ := F
  exact va_forget (fun q hq => by rw [← hbs]; exact hS.2.2 q hq) (W.widen hc9 hs9 (W.base (lw_ret (Drawn.sameBut.refl s.drawn lw_cs) hx hb hr hlk (by decide +kernel))))
theorem law_loop (Zs : ZS sa va (fun a : Nat => base ≤ a) s s.heap) (Zr : vk_R "SawnIceModel" 214 "tmbf" sa s) (h215 : ad 215 = sa) (hr : meth.sig.returnType = ret) (hlk : meth.locks = false) (hL : L ≤ 2048) {C0 S0 : Nat} (hC0 : C0 + 8 * 513 ≤ 603072) (hS0 : S0 + 48 * 513 ≤ 7227498) : ∀ (n i cells slots : Nat) (h : AH), i + n = 512 → cells ≤ C0 + 8 * i → slots ≤ S0 + 48 * i → GS (B + 3000 * i) h → B + 3000 * 600 < 2 ^ 30 → WL p l e s m b below meth c D ca ad base L xs cells slots 28 (LcB (nI (4 * i))) [] h := by
  have exitW : ∀ (i cells slots : Nat) (h : AH), i ≤ 512 → L < 4 * i + 4 → WL p l e s m b below meth c D ca ad base L xs cells slots 28 (LcB (nI (4 * i))) [] h := fun i cells slots h hi hL2 => by
    have cond : nI L - 4 < nI (4 * i) := by
      by_cases q : 4 ≤ L
      · rw [show (4 : Int32) = nI 4 from rfl, nI_sub q]
        exact nI_lt (by omega) (by omega)
      · rcases (show L = 0 ∨ L = 1 ∨ L = 2 ∨ L = 3 by omega) with e | e | e | e <;> rw [e] <;> exact Int32.lt_of_lt_of_le (by decide) (nI_pos' (by omega))
    have fin : WL p l e s m b below meth c D ca ad base L xs cells slots 1920 (LcB (nI (4 * i))) [.int 1] h := wl_fin hr hlk
    iterate 2 refine wl_s rfl ?_
    refine wl_ln rfl ?_
    iterate 2 refine wl_s rfl ?_
    refine wl_b rfl rfl (fun _ => ?_) (fun q => absurd cond q)
    refine wl_s rfl ?_
    exact fin
  intro n
  induction n with
  | zero =>
    intro i cells slots h hi h1 h2 G hB
    exact exitW i cells slots h (by omega) (by omega)
  | succ n ih =>
    intro i cells slots h hi h1 h2 G hB
    by_cases q : 4 * i + 4 ≤ L
    · have cond : ¬ nI L - 4 < nI (4 * i) := by
        rw [show (4 : Int32) = nI 4 from rfl, nI_sub (by omega)]
        exact nI_nlt (by omega) (by omega)
      have i0 : vp_in (nI (4 * i)) L := vp_in_nI (by omega) (by omega)
      have i1 : vp_in (nI (4 * i) + 1) L := by rw [nI_1]; exact vp_in_nI (by omega) (by omega)
      have i2 : vp_in (nI (4 * i) + 2) L := by rw [show (2 : Int32) = nI 2 from rfl, nI_add]; exact vp_in_nI (by omega) (by omega)
      have i3 : vp_in (nI (4 * i) + 3) L := by rw [show (3 : Int32) = nI 3 from rfl, nI_add]; exact vp_in_nI (by omega) (by omega)
      obtain ⟨j, hj, ej⟩ := pk_andE (xs (nI (4 * i)).toNatClampNeg) (m := 31) 5 (by decide)
      have ej : xs (nI (4 * i)).toNatClampNeg &&& 31 = nI j := ej
      have KT : ∀ g c2 s2, c2 ≤ cells + 8 → s2 ≤ slots + 48 → GS (B + 3000 * i + 3000) g → WL p l e s m b below meth c D ca ad base L xs c2 s2 1913 (LcB (nI (4 * i))) [] g := fun g c2 s2 hc2 hs2 G2 => by
        have IH := ih (i + 1) c2 s2 g (by omega) (by omega) (by omega) (by rw [show B + 3000 * (i + 1) = B + 3000 * i + 3000 by omega]; exact G2) hB
        have e4 : nI (4 * i) + 4 = nI (4 * (i + 1)) := by rw [show (4 : Int32) = nI 4 from rfl, nI_add]; exact congrArg nI (by omega)
        refine wl_s rfl ?_
        refine wl_g rfl rfl ?_
        rw [e4]
        exact wl_sub (sub6 rfl rfl rfl rfl rfl rfl) IH
      have Cs := law_case (c := c) (xs := xs) (ca := ca) (D := D) (l := l) (p := p) (e := e) (m := m) (b := b) (below := below) (meth := meth) (cells := cells) (slots := slots) Zs Zr h215 G (by omega) (by omega) (by omega) i1 i2 i3 (show j ≤ 31 by omega) KT
      iterate 2 refine wl_s rfl ?_
      refine wl_ln rfl ?_
      iterate 2 refine wl_s rfl ?_
      refine wl_b rfl rfl (fun q => absurd q cond) (fun _ => ?_)
      iterate 2 refine wl_s rfl ?_
      refine wl_ld rfl i0 ?_
      iterate 2 refine wl_s rfl ?_
      rw [ej]
      exact Cs
    · exact exitW i cells slots h (by omega) (by omega)
end
