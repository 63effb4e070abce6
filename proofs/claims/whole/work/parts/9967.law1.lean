-- needs: 9966
noncomputable section
theorem EvM.wm {d m : Nat} {a : List Value} {h h' : AH} {v : Option Value} (E : EvM d m a h v h') : WM d m a h (fun v2 h2 => v2 = v ∧ h2 = h') := ⟨v, h', E, rfl, rfl⟩
theorem lgc {x y : Int64} (h : x = y) : lg_cmp x y = 0 := by
  subst h
  unfold lg_cmp
  rw [if_neg (Int64.lt_irrefl : ¬ x < x), if_pos rfl]
theorem u_nI (y : UInt32) : y.toInt32 = nI y.toNat := by
  apply Int32.toBitVec_inj.mp
  show y.toBitVec = BitVec.ofNat 32 y.toNat
  exact BitVec.eq_of_toNat_eq (by show y.toNat = (BitVec.ofNat 32 y.toNat).toNat; rw [BitVec.toNat_ofNat, Nat.mod_eq_of_lt y.toNat_lt])
theorem i2c_k {x : Int32} : kOk 2 (x.toUInt32 % 65536).toInt32 = true := by
  have e : (x.toUInt32 % 65536).toNat < 65536 := by
    rw [UInt32.toNat_mod]
    exact Nat.mod_lt _ (by decide)
  rw [u_nI]
  exact decide_eq_true ⟨Int32.not_lt.mpr (nI_pos' (by omega)), nI_le (b := 65535) (by omega) (by decide)⟩
/-- the two sides stand alike -/
def GS (B : Nat) (h : AH) : Prop := ∃ (r : Nat → Int32) (w : Nat → UInt32) (S : Sv) (K : Hs) (q : Int32 × Int32) (T : Tx), RS h r w S K q T ∧ CS h r w S K q T ∧ IS B r w S K
theorem IS.pk {B B' : Nat} {r r' : Nat → Int32} {w w' : Nat → UInt32} {S : Sv} {K : Hs} {P : Prop} {i : Decidable P} (I : IS B r w S K) (hK : K.1 ≤ 8) (hB : B ≤ B') (h2 : B' < 2 ^ 30) (hi : Inv B' r' w') : IS B' r' w' S (if P then pushK K r w else K) := by
  have I2 := I.le hB h2
  split
  · exact I2.push hK hi
  · exact I2.to hi
abbrev LcB (t : Int32) : LC := [(0, .ref 214), (1, .ref 31), (2, .ref 0), (3, .ref 212), (4, .ref 213), (5, .int t)]
section
variable {p : Program} {l : Launch} {e : Env} {s : State} {m : MethodId} {b : Nat} {below : List Frame} {meth : Method} {c : Code} {D : va_G} {ca : Nat → ClassId} {ad : Nat → Nat} {base L : Nat} {xs : Nat → Int32} {cells slots : Nat} {h : AH} {t : Int32} {B : Nat}
theorem c_heat (G : GS B h) (hB : B + 6000 < 2 ^ 30) (hc : cells + 8 ≤ 603072) (hs : slots + 48 ≤ 7227498) (i1 : vp_in (t + 1) L) (i2 : vp_in (t + 2) L) (KT : ∀ g c2 s2, c2 ≤ cells + 8 → s2 ≤ slots + 48 → GS (B + 3000) g → WL p l e s m b below meth c D ca ad base L xs c2 s2 1913 (LcB t) [] g) : WL p l e s m b below meth c D ca ad base L xs cells slots 184 (LcB t) [] h := by
  obtain ⟨r, w, S, K, q, T, R, C, I⟩ := G
  iterate 5 refine wl_s rfl ?_
  refine wl_ld rfl i1 ?_
  iterate 4 refine wl_s rfl ?_
  refine wl_ld rfl i2 ?_
  refine wl_s rfl ?_
  refine wl_7 (n := 3) (d := 20) (mi := mL_heat) (na := 4) rfl (by decide +kernel) rfl (Nat.le_of_ble_eq_true rfl) (by decide) ⟨by omega, by omega⟩ (l_heat C R I (by omega) _ _) (fun k9 h9 p9 => ?_)
  obtain ⟨rfl, R3, C3, y3⟩ := p9
  iterate 6 refine wl_s rfl ?_
  refine wl_ld rfl i1 ?_
  iterate 4 refine wl_s rfl ?_
  refine wl_ld rfl i2 ?_
  refine wl_xc rfl rfl ⟨Nat.le_of_ble_eq_true rfl, Nat.le_of_ble_eq_true rfl⟩ (by decide) (g_heat R3 I (by omega) _ _) (fun rv9 h9 p9 => ?_)
  obtain ⟨⟨x9, rfl, v9⟩, R4, t4, F4⟩ := p9
  have C4 := C3.fr F4
  iterate 2 refine wl_s rfl ?_
  refine wl_xc rfl rfl ⟨Nat.le_of_ble_eq_true rfl, Nat.le_of_ble_eq_true rfl⟩ (by decide) ((f_thrown 0 _).wm) (fun rv9 h9 p9 => ?_)
  obtain ⟨rfl, rfl⟩ := p9
  rw [t4]
  refine wl_s rfl ?_
  refine wl_b rfl rfl (fun _ => ?_) (fun q => absurd rfl q)
  refine wl_s rfl ?_
  refine wl_b rfl rfl (fun c234 => ?_) (fun c234 => ?_)
  · refine wl_g rfl rfl ?_
    exact wl_sub (sub6 rfl rfl rfl rfl rfl rfl) (KT _ _ _ (Nat.le_refl _) (Nat.le_refl _) ⟨_, _, _, _, _, _, R4, C4, I.pk R.2.2.1.1 (by omega) (by omega) ((I.1.heat _ _).le (by omega) (by omega))⟩)
  · iterate 2 refine wl_s rfl ?_
    refine wl_ll rfl rfl (vi (k := 0)) ?_
    iterate 3 refine wl_s rfl ?_
    refine wl_b rfl rfl (fun _ => ?_) (fun q => absurd (lgc (by rw [v9 (Decidable.not_not.mp c234)]; exact (congrFun (congrFun (congrArg Prod.fst F4.2) 212) 0).trans (y3 (Decidable.not_not.mp c234)))) q)
    refine wl_g rfl rfl ?_
    exact wl_sub (sub6 rfl rfl rfl rfl rfl rfl) (KT _ _ _ (Nat.le_refl _) (Nat.le_refl _) ⟨_, _, _, _, _, _, R4, C4, I.pk R.2.2.1.1 (by omega) (by omega) ((I.1.heat _ _).le (by omega) (by omega))⟩)
end
end
