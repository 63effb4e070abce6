noncomputable section
variable {p : Program} {l : Launch} {e : Env} {R : Room} {s : State} {m : MethodId} {args : Array Value} {below : List Frame} {meth : Method} {c : Code} {H H0 : Heap} {locs : List Loc} {cells slots : Nat} {Q : State → Prop} {ls : Array Slot} {D : va_G} {ca : Nat → ClassId} {ad : Nat → Nat} {base : Nat → Prop}
def wcell (ca : Nat → ClassId) (ad : Nat → Nat) (y : Lay) (f1 : Nat → Int32) (f2 : Nat → UInt32) (f3 : Nat → Int64) (f4 : Nat → UInt64) : va_E :=
  match y with
  | (0, ci, sl) => .inr (ci, (List.range sl.length).map (fun j => em ad (fv (sl.getD j 0) (f1 j))))
  | (4, n, _) => .inl (ca 4, n, .inr (.inr (.inl f2)))
  | (5, n, _) => .inl (ca 5, n, .inr (.inl f3))
  | (6, n, _) => .inl (ca 6, n, .inr (.inr (.inr (.inl f4))))
  | (7, n, ts) => .inl (ca 7, n, .inr (.inr (.inr (.inr (fun i => (ts[i]?).map ad)))))
  | (8, n, ts) => .inl (ca 8, n, .inr (.inr (.inr (.inr (fun i => (ts[i]?).map ad)))))
  | (9, n, ts) => .inl (ca 9, n, .inr (.inr (.inr (.inr (fun i => (ts[i]?).map ad)))))
  | (t, n, _) => .inl (ca t, n, .inl f1)
def wsOf (ca : Nat → ClassId) (ad : Nat → Nat) (h : AH) : va_W := (List.range 181).map (fun j => (ad (31 + j), wcell ca ad (layAt (31 + j)) (h.1 (31 + j)) (h.2.1 (31 + j)) (h.2.2.1 (31 + j)) (h.2.2.2 (31 + j))))
def tysOf (ca : Nat → ClassId) : List (ClassId × FieldType) := [(ca 1, .int), (ca 2, .char), (ca 4, .float), (ca 7, .object "SawnIce$Palace")]
def AdOk (base : Nat → Prop) (ad : Nat → Nat) : Prop := (∀ i j, (31 ≤ i ∧ i < 212) → (31 ≤ j ∧ j < 212) → ad i = ad j → i = j) ∧ ∀ k, (31 ≤ k ∧ k < 212) → base (ad k)
theorem ws_at {k : Nat} (hk : 31 ≤ k ∧ k < 212) (h : AH) : (wsOf ca ad h)[k - 31]? = some (ad k, wcell ca ad (layAt k) (h.1 k) (h.2.1 k) (h.2.2.1 k) (h.2.2.2 k)) := by
  unfold wsOf
  rw [List.getElem?_map, List.getElem?_range (show k - 31 < 181 by omega)]
  show some (ad (31 + (k - 31)), wcell ca ad (layAt (31 + (k - 31))) _ _ _ _) = _
  rw [show 31 + (k - 31) = k by omega]
theorem ws_len (h : AH) : (wsOf ca ad h).length = 181 := by simp [wsOf]
theorem ws_set {k : Nat} (hk : 31 ≤ k ∧ k < 212) {h h' : AH} {x : va_E} (hx : wcell ca ad (layAt k) (h'.1 k) (h'.2.1 k) (h'.2.2.1 k) (h'.2.2.2 k) = x)
    (ho : ∀ a, a ≠ k → h'.1 a = h.1 a ∧ h'.2.1 a = h.2.1 a ∧ h'.2.2.1 a = h.2.2.1 a ∧ h'.2.2.2 a = h.2.2.2 a) : (wsOf ca ad h).set (k - 31) (ad k, x) = wsOf ca ad h' := by
  apply List.ext_getElem?
  intro j
  rw [List.getElem?_set]
  by_cases hj : k - 31 = j
  · subst hj
    rw [if_pos rfl, if_pos (by rw [ws_len]; omega), ws_at hk, hx]
  · rw [if_neg hj]
    by_cases hjn : j < 181
    · have hj2 : 31 ≤ j + 31 ∧ j + 31 < 212 := ⟨by omega, by omega⟩
      obtain ⟨h1, h2, h3, h4⟩ := ho (j + 31) (fun q => hj (by omega))
      have e1 := ws_at (ca := ca) (ad := ad) hj2 h
      have e2 := ws_at (ca := ca) (ad := ad) hj2 h'
      rw [Nat.add_sub_cancel] at e1 e2
      rw [e1, e2, h1, h2, h3, h4]
    · rw [List.getElem?_eq_none (by rw [ws_len]; omega), List.getElem?_eq_none (by rw [ws_len]; omega)]
theorem ws_D (hA : AdOk base ad) (h : AH) : va_D (fun q : Nat => base q) (wsOf ca ad h) := by
  have hlt : ∀ (i : Nat) (q : Nat × va_E), (wsOf ca ad h)[i]? = some q → i < 181 ∧ q.1 = ad (i + 31) := by
    intro i q hq
    have hi : i < 181 := by
      have := (List.getElem?_eq_some_iff.mp hq).1
      rw [ws_len] at this
      exact this
    have e1 := ws_at (ca := ca) (ad := ad) (show 31 ≤ i + 31 ∧ i + 31 < 212 from ⟨by omega, by omega⟩) h
    rw [Nat.add_sub_cancel] at e1
    rw [e1] at hq
    exact ⟨hi, by rw [← Option.some.inj hq]⟩
  refine ⟨fun i j p q hp hq he => ?_, fun k q hq => ?_⟩
  · obtain ⟨h1, h2⟩ := hlt i p hp
    obtain ⟨h3, h4⟩ := hlt j q hq
    have := hA.1 (i + 31) (j + 31) ⟨by omega, by omega⟩ ⟨by omega, by omega⟩ (by rw [← h2, ← h4, he])
    omega
  · obtain ⟨h1, h2⟩ := hlt k q hq
    rw [h2]
    exact hA.2 (k + 31) ⟨by omega, by omega⟩
theorem lay_in {k t n : Nat} {sl : List Nat} (h : layAt k = (t, n, sl)) (ht : t < 99) : (31 ≤ k ∧ k < 212) ∧ wfY (t, n, sl) = true := by
  rcases layAt_wf k with q | q
  · rw [h] at q
    have : t = 99 := congrArg (fun y : Lay => y.1) q
    omega
  · rw [h] at q
    exact q
theorem vcls_at : ∀ ci, ci < 9 → vcls[ci]? = some (cC ci, cT ci, cN ci)
  | 0, _ => rfl | 1, _ => rfl | 2, _ => rfl | 3, _ => rfl | 4, _ => rfl | 5, _ => rfl | 6, _ => rfl | 7, _ => rfl | 8, _ => rfl
  | n + 9, h => by omega
theorem cty_ok : ∀ ci, ci < 9 → ∀ k, k < cN ci → parseFieldDescriptor (cT ci k).2.2.1 = some (cTy ci k)
  | 0, _ => tyX0_ok | 1, _ => tyX3_ok | 2, _ => tyX4_ok | 3, _ => tyX5_ok | 4, _ => tyX6_ok | 5, _ => tyX7_ok | 6, _ => tyX8_ok | 7, _ => tyX9_ok | 8, _ => tyX10_ok
  | n + 9, h => by omega
theorem cnm_ok : ∀ ci, ci < 9 → ∀ a, a < cN ci → ∀ b, b < cN ci → a ≠ b → (cT ci a).2.1 ≠ (cT ci b).2.1
  | 0, _ => nmX0 | 1, _ => nmX3 | 2, _ => nmX4 | 3, _ => nmX5 | 4, _ => nmX6 | 5, _ => nmX7 | 6, _ => nmX8 | 7, _ => nmX9 | 8, _ => nmX10
  | n + 9, h => by omega
set_option maxRecDepth 100000 in
theorem uw_0 : ∀ w ∈ u_ws (cC 0) (cT 0) (cN 0), w ∈ lw_tbl ∧ goodWord w = true := by decide +kernel
set_option maxRecDepth 100000 in
theorem uw_1 : ∀ w ∈ u_ws (cC 1) (cT 1) (cN 1), w ∈ lw_tbl ∧ goodWord w = true := by decide +kernel
set_option maxRecDepth 100000 in
theorem uw_2 : ∀ w ∈ u_ws (cC 2) (cT 2) (cN 2), w ∈ lw_tbl ∧ goodWord w = true := by decide +kernel
set_option maxRecDepth 100000 in
theorem uw_3 : ∀ w ∈ u_ws (cC 3) (cT 3) (cN 3), w ∈ lw_tbl ∧ goodWord w = true := by decide +kernel
set_option maxRecDepth 100000 in
theorem uw_4 : ∀ w ∈ u_ws (cC 4) (cT 4) (cN 4), w ∈ lw_tbl ∧ goodWord w = true := by decide +kernel
set_option maxRecDepth 100000 in
theorem uw_5 : ∀ w ∈ u_ws (cC 5) (cT 5) (cN 5), w ∈ lw_tbl ∧ goodWord w = true := by decide +kernel
set_option maxRecDepth 100000 in
theorem uw_6 : ∀ w ∈ u_ws (cC 6) (cT 6) (cN 6), w ∈ lw_tbl ∧ goodWord w = true := by decide +kernel
set_option maxRecDepth 100000 in
theorem uw_7 : ∀ w ∈ u_ws (cC 7) (cT 7) (cN 7), w ∈ lw_tbl ∧ goodWord w = true := by decide +kernel
set_option maxRecDepth 100000 in
theorem uw_8 : ∀ w ∈ u_ws (cC 8) (cT 8) (cN 8), w ∈ lw_tbl ∧ goodWord w = true := by decide +kernel
theorem uw_ok : ∀ ci, ci < 9 → ∀ w ∈ u_ws (cC ci) (cT ci) (cN ci), w ∈ wAll
  | 0, _ => fun w h => wA (uw_0 w h).1 (uw_0 w h).2
  | 1, _ => fun w h => wA (uw_1 w h).1 (uw_1 w h).2
  | 2, _ => fun w h => wA (uw_2 w h).1 (uw_2 w h).2
  | 3, _ => fun w h => wA (uw_3 w h).1 (uw_3 w h).2
  | 4, _ => fun w h => wA (uw_4 w h).1 (uw_4 w h).2
  | 5, _ => fun w h => wA (uw_5 w h).1 (uw_5 w h).2
  | 6, _ => fun w h => wA (uw_6 w h).1 (uw_6 w h).2
  | 7, _ => fun w h => wA (uw_7 w h).1 (uw_7 w h).2
  | 8, _ => fun w h => wA (uw_8 w h).1 (uw_8 w h).2
  | n + 9, h => by omega
theorem fP_word {o i r1 r2 : Nat} (h : fP.any (fun q => Nat.beq q.1 o && Nat.beq q.2.1 i && Nat.beq q.2.2.1 r1 && Nat.beq q.2.2.2.1 r2) = true) : Cond.fieldLink (oN o) i (cT r1 r2).1 (cT r1 r2).2.1 (cT r1 r2).2.2.1 ∈ lw_tbl := by
  obtain ⟨q, hq, hb⟩ := any2 h
  simp only [Bool.and_eq_true] at hb
  obtain ⟨⟨⟨h1, h2⟩, h3⟩, h4⟩ := hb
  have h5 := tb_in _ _ (fP_ok q hq)
  rw [Nat.eq_of_beq_eq_true h1, Nat.eq_of_beq_eq_true h2, Nat.eq_of_beq_eq_true h3, Nat.eq_of_beq_eq_true h4] at h5
  exact h5
theorem ck_fit {x : Int32} (h : kOk 2 x = true) : narrow .char (.int x) = .int x ∧ fits .char (.int x) = true := by
  have h : ¬ x < 0 ∧ x ≤ 65535 := of_decide_eq_true h
  obtain ⟨j, hj, rfl⟩ := nI_of2 (M := 65535) (n := 65535) rfl h.1 h.2
  exact pk_charN (by omega)
theorem zk_fit {x : Int32} (h : kOk 1 x = true) : narrow .boolean (.int x) = .int x ∧ fits .boolean (.int x) = true := by
  have h : (decide (x = 0) || decide (x = 1)) = true := h
  simp only [Bool.or_eq_true, decide_eq_true_eq] at h
  rcases h with rfl | rfl <;> exact ⟨rfl, rfl⟩
theorem k_fit {ty : FieldType} {sv : Nat} {x : Int32} (h : kOk sv x = true) (h0 : sv = 0 → ty = .int) (h1 : sv = 1 → ty = .boolean) (h2 : sv = 2 → ty = .char) : narrow ty (.int x) = .int x ∧ fits ty (.int x) = true := by
  match sv, h with
  | 0, _ => rw [h0 rfl]; exact ⟨rfl, rfl⟩
  | 1, h => rw [h1 rfl]; exact zk_fit h
  | 2, h => rw [h2 rfl]; exact ck_fit h
  | n + 3, h => exact absurd h (by simp [kOk])
theorem fv_int {sv : Nat} {x : Int32} (h : sv < 3) (ad : Nat → Nat) : em ad (fv sv x) = .int x := by
  match sv, h with
  | 0, _ => rfl
  | 1, _ => rfl
  | 2, _ => rfl
theorem fld_at {sl : List Nat} {j sv : Nat} (h : sl[j]? = some sv) (f : Nat → Value → Nat → Value) : True := trivial
theorem flds_get {sl : List Nat} {r sv : Nat} (h : sl[r]? = some sv) (g : Nat → Int32) : ((List.range sl.length).map (fun j => em ad (fv (sl.getD j 0) (g j))))[r]? = some (em ad (fv sv (g r))) := by
  have hr : r < sl.length := (List.getElem?_eq_some_iff.mp h).1
  rw [List.getElem?_map, List.getElem?_range hr]
  show some (em ad (fv (sl.getD r 0) (g r))) = _
  rw [List.getD_eq_getElem?_getD, h]
  rfl
theorem flds_set {sl : List Nat} {r sv : Nat} {x : Int32} (h : sl[r]? = some sv) (h3 : sv < 3) (g g' : Nat → Int32) (hg : g' r = x) (ho : ∀ j, j ≠ r → g' j = g j) : ((List.range sl.length).map (fun j => em ad (fv (sl.getD j 0) (g j)))).set r (.int x) = (List.range sl.length).map (fun j => em ad (fv (sl.getD j 0) (g' j))) := by
  have hr : r < sl.length := (List.getElem?_eq_some_iff.mp h).1
  apply List.ext_getElem?
  intro j
  rw [List.getElem?_set]
  by_cases hj : r = j
  · subst hj
    rw [if_pos rfl, if_pos (by simpa using hr), flds_get h g', hg, fv_int h3]
  · rw [if_neg hj]
    by_cases hjn : j < sl.length
    · rw [List.getElem?_map, List.getElem?_map, List.getElem?_range hjn]
      show some (em ad (fv (sl.getD j 0) (g j))) = some (em ad (fv (sl.getD j 0) (g' j)))
      rw [ho j (fun q => hj q.symm)]
    · rw [List.getElem?_eq_none (by simp; omega), List.getElem?_eq_none (by simp; omega)]
theorem xaald (hexec : p.tables.exec = Jvm.exec) {cc : ByteArray} {cl : List vw_C} {ws : va_W} {tys : List (ClassId × FieldType)} {a pc : Nat} {rest : List Value} (hb : c.code = cc) (hK : va_K D cl tys s) (hP : va_P D cl ws H) (q0 t0 : Nat) {cA : ClassId} {ty : FieldType} {n : Nat} {f : Nat → Option Nat} (ha : ws[q0]? = some (a, .inl (cA, n, .inr (.inr (.inr (.inr f)))))) (ht : tys[t0]? = some (cA, .array ty)) {i : Int32} (hin : vp_in i n) (hdg : decode cc pc = .ok (.aaload, 1))
    (kk : W p l e R s m args below meth c H locs cells slots Q (F0 m (pc + 1) ls (va_rf (f i.toNatClampNeg) :: rest))) : W p l e R s m args below meth c H locs cells slots Q (F0 m pc ls (.int i :: .ref a :: rest)) := by
  have hlt : i.toNatClampNeg < n := Nat.not_le.mp fun q => hin (Or.inr q)
  exact W.aald (v := va_rf (f i.toNatClampNeg)) (ty := .array ty) hexec hb (hP q0 _ ha) ((hK.2 t0 _ ht).1 n (fun j => va_rf (f j))) rfl (fun q => by cases q) (by show ¬ (i < 0 ∨ (arrV _ _ _).slots.size ≤ _); rw [arrV_size]; exact hin) (by show (arrV _ _ _).slots[_]? = _; rw [arrV_read _ _ hlt]) rfl rfl hdg kk

set_option maxHeartbeats 4000000 in
theorem sH {mi pc nx r1 r2 r3 : Nat} {ins : Instr} {v : Value} {st : List Value} {h : AH} {q : List Value × AH} (hx : p.tables.exec = Jvm.exec) (hb : c.code = cB mi) (hown : s.vm.findClass (oN (cO mi)) = some m.cls) (hts : ∀ w ∈ wAll, w.before args s = true)
    (hK : va_K D vcls (tysOf ca) s) (hA : AdOk base ad) (hP : va_P D vcls (wsOf ca ad h) H) (hS : va_S (fun q : Nat => base q) H0 H locs)
    (hw : wfE mi pc (3, ins, nx, r1, r2, r3, v) = true) (hs : stH ins r1 r2 st h = some q)
    (k : ∀ (H1 : Heap) (locs1 : List Loc), va_P D vcls (wsOf ca ad q.2) H1 → va_S (fun q : Nat => base q) H0 H1 locs1 → W p l e R s m args below meth c H1 locs1 cells slots Q (F0 m nx ls (q.1.map (em ad)))) : W p l e R s m args below meth c H locs cells slots Q (F0 m pc ls (st.map (em ad))) := by
  have hw9 : (decide (decode (cB mi) pc = .ok (ins, nx - pc)) && Nat.ble pc nx && (Nat.beq nx (pc + lenI ins) && wfH (cO mi) ins r1 r2)) = true := hw
  clear hw
  simp only [Bool.and_eq_true, decide_eq_true_eq] at hw9
  obtain ⟨⟨hdg0, -⟩, hnx0, h3⟩ := hw9
  have hnx := Nat.eq_of_beq_eq_true hnx0
  have hdg : decode (cB mi) pc = .ok (ins, lenI ins) := by rw [hdg0, hnx, Nat.add_sub_cancel_left]
  clear hdg0 hnx0
  subst hnx
  have hDw := ws_D (ca := ca) hA h
  cases ins <;> simp only [stH, reduceCtorEq] at hs
  case getfield i =>
    split at hs
    case h_2 => cases hs
    rename_i k0 r
    split at hs
    case h_2 => cases hs
    rename_i ci sl hlay
    split at hs
    case isFalse => cases hs
    rename_i hci
    split at hs
    case h_2 => cases hs
    rename_i sv hsv
    cases hs
    subst hci
    obtain ⟨hk0, hy⟩ := lay_in hlay (by omega)
    have hy : (Nat.blt ci 9 && Nat.beq sl.length (cN ci) && (List.range sl.length).all (fun j => (match sl.getD j 0 with | 0 => decide (cTy ci j = .int) | 1 => decide (cTy ci j = .boolean) | 2 => decide (cTy ci j = .char) | t + 3 => Nat.blt t NC))) = true := hy
    simp only [Bool.and_eq_true] at hy
    obtain ⟨⟨hc1, hc2⟩, -⟩ := hy
    have hc1 : ci < 9 := Nat.le_of_ble_eq_true hc1
    have hc2 := Nat.eq_of_beq_eq_true hc2
    have hr2 : r2 < cN ci := by rw [← hc2]; exact (List.getElem?_eq_some_iff.mp hsv).1
    have he := ws_at (ca := ca) (ad := ad) hk0 h
    rw [hlay] at he
    exact va_get (Ts := wAll) hx hb hts (uw_ok ci hc1) hown hK hP (k0 - 31) he (vcls_at ci hc1) r2 hr2 (hts _ (wA (fP_word h3) rfl)) (fun x hx9 => hx9) (flds_get hsv (h.1 k0)) hdg (k _ _ hP hS)
  case putfield i =>
    split at hs
    case h_2 => cases hs
    rename_i x k0 r
    split at hs
    case h_2 => cases hs
    rename_i ci sl hlay
    split at hs
    case isFalse => cases hs
    rename_i hci
    split at hs
    case h_2 => cases hs
    rename_i sv hsv
    split at hs
    case isFalse => cases hs
    rename_i hok
    cases hs
    subst hci
    obtain ⟨hk0, hy⟩ := lay_in hlay (by omega)
    have hy : (Nat.blt ci 9 && Nat.beq sl.length (cN ci) && (List.range sl.length).all (fun j => (match sl.getD j 0 with | 0 => decide (cTy ci j = .int) | 1 => decide (cTy ci j = .boolean) | 2 => decide (cTy ci j = .char) | t + 3 => Nat.blt t NC))) = true := hy
    simp only [Bool.and_eq_true] at hy
    obtain ⟨⟨hc1, hc2⟩, hc3⟩ := hy
    have hc1 : ci < 9 := Nat.le_of_ble_eq_true hc1
    have hc2 := Nat.eq_of_beq_eq_true hc2
    have hrl : r2 < sl.length := (List.getElem?_eq_some_iff.mp hsv).1
    have hr2 : r2 < cN ci := by rw [← hc2]; exact hrl
    have hc4 := List.all_eq_true.mp hc3 r2 (List.mem_range.mpr hrl)
    rw [show sl.getD r2 0 = sv by rw [List.getD_eq_getElem?_getD, hsv]; rfl] at hc4
    have hsv3 : sv < 3 := by
      match sv, hok with
      | 0, _ => omega
      | 1, _ => omega
      | 2, _ => omega
      | n + 3, hok => exact absurd hok (by simp [kOk])
    have hf := k_fit (ty := cTy ci r2) hok (fun q => by subst q; exact of_decide_eq_true hc4) (fun q => by subst q; exact of_decide_eq_true hc4) (fun q => by subst q; exact of_decide_eq_true hc4)
    have he := ws_at (ca := ca) (ad := ad) hk0 h
    rw [hlay] at he
    have h3 : (fP.any (fun q => Nat.beq q.1 (cO mi) && Nat.beq q.2.1 i && Nat.beq q.2.2.1 ci && Nat.beq q.2.2.2.1 r2) && !(cT ci r2).2.2.2) = true := h3
    rw [Bool.and_eq_true] at h3
    obtain ⟨h3, hfin⟩ := h3
    have hfin : (cT ci r2).2.2.2 = false := by simpa using hfin
    refine va_put (Ts := wAll) hx hb hts (uw_ok ci hc1) (cTy ci) (cty_ok ci hc1) (cnm_ok ci hc1) hown hK hP hDw hS (k0 - 31) he (vcls_at ci hc1) r2 hr2 (hts _ (wA (fP_word h3) rfl)) (fun x hx9 => hx9) hfin (cty_ok ci hc1 r2 hr2) hf.1 hf.2 (by simpa using hrl) hdg (fun H1 locs1 hP1 _ hS1 => ?_)
    have hset : (wsOf ca ad h).set (k0 - 31) (ad k0, .inr (ci, ((List.range sl.length).map (fun j => em ad (fv (sl.getD j 0) (h.1 k0 j)))).set r2 (.int x))) = wsOf ca ad (hI h k0 r2 x) :=
      ws_set hk0 (by rw [hlay, flds_set hsv hsv3 (h.1 k0) ((hI h k0 r2 x).1 k0) (by simp [hI]) (fun j hj => by simp [hI, hj])]; rfl) (fun a ha => ⟨by funext j; simp [hI, ha], rfl, rfl, rfl⟩)
    rw [show em ad (.int x) = .int x from rfl, hset] at hP1
    exact k _ _ hP1 hS1
  case iaload =>
    split at hs
    case h_2 => cases hs
    rename_i i k0 r
    split at hs
    case h_2 => cases hs
    rename_i n sl hlay
    split at hs
    case isTrue => cases hs
    rename_i hin
    cases hs
    obtain ⟨hk0, -⟩ := lay_in hlay (by omega)
    have he := ws_at (ca := ca) (ad := ad) hk0 h
    rw [hlay] at he
    exact va_iald hx hb hK hP (k0 - 31) 0 he rfl hin hdg (k _ _ hP hS)
  case caload =>
    split at hs
    case h_2 => cases hs
    rename_i i k0 r
    split at hs
    case h_2 => cases hs
    rename_i n sl hlay
    split at hs
    case isTrue => cases hs
    rename_i hin
    cases hs
    obtain ⟨hk0, -⟩ := lay_in hlay (by omega)
    have he := ws_at (ca := ca) (ad := ad) hk0 h
    rw [hlay] at he
    exact va_cald hx hb hK hP (k0 - 31) 1 he rfl hin hdg (k _ _ hP hS)
  case faload =>
    split at hs
    case h_2 => cases hs
    rename_i i k0 r
    split at hs
    case h_2 => cases hs
    rename_i n sl hlay
    split at hs
    case isTrue => cases hs
    rename_i hin
    cases hs
    obtain ⟨hk0, -⟩ := lay_in hlay (by omega)
    have he := ws_at (ca := ca) (ad := ad) hk0 h
    rw [hlay] at he
    exact va_fald hx hb hK hP (k0 - 31) 2 he rfl hin hdg (k _ _ hP hS)
  case iastore =>
    split at hs
    case h_2 => cases hs
    rename_i x i k0 r
    split at hs
    case h_2 => cases hs
    rename_i n sl hlay
    split at hs
    case isTrue => cases hs
    rename_i hin
    cases hs
    obtain ⟨hk0, -⟩ := lay_in hlay (by omega)
    have he := ws_at (ca := ca) (ad := ad) hk0 h
    rw [hlay] at he
    refine va_iast hx hb hK hP hDw hS (k0 - 31) 0 he rfl hin hdg (fun H1 locs1 hP1 _ hS1 => ?_)
    have hu : (hI h k0 i.toNatClampNeg x).1 k0 = upd (h.1 k0) i.toNatClampNeg x := by
      funext j
      by_cases hj : j = i.toNatClampNeg <;> simp [hI, upd, hj]
    have hset : (wsOf ca ad h).set (k0 - 31) (ad k0, .inl (ca 1, n, .inl ((hI h k0 i.toNatClampNeg x).1 k0))) = wsOf ca ad (hI h k0 i.toNatClampNeg x) := ws_set hk0 (by rw [hlay]; rfl) (fun a ha => ⟨by funext j; simp [hI, ha], rfl, rfl, rfl⟩)
    rw [hu] at hset
    rw [hset] at hP1
    exact k _ _ hP1 hS1
  case castore =>
    split at hs
    case h_2 => cases hs
    rename_i x i k0 r
    split at hs
    case h_2 => cases hs
    rename_i n sl hlay
    split at hs
    case isTrue => cases hs
    rename_i hin
    split at hs
    case isFalse => cases hs
    rename_i hok
    cases hs
    obtain ⟨hk0, -⟩ := lay_in hlay (by omega)
    have he := ws_at (ca := ca) (ad := ad) hk0 h
    rw [hlay] at he
    refine va_cast hx hb hK hP hDw hS (k0 - 31) 1 he rfl hin hdg (fun H1 locs1 hP1 _ hS1 => ?_)
    rw [show vp_nar .char x = x by unfold vp_nar; rw [(ck_fit hok).1]] at hP1
    have hu : (hI h k0 i.toNatClampNeg x).1 k0 = upd (h.1 k0) i.toNatClampNeg x := by
      funext j
      by_cases hj : j = i.toNatClampNeg <;> simp [hI, upd, hj]
    have hset : (wsOf ca ad h).set (k0 - 31) (ad k0, .inl (ca 2, n, .inl ((hI h k0 i.toNatClampNeg x).1 k0))) = wsOf ca ad (hI h k0 i.toNatClampNeg x) := ws_set hk0 (by rw [hlay]; rfl) (fun a ha => ⟨by funext j; simp [hI, ha], rfl, rfl, rfl⟩)
    rw [hu] at hset
    rw [hset] at hP1
    exact k _ _ hP1 hS1
  case fastore =>
    split at hs
    case h_2 => cases hs
    rename_i x i k0 r
    split at hs
    case h_2 => cases hs
    rename_i n sl hlay
    split at hs
    case isTrue => cases hs
    rename_i hin
    cases hs
    obtain ⟨hk0, -⟩ := lay_in hlay (by omega)
    have he := ws_at (ca := ca) (ad := ad) hk0 h
    rw [hlay] at he
    refine va_fast hx hb hK hP hDw hS (k0 - 31) 2 he rfl hin hdg (fun H1 locs1 hP1 _ hS1 => ?_)
    have hu : (hF h k0 i.toNatClampNeg x).2.1 k0 = vf_upd (h.2.1 k0) i.toNatClampNeg x := by
      funext j
      by_cases hj : j = i.toNatClampNeg <;> simp [hF, vf_upd, hj]
    have hset : (wsOf ca ad h).set (k0 - 31) (ad k0, .inl (ca 4, n, .inr (.inr (.inl ((hF h k0 i.toNatClampNeg x).2.1 k0))))) = wsOf ca ad (hF h k0 i.toNatClampNeg x) := ws_set hk0 (by rw [hlay]; rfl) (fun a ha => ⟨rfl, by funext j; simp [hF, ha], rfl, rfl⟩)
    rw [hu] at hset
    rw [hset] at hP1
    exact k _ _ hP1 hS1
  case aaload =>
    split at hs
    case h_2 => cases hs
    rename_i i k0 r
    split at hs
    case h_2 => cases hs
    case h_1 =>
      rename_i n ts hlay
      split at hs
      case isTrue => cases hs
      rename_i hin
      split at hs
      case h_2 => cases hs
      rename_i t ht
      cases hs
      obtain ⟨hk0, -⟩ := lay_in hlay (by omega)
      have he := ws_at (ca := ca) (ad := ad) hk0 h
      rw [hlay] at he
      refine va_aldq hx hb hK hP (k0 - 31) 3 he rfl hin hdg ?_
      simp only [ht, Option.map_some, va_rf]
      exact k _ _ hP hS
  case arraylength =>
    split at hs
    case h_2 => cases hs
    rename_i k0 r
    obtain ⟨t, n, sl, hlay⟩ : ∃ t n sl, layAt k0 = (t, n, sl) := ⟨_, _, _, rfl⟩
    rw [hlay] at hs
    simp only [] at hs
    split at hs
    case isFalse => cases hs
    rename_i ht
    cases hs
    obtain ⟨hk0, -⟩ := lay_in hlay (by omega)
    have he := ws_at (ca := ca) (ad := ad) hk0 h
    rw [hlay] at he
    obtain rfl | rfl | rfl := ht
    · exact va_alen hx hb hK hP (k0 - 31) 0 he (ty := .int) rfl rfl hdg (k _ _ hP hS)
    · exact va_alen hx hb hK hP (k0 - 31) 1 he (ty := .char) rfl rfl hdg (k _ _ hP hS)
    · exact va_alen hx hb hK hP (k0 - 31) 2 he (ty := .float) rfl rfl hdg (k _ _ hP hS)
end
