noncomputable section
section
variable {p : Program} {l : Launch} {e : Env} {R : Room} {s : State} {m : MethodId} {args : Array Value} {below : List Frame} {meth : Method} {c : Code} {H H0 : Heap} {locs : List Loc} {cells slots : Nat} {Q : State → Prop} {ls : Array Slot} {D : va_G} {ca : Nat → ClassId} {A : Nat → Prop} {tys : List (ClassId × FieldType)} {ws : va_W}
theorem kL {pc nx r1 r2 r3 : Nat} {ins : Instr} {v : Value} {lc : LC} {st : List Value} {q : LC × List Value} (hx : p.tables.exec = Jvm.exec) (hb : c.code = cB mL_law) (hl : lv_has ls (cM mL_law) (lm id lc)) (hc : cdT mL_law pc = some (1, ins, nx, r1, r2, r3, v)) (hs : stL ins v lc st = some q) (k : ∀ ls' : Array Slot, lv_has ls' (cM mL_law) (lm id q.1) → W p l e R s m args below meth c H locs cells slots Q (F0 m nx ls' q.2)) : W p l e R s m args below meth c H locs cells slots Q (F0 m pc ls st) := by
  have z := sL (ad := id) (st := st) (Q := Q) (R := R) (l := l) (p := p) (e := e) (s := s) (args := args) (below := below) (meth := meth) (H := H) (locs := locs) (cells := cells) (slots := slots) (m := m) hx hb hl (cdT_wfL hc) hs (fun ls' h' => by rw [map_em]; exact k ls' h')
  rw [map_em] at z
  exact z
theorem kA {pc nx r1 r2 r3 : Nat} {ins : Instr} {v : Value} {st st' : List Value} (hx : p.tables.exec = Jvm.exec) (hb : c.code = cB mL_law) (hown : s.vm.findClass (oN (cO mL_law)) = some m.cls) (hts : ∀ w ∈ wAll, w.before args s = true) (hc : cdT mL_law pc = some (0, ins, nx, r1, r2, r3, v)) (hs : stA ins v st = some st') (k : W p l e R s m args below meth c H locs cells slots Q (F0 m nx ls st')) : W p l e R s m args below meth c H locs cells slots Q (F0 m pc ls st) := by
  have z := sA (ad := id) (st := st) (Q := Q) (R := R) (l := l) (p := p) (e := e) (s := s) (args := args) (below := below) (meth := meth) (H := H) (locs := locs) (cells := cells) (slots := slots) (m := m) (ls := ls) hx hb hown hts (cdT_wfL hc) hs (by rw [map_em]; exact k)
  rw [map_em] at z
  exact z
def d10 : List Value := [.null, .null, .null, .null, .null, .null, .null, .null, .null, .int 0]
theorem law_start {b base : Nat} {Sh10 : Nat → va_W → Prop} (m10 : ∀ q sz, Met l (cY mX10_init) (wsM mX10_init) (rmC 4 180 6575) (va_Pc [.ref q] (CtP D ca q sz (.inr (8, d10)))) (CtQ D q sz (Sh10 q)) 180 6575 (AQ q sz))
    (hx : p.tables.exec = Jvm.exec) (hb : c.code = cB mL_law) (hml : c.maxLocals = cM mL_law) (hown : s.vm.findClass (oN (cO mL_law)) = some m.cls) (hts : ∀ w ∈ wAll, w.before args s = true) (hbs : base = s.heap.size) (hK : va_K D vcls (tysOf ca) s) (hO : AOk s) (hl : lv_has ls (cM mL_law) (lm id [(0, .ref b)]))
    (KT : ∀ (q10 : Nat) (w10 : va_W) (H : Heap) (locs : List Loc) (ls : Array Slot), Sh10 q10 w10 → va_P D vcls w10 H → va_D (fun x : Nat => base ≤ x) w10 → va_S (fun x : Nat => base ≤ x) s.heap H locs → lv_has ls (cM mL_law) (lm id [(1, .ref q10), (0, .ref b)]) → W p l e room_1 s m args below meth c H locs 181 6585 Q (F0 m 8 ls [])) : W p l e room_1 s m args below meth c s.heap [] 0 0 Q (F0 m 0 ls []) := by
  have hA : ∀ x, s.heap.size ≤ x → base ≤ x := fun x h => by omega
  have hP : va_P D vcls [] s.heap := fun k x hx => by cases hx
  have hD : va_D (fun x : Nat => base ≤ x) [] := ⟨fun i j x y hi _ _ => (by cases hi), fun k x hx => (by cases hx)⟩
  refine jNew (A := fun x : Nat => base ≤ x) (i1 := 12) (ci := 8) (N := 10) (fs := d10) hx hb hown hts hK hP hD va_S.rf hA (by decide) (by decide) (wA (tb_in 1 32 (by decide +kernel)) rfl) (wA (tb_in 1 33 (by decide +kernel)) rfl) (wA (tb_in 1 1 (by decide +kernel)) rfl) (fun j hj => by rcases (show j = 0 ∨ j = 1 ∨ j = 2 ∨ j = 3 ∨ j = 4 ∨ j = 5 ∨ j = 6 ∨ j = 7 ∨ j = 8 ∨ j = 9 by omega) with rfl | rfl | rfl | rfl | rfl | rfl | rfl | rfl | rfl | rfl <;> rfl) (Nat.le_of_ble_eq_true rfl) (Nat.le_of_ble_eq_true rfl) (by decide +kernel) (fun q10 H hP hD hS => ?_)
  refine kA hx hb hown hts rfl rfl ?_
  refine ctCall (jI (mi := mL_law) (mj := mX10_init) (d' := 4) (mc := 180) (ms := 6575) (i := 216) hx hb hml hown hts hl.1 ⟨Nat.le_of_ble_eq_true rfl, Nat.le_of_ble_eq_true rfl⟩ ⟨Nat.le_of_ble_eq_true rfl, Nat.le_of_ble_eq_true rfl⟩ (wA (tb_in 1 34 (by decide +kernel)) rfl) (wA (tb_in 1 35 (by decide +kernel)) rfl) (wA (tb_in 1 1 (by decide +kernel)) rfl) (wA (tb_in 1 36 (by decide +kernel)) rfl) rfl (by decide) ⟨by decide, by decide, by decide +kernel⟩ (by decide +kernel) (Nat.le_of_ble_eq_true rfl) (m10 q10 _) hP hK hO) hP hD hS hA (fun w10 H locs sh10 hP hD hS => ?_)
  refine kL hx hb hl rfl rfl (fun ls hl => ?_)
  exact KT q10 w10 H locs ls sh10 hP hD hS hl
end
section
variable {D : va_G} {ca : Nat → ClassId} {H : Heap}
theorem ws_f {A : Nat → Nat} : wsOf ca A h00 = (List.range 181).map (fun i => fCell ca A (31 + i)) := rfl
theorem world {base q10 b tx : Nat} {ka va : Nat → Nat} {w10 : va_W} (h10 : ∃ ad : Nat → Nat, ad 31 = q10 ∧ w10 = (List.range 181).map (fun i => fCell ca ad (31 + i))) (hP : va_P D vcls w10 H) (hD : va_D (fun x : Nat => base ≤ x) w10) :
    ∃ ad : Nat → Nat, ad 31 = q10 ∧ ad 214 = b ∧ ad 219 = tx ∧ (∀ i, i < 13 → ad (220 + i) = ka i) ∧ (∀ i, i < 13 → ad (240 + i) = va i) ∧ AdOk (fun x : Nat => base ≤ x) ad ∧ va_P D vcls (wsOf ca ad h00) H := by
  obtain ⟨A, a0, rfl⟩ := h10
  obtain ⟨ad, had⟩ : ∃ ad : Nat → Nat, ad = fun k => if k < 212 then A k else if k = 214 then b else if k = 219 then tx else if k < 233 then ka (k - 220) else va (k - 240) := ⟨_, rfl⟩
  have e2 : ∀ k, k < 212 → ad k = A k := fun k h2 => by
    subst had
    exact if_pos h2
  have e5 : ad 214 = b := by subst had; rfl
  have e6 : ad 219 = tx := by subst had; rfl
  have e7 : ∀ i, i < 13 → ad (220 + i) = ka i := fun i hi => by
    subst had
    show (if 220 + i < 212 then A (220 + i) else if 220 + i = 214 then b else if 220 + i = 219 then tx else if 220 + i < 233 then ka (220 + i - 220) else va (220 + i - 240)) = ka i
    rw [if_neg (by omega), if_neg (by omega), if_neg (by omega), if_pos (by omega), Nat.add_sub_cancel_left]
  have e8 : ∀ i, i < 13 → ad (240 + i) = va i := fun i hi => by
    subst had
    show (if 240 + i < 212 then A (240 + i) else if 240 + i = 214 then b else if 240 + i = 219 then tx else if 240 + i < 233 then ka (240 + i - 220) else va (240 + i - 240)) = va i
    rw [if_neg (by omega), if_neg (by omega), if_neg (by omega), if_neg (by omega), Nat.add_sub_cancel_left]
  have ew : wsOf ca ad h00 = wsOf ca A h00 := ws_congr (fun k _ h => e2 k h)
  have hat : ∀ k, 31 ≤ k → k < 212 → ((List.range 181).map (fun i => fCell ca A (31 + i)))[k - 31]? = some (fCell ca A k) := fun k h1 h2 => by
    rw [List.getElem?_map, List.getElem?_range (show k - 31 < 181 by omega), Option.map_some, show 31 + (k - 31) = k by omega]
  refine ⟨ad, (e2 31 (by decide)).trans a0, e5, e6, e7, e8, ⟨fun i j hi hj h => ?_, fun k hk => ?_⟩, ?_⟩
  · rw [e2 i hi.2, e2 j hj.2] at h
    have z := hD.1 (i - 31) (j - 31) _ _ (hat i hi.1 hi.2) (hat j hj.1 hj.2) h
    omega
  · have z := hD.2 (k - 31) _ (hat k hk.1 hk.2)
    rw [e2 k hk.2]
    exact z
  · rw [ew, ws_f]
    exact hP
end
theorem st_flags {l : Launch} (h : l.flags = flags0) : l.stackTraces = false := by
  unfold Launch.stackTraces
  rw [h]
  decide +kernel
theorem whole_start {p : Program} {e : Env} {s : State} {m : MethodId} {below : List Frame} {meth : Method} {c : Code} (l : Launch) (hflags : l.flags = flags0) {b L : Nat} {xs : Nat → Int32} (hL : L ≤ 260) (C0 : lw_At p s m meth c b L xs) : W p l e room_1 s m #[Value.ref b] below meth c s.heap [] 0 0 (lw_Z below #[Value.ref b] s) (entryFrame m ([Value.ref b] : List Value).toArray 9) := by
  obtain ⟨hx, hb, hr, hml, hown, hts, hX, hbl, hlk, hgv⟩ := id C0
  have hb : c.code = cB mL_law := hb
  have hml : c.maxLocals = cM mL_law := hml
  have hown : s.vm.findClass (oN (cO mL_law)) = some m.cls := hown
  have hn := flat_of_before _ hgv
  have hts2 : ∀ w ∈ wAll, w.before #[.ref b] s = true := fun w hw => hts w (List.mem_filter.mp hw).1
  obtain ⟨D, ca, hK⟩ := st_K hts
  obtain ⟨ka, va, tx, x1, x2, x3, x4, x5, x6⟩ := st_ZX hts hn
  have hO := st_AOk hts
  have hZ := st_ZT hts hn
  have hst := st_flags hflags
  have hl := lv_entry ([.ref b]) (n := 9) (Nat.le_of_ble_eq_true rfl)
  rw [lg_entry_eq]
  generalize (lg_sl ([.ref b]) ++ List.replicate (9 - (lg_sl ([.ref b])).length) Slot.unset).toArray = ls at hl ⊢
  have hl : lv_has ls (cM mL_law) (lm id [(0, .ref b)]) := hl
  refine law_start (D := D) (ca := ca) (base := s.heap.size) (b := b) (fun q sz => met_X10) hx hb hml hown hts2 rfl hK hO hl (fun q10 w10 H locs ls h10 hP hD hS hl => ?_)
  obtain ⟨ad, g31, g214, g219, g220, g240, hA, hPw⟩ := world (b := b) (tx := tx) (ka := ka) (va := va) (sh10 h10) hP hD
  have hZX : ZX (fun x : Nat => s.heap.size ≤ x) ad s := zx_of x1 x2 x3 x4 x5 x6 g220 g240 g219
  have F : LF p l room_1 s m #[.ref b] meth c mL_law 25 2000 D ca ad (fun x : Nat => s.heap.size ≤ x) ad [] := ⟨⟨hx, hb, hml, hown, rfl, hts2, fun pc e he => cdT_wfL he⟩, ⟨hK, hA, hZ, fun q hq => hq, hst, hZX⟩, fun _ _ _ => rfl, ⟨fun x hx => absurd hx List.not_mem_nil, fun x hx => absurd hx List.not_mem_nil⟩, ⟨by decide, by decide, by decide, by decide⟩, Or.inl rfl, hlk⟩
  have Wl := law_a (p := p) (l := l) (e := e) (R := room_1) (s := s) (m := m) (args := #[.ref b]) (below := below) (meth := meth) (c := c) (Q := lw_Z below #[Value.ref b] s) (D := D) (ca := ca) (ad0 := ad) (ad := ad) (A := fun x : Nat => s.heap.size ≤ x) (E := []) (G := fun _ _ => 0) hst (b := b) (L := L) (xs := xs) (by omega) hX hbl (by show ¬ s.heap.size ≤ b; omega) g214 (fun kc lc h => wl_fin hr (fun q hq => hq) (by decide)) cs00 is00
  have hl2 : lv_has ls (cM mL_law) (lm ad [(0, .ref 214), (1, .ref 31)]) := by
    show lv_has ls (cM mL_law) [(0, .ref (ad 214)), (1, .ref (ad 31))]
    rw [g31, g214]
    exact lv_sub hl [1, 0] rfl
  exact Wl F (by decide) H locs ls 181 6585 (by decide) (by decide) hPw (fun x hx => absurd hx List.not_mem_nil) hS hl2
end
