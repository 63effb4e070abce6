-- needs: 9995
noncomputable section
theorem st_flags {l : Launch} (h : l.flags = flags0) : l.stackTraces = false := by
  unfold Launch.stackTraces
  rw [h]
  decide +kernel
theorem whole_start {p : Program} {e : Env} {s : State} {m : MethodId} {below : List Frame} {meth : Method} {c : Code} (l : Launch) (hflags : l.flags = flags0) {b L : Nat} {xs : Nat → Int32} (hL : L ≤ 2048) (C0 : lw_At p s m meth c b L xs) : W p l e room_1 s m #[Value.ref b] below meth c s.heap [] 0 0 (lw_Z below #[Value.ref b] s) (entryFrame m ([Value.ref b] : List Value).toArray 9) := by
  obtain ⟨hx, hb, hr, hml, hown, hts, hX, hbl, hlk, hgv⟩ := id C0
  have hb : c.code = cB mL_law := hb
  have hml : c.maxLocals = cM mL_law := hml
  have hown : s.vm.findClass (oN (cO mL_law)) = some m.cls := hown
  have hn := flat_of_before _ hgv
  have hts2 : ∀ w ∈ wAll, w.before #[.ref b] s = true := fun w hw => hts w (List.mem_filter.mp hw).1
  obtain ⟨D, ca, hK⟩ := st_K hts
  obtain ⟨sa, va, Zs, Zr⟩ := st_ZS hts hn
  have hO := st_AOk hts
  have hZ := st_ZT hts hn
  have hst := st_flags hflags
  have hl := lv_entry ([.ref b]) (n := 9) (Nat.le_of_ble_eq_true rfl)
  rw [lg_entry_eq]
  generalize (lg_sl ([.ref b]) ++ List.replicate (9 - (lg_sl ([.ref b])).length) Slot.unset).toArray = ls at hl ⊢
  have hl : lv_has ls (cM mL_law) (lm id [(0, .ref b)]) := hl
  refine law_start (D := D) (ca := ca) (base := s.heap.size) (b := b) (fun q sz => met_X10) (fun q sz => met_X11) hx hb hml hown hts2 rfl hK hO (st_AO hts).2.1 (st_AO hts).2.2 hl (fun q10 q11 ql qd w10 w11 H locs ls h10 h11 hP hD hS hl => ?_)
  obtain ⟨ad, g0, g31, g212, g213, g214, g215, hA, hPw⟩ := world (b := b) (sa := sa) (sh10 h10) (sh11 h11) hP hD
  have F : LwF p l s m b meth c D ca ad s.heap.size L xs := ⟨hx, hb, hml, hown, hts2, hK, hA, hZ, rfl, hst, g214, hbl, hX⟩
  have Wl : WL p l e s m b below meth c D ca ad s.heap.size L xs 214 12591 28 (LcB (nI (4 * 0))) [] h00 := law_loop (B := 0) (C0 := 214) (S0 := 12591) Zs Zr g215 hr hlk hL (Nat.le_of_ble_eq_true rfl) (Nat.le_of_ble_eq_true rfl) 512 0 214 12591 h00 rfl (Nat.le_of_ble_eq_true rfl) (Nat.le_of_ble_eq_true rfl) gs00 (by omega)
  have hl2 : lv_has ls (cM mL_law) (lm ad (LcB (nI (4 * 0)))) := by
    show lv_has ls (cM mL_law) [(0, .ref (ad 214)), (1, .ref (ad 31)), (2, .ref (ad 0)), (3, .ref (ad 212)), (4, .ref (ad 213)), (5, .int (nI (4 * 0)))]
    rw [g0, g31, g212, g213, g214]
    exact lv_sub hl [5, 4, 3, 2, 1, 0] rfl
  exact Wl F (Nat.le_of_ble_eq_true rfl) (Nat.le_of_ble_eq_true rfl) H locs ls hPw hS hl2
end
