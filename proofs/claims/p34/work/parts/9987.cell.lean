noncomputable section
/-- the number that an act is chosen by -/
def cellV (L : Nat) (xs : Nat → Int32) (i : Nat) : Int32 := if L = 0 then 577 * nI i else xs (((nI i &&& 65535) - (nI i &&& 65535) / nI L * nI L).toNatClampNeg)
def XSp (b L : Nat) (xs : Nat → Int32) (U : State) : Prop := va_X b L xs U U.heap ∧ b < U.heap.size
theorem XSp_blind {b L : Nat} {xs : Nat → Int32} {av : List Value} : FrameBlind (va_Pc av (XSp b L xs)) := fun a U g mk q => ⟨q.1, va_X.moved (u := U) (U := U.calling g mk a) (Vm.Alike.refl U.vm) q.2.1, q.2.2⟩
section
variable {p : Program} {l : Launch} {e : Env} {R : Room} {s : State} {m : MethodId} {args : Array Value} {below : List Frame} {meth : Method} {c : Code} {H H0 : Heap} {locs : List Loc} {cells slots : Nat} {Q : State → Prop} {ls : Array Slot}
theorem met_cell {b L i : Nat} {xs : Nat → Int32} (hL9 : L < 2 ^ 31) : Met l (cY mL_cell) (wsM mL_cell) (rmX 0) (va_Pc [.ref b, .int (nI i)] (XSp b L xs)) (QJ (some (.int (cellV L xs i)))) 0 0 (fun _ => False) := by
  refine jM (by decide +kernel) (by decide) (Nat.le_of_ble_eq_true rfl) (fun p e s m below meth c hx hb hr hlk hml hown hts hZ ls hl => ?_)
  have hL : ¬ mL_cell = mL_law := by decide
  have e1 : lv_args 0 [.ref b, .int (nI i)] = [(0, .ref b), (1, .int (nI i))] := rfl
  rw [e1] at hl
  obtain ⟨hX, hbl⟩ := hZ
  refine jL hx hb hl hL rfl rfl (fun ls1 hl1 => ?_)
  refine va_slen (A := fun _ => False) hx hb hX hbl (fun z => z) va_S.rf (by decide +kernel) ?_
  refine jB hx hb hL rfl rfl ?_
  unfold cellV
  by_cases h0 : L = 0
  · subst h0
    rw [if_neg (show ¬ (decide (Int32.ofNat 0 ≠ 0) = true) by decide), if_pos rfl]
    refine jA hx hb hown hts hL rfl rfl ?_
    refine jL hx hb hl1 hL rfl rfl (fun ls2 hl2 => ?_)
    refine jA hx hb hown hts hL rfl rfl ?_
    refine jB hx hb hL rfl rfl ?_
    rw [if_pos rfl]
    exact jR hL rfl hx hb hr hlk va_S.rf rfl
  · have hn : nI L ≠ 0 := fun z => h0 ((nI_z hL9).mp z)
    rw [if_pos (show decide (Int32.ofNat L ≠ 0) = true from decide_eq_true hn), if_neg h0]
    obtain ⟨y, hy, ey⟩ : ∃ y, y ≤ 65535 ∧ nI i &&& 65535 = nI y := and_nI (nI i) 65535 (by decide)
    have ei : nI y - nI y / nI L * nI L = nI (y % L) := pk_rem (by omega) (by omega) hL9
    have hlt : y % L < L := Nat.mod_lt _ (by omega)
    refine jL hx hb hl1 hL rfl rfl (fun ls2 hl2 => ?_)
    refine jL hx hb hl2 hL rfl rfl (fun ls3 hl3 => ?_)
    refine jA hx hb hown hts hL rfl rfl ?_
    refine jA hx hb hown hts hL rfl rfl ?_
    refine jL hx hb hl3 hL rfl rfl (fun ls4 hl4 => ?_)
    refine va_slen (A := fun _ => False) hx hb hX hbl (fun z => z) va_S.rf (by decide +kernel) ?_
    refine jA (st' := [.int ((nI i &&& 65535) - (nI i &&& 65535) / nI L * nI L), .ref b]) hx hb hown hts hL rfl (by show (if nI L = 0 then none else some _) = _; rw [if_neg hn]; rfl) ?_
    refine va_sld (A := fun _ => False) hx hb hX hbl (fun z => z) va_S.rf (by rw [ey, ei]; exact vp_in_nI hlt (by omega)) (by decide +kernel) ?_
    exact jR hL rfl hx hb hr hlk va_S.rf rfl
end
section
variable {p : Program} {l : Launch} {e : Env} {R : Room} {s : State} {m : MethodId} {args : Array Value} {below : List Frame} {meth : Method} {c : Code} {Q : State → Prop} {mi dR KC : Nat} {D : va_G} {ca : Nat → ClassId} {ad0 ad : Nat → Nat} {A : Nat → Prop} {E : EX} {G : Nat → Nat → Int32} {kc pc : Nat} {lc : LC} {st : List Value} {h : AH} {b L : Nat} {xs : Nat → Int32}
theorem wl_mono {kc2 : Nat} (h1 : kc ≤ kc2) (h2 : kc2 ≤ KC) (K : WL p l e R s m args below meth c Q mi dR KC D ca ad0 A ad E G kc2 pc lc st h) : WL p l e R s m args below meth c Q mi dR KC D ca ad0 A ad E G kc pc lc st h := fun F _ H locs ls cells slots hc9 hs9 hP hX hS hl => K F h2 H locs ls cells slots (by omega) (by omega) hP hX hS hl
/-- how many numbers the script has -/
theorem wl_sl {rest : List Value} (hdg : decode (cB mi) pc = .ok (.arraylength, 1)) (hXs : va_X b L xs s s.heap) (hbl : b < s.heap.size) (hbA : ¬ A b) (had : ad 214 = b) (K : WL p l e R s m args below meth c Q mi dR KC D ca ad0 A ad E G kc (pc + 1) lc (.int (nI L) :: rest) h) : WL p l e R s m args below meth c Q mi dR KC D ca ad0 A ad E G kc pc lc (.ref 214 :: rest) h := by
  intro F hk H locs ls cells slots hc9 hs9 hP hX hS hl
  have K2 := K F hk H locs ls cells slots hc9 hs9 hP hX hS hl
  obtain ⟨⟨hx, hb, hml, hown, ho, hts, hwf⟩, -⟩ := F
  have e1 : (Value.ref 214 :: rest).map (em ad) = .ref b :: rest.map (em ad) := by rw [← had]; rfl
  rw [e1]
  exact va_slen (A := A) hx hb hXs hbl hbA hS hdg K2
/-- a number of the script -/
theorem wl_cell {i : Nat} {rest : List Value} (hL9 : L < 2 ^ 31) (hdg : decode (cB mi) pc = .ok (.invokestatic 217, 3)) (hXs : va_X b L xs s s.heap) (hbl : b < s.heap.size) (hbA : ¬ A b) (had : ad 214 = b) (h8 : (rest.map fun v => v.category).sum ≤ 8) (hd : 0 + 2 ≤ dR) (K : WL p l e R s m args below meth c Q mi dR KC D ca ad0 A ad E G kc (pc + 3) lc (.int (cellV L xs i) :: rest) h) : WL p l e R s m args below meth c Q mi dR KC D ca ad0 A ad E G kc pc lc (.int (nI i) :: .ref 214 :: rest) h := by
  intro F hk H locs ls cells slots hc9 hs9 hP hX hS hl
  have K2 := fun H1 locs1 hP1 hX1 hS1 => K F hk H1 locs1 ls cells slots hc9 hs9 hP1 hX1 hS1 hl
  obtain ⟨⟨hx, hb, hml, hown, ho, hts, hwf⟩, ⟨hK, hA, hZ, hB, hfl, hZX⟩, -, -, hR, -⟩ := F
  have e1 : (Value.int (nI i) :: Value.ref 214 :: rest).map (em ad) = .int (nI i) :: .ref b :: rest.map (em ad) := by rw [← had]; rfl
  rw [e1]
  have hX0 : va_X b L xs s H := hXs.kept (hS.2.1 b hbl hbA)
  refine callJ (rest := rest.map (em ad)) (jS (mi := mi) (mj := mL_cell) (na := 2) (d' := 0) (i := 217) (own := oN 19) (As := [.ref b, .int (nI i)]) hx hb hml (by rw [← show RL = oN 19 from rfl, ← ho]; exact hown) hts hl.1 ⟨by show 0 + 1 + 1 ≤ _; omega, by show 8 + (cM mL_cell + 11) + 60 * (0 + 1) ≤ _; have : cM mL_cell ≤ 16 := (by decide); omega⟩ ⟨by omega, by omega⟩ (wML (by decide +kernel)) (wST (by decide +kernel)) (wIN (o := 19) (by decide +kernel)) (cdA (by decide)) ⟨by decide, by decide, by decide +kernel⟩ hdg rfl rfl (by rw [em_cats]; exact h8) (met_cell hL9) ⟨XSp_blind, fun U hU hW => ⟨rfl, by show va_X b L xs U U.heap; rw [hU]; exact hX0.moved hW.alike, by rw [hU]; exact Nat.lt_of_lt_of_le hbl hS.1⟩⟩) (fun H3 locs3 hS3 hl9 => ?_)
  have hP3 : va_P D vcls (wsOf ca ad h) H3 := hP.kept (fun k x hx => hS3.2.1 x.1 ((hP k x hx).lt) (fun z => z))
  have hX3 : XA ca ad E G H3 := fun x hx => by rw [hS3.2.1 _ (Array.getElem?_eq_some_iff.mp (hX x hx)).1 (fun z => z)]; exact hX x hx
  have hS4 : va_S A s.heap H3 locs3 := ⟨Nat.le_trans hS.1 hS3.1, fun q a b => (hS3.2.1 q (Nat.lt_of_lt_of_le a hS.1) (fun z => z)).trans (hS.2.1 q a b), fun q hq => hS.2.2 q (hl9 q hq)⟩
  exact K2 H3 locs3 hP3 hX3 hS4
end
end
