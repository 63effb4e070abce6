-- needs: 9976
noncomputable section
section
variable {p : Program} {l : Launch} {e : Env} {R : Room} {s : State} {m : MethodId} {args : Array Value} {below : List Frame} {meth : Method} {c : Code} {H H0 : Heap} {locs : List Loc} {cells slots : Nat} {Q : State → Prop} {ls : Array Slot} {D : va_G} {ca : Nat → ClassId} {A : Nat → Prop} {tys : List (ClassId × FieldType)} {ws : va_W}
set_option maxRecDepth 100000 in
set_option maxHeartbeats 8000000 in
theorem met_X7 {q sz : Nat} : Met l (cY mX7_init) (wsM mX7_init) (rmC 1 1 12) (va_Pc [.ref q] (CtP D ca q sz (.inr (5, [.null])))) (CtQ D q sz (fun w => ∃ a1 : Nat, w = [(q, .inr (5, [.ref a1])), (a1, .inl (ca 1, 12, .inl (fun _ => 0)))])) 1 12 (AQ q sz) := by
  refine jMc (by decide +kernel) (by decide) rfl (by decide) (fun p e s m below meth c hx hb hr hlk hml hown hts hin hsz hP hD hK hO ls hl => ?_)
  have hL : ¬ mX7_init = mL_law := by decide
  have hA : ∀ x, s.heap.size ≤ x → AQ q sz x := fun x h => Or.inr (by omega)
  refine jL hx hb hl hL rfl rfl (fun ls hl => ?_)
  refine jObj (idx := 3) hx hb hml hown hts hl.1 (wA (tb_in 1 160 (by decide +kernel)) rfl) (by decide) ⟨by decide, by decide⟩ (by decide +kernel) ?_
  refine jL hx hb hl hL rfl rfl (fun ls hl => ?_)
  refine jA hx hb hown hts hL rfl rfl ?_
  refine jNa (atype := .int) (t0 := 0) (cA0 := ca 1) (ty := .int) (N' := 12) (a0 := (12, .inl (fun _ => 0))) hx hb hts (wA (tb_in 1 131 (by decide +kernel)) rfl) rfl hK rfl hP hD va_S.rf hA (fun _ => rfl) (by decide) (by decide) (by decide) (by decide) (by decide) (by decide +kernel) (fun a1 H hP hD hS => ?_)
  have hP : va_P D vcls [(q, .inr (5, [.null])), (a1, .inl (ca 1, 12, .inl (fun _ => 0)))] H := hP
  have hD : va_D (AQ q sz) [(q, .inr (5, [.null])), (a1, .inl (ca 1, 12, .inl (fun _ => 0)))] := hD
  refine jPut (index := 9) (ci := 5) (k := 0) (q0 := 0) (fs := [.null]) hx hb hown hts hK hP hD hS rfl (by decide) (by decide) (by decide +kernel) (by decide) hin rfl rfl (by simp) (by decide +kernel) (fun H locs hP hD hS => ?_)
  have hP : va_P D vcls [(q, .inr (5, [.ref a1])), (a1, .inl (ca 1, 12, .inl (fun _ => 0)))] H := hP
  have hD : va_D (AQ q sz) [(q, .inr (5, [.ref a1])), (a1, .inl (ca 1, 12, .inl (fun _ => 0)))] := hD
  exact ctRet hx hb hr hlk hsz (by decide +kernel) ⟨a1, rfl⟩ hP hD hS
set_option maxRecDepth 100000 in
set_option maxHeartbeats 8000000 in
theorem met_X4 {q sz : Nat} : Met l (cY mX4_init) (wsM mX4_init) (rmC 2 4 54) (va_Pc [.ref q] (CtP D ca q sz (.inr (2, [.null, .null])))) (CtQ D q sz (fun w => ∃ a1 a2 a3 a4 : Nat, w = [(q, .inr (2, [.ref a1, .ref a3])), (a1, .inr (3, [.ref a2])), (a2, .inl (ca 4, 40, .inr (.inr (.inl (fun _ => 0))))), (a3, .inr (5, [.ref a4])), (a4, .inl (ca 1, 12, .inl (fun _ => 0)))])) 4 54 (AQ q sz) := by
  refine jMc (by decide +kernel) (by decide) rfl (by decide) (fun p e s m below meth c hx hb hr hlk hml hown hts hin hsz hP hD hK hO ls hl => ?_)
  have hL : ¬ mX4_init = mL_law := by decide
  have hA : ∀ x, s.heap.size ≤ x → AQ q sz x := fun x h => Or.inr (by omega)
  refine jL hx hb hl hL rfl rfl (fun ls hl => ?_)
  refine jObj (idx := 3) hx hb hml hown hts hl.1 (wA (tb_in 1 144 (by decide +kernel)) rfl) (by decide) ⟨by decide, by decide⟩ (by decide +kernel) ?_
  refine jL hx hb hl hL rfl rfl (fun ls hl => ?_)
  refine jNew (i1 := 9) (ci := 3) (N := 1) (fs := [.null]) hx hb hown hts hK hP hD va_S.rf hA (by decide) (by decide) (wA (tb_in 1 145 (by decide +kernel)) rfl) (wA (tb_in 1 146 (by decide +kernel)) rfl) (wA (tb_in 1 5 (by decide +kernel)) rfl) (fun j hj => by rcases (show j = 0 by omega) with rfl <;> rfl) (by decide) (by decide) (by decide +kernel) (fun a1 H hP hD hS => ?_)
  refine jA hx hb hown hts hL rfl rfl ?_
  refine ctCall (jIN (mi := mX4_init) (mj := mX5_init) (d' := 1) (mc := 1) (ms := 40) (i := 11) hx hb hml hown hts hl.1 ⟨by decide, by decide⟩ ⟨by decide, by decide⟩ (by decide) (wA (tb_in 1 148 (by decide +kernel)) rfl) (wA (tb_in 1 5 (by decide +kernel)) rfl) (wA (tb_in 1 149 (by decide +kernel)) rfl) rfl (by decide) ⟨by decide, by decide, by decide +kernel⟩ (by decide +kernel) (Nat.le_of_ble_eq_true rfl) (met_X5 (q := a1)) hP hK hO) hP hD hS hA (fun w9 H locs sh hP hD hS => ?_)
  obtain ⟨a2, rfl⟩ := sh
  have hP : va_P D vcls [(q, .inr (2, [.null, .null])), (a1, .inr (3, [.ref a2])), (a2, .inl (ca 4, 40, .inr (.inr (.inl (fun _ => 0)))))] H := hP
  have hD : va_D (AQ q sz) [(q, .inr (2, [.null, .null])), (a1, .inr (3, [.ref a2])), (a2, .inl (ca 4, 40, .inr (.inr (.inl (fun _ => 0)))))] := hD
  refine jPut (index := 12) (ci := 2) (k := 0) (q0 := 0) (fs := [.null, .null]) hx hb hown hts hK hP hD hS rfl (by decide) (by decide) (by decide +kernel) (by decide) hin rfl rfl (by simp) (by decide +kernel) (fun H locs hP hD hS => ?_)
  have hP : va_P D vcls [(q, .inr (2, [.ref a1, .null])), (a1, .inr (3, [.ref a2])), (a2, .inl (ca 4, 40, .inr (.inr (.inl (fun _ => 0)))))] H := hP
  have hD : va_D (AQ q sz) [(q, .inr (2, [.ref a1, .null])), (a1, .inr (3, [.ref a2])), (a2, .inl (ca 4, 40, .inr (.inr (.inl (fun _ => 0)))))] := hD
  refine jL hx hb hl hL rfl rfl (fun ls hl => ?_)
  refine jNew (i1 := 18) (ci := 5) (N := 1) (fs := [.null]) hx hb hown hts hK hP hD hS hA (by decide) (by decide) (wA (tb_in 1 155 (by decide +kernel)) rfl) (wA (tb_in 1 156 (by decide +kernel)) rfl) (wA (tb_in 1 6 (by decide +kernel)) rfl) (fun j hj => by rcases (show j = 0 by omega) with rfl <;> rfl) (by decide) (by decide) (by decide +kernel) (fun a3 H hP hD hS => ?_)
  refine jA hx hb hown hts hL rfl rfl ?_
  refine ctCall (jIN (mi := mX4_init) (mj := mX7_init) (d' := 1) (mc := 1) (ms := 12) (i := 20) hx hb hml hown hts hl.1 ⟨by decide, by decide⟩ ⟨by decide, by decide⟩ (by decide) (wA (tb_in 1 158 (by decide +kernel)) rfl) (wA (tb_in 1 6 (by decide +kernel)) rfl) (wA (tb_in 1 159 (by decide +kernel)) rfl) rfl (by decide) ⟨by decide, by decide, by decide +kernel⟩ (by decide +kernel) (Nat.le_of_ble_eq_true rfl) (met_X7 (q := a3)) hP hK hO) hP hD hS hA (fun w9 H locs sh hP hD hS => ?_)
  obtain ⟨a4, rfl⟩ := sh
  have hP : va_P D vcls [(q, .inr (2, [.ref a1, .null])), (a1, .inr (3, [.ref a2])), (a2, .inl (ca 4, 40, .inr (.inr (.inl (fun _ => 0))))), (a3, .inr (5, [.ref a4])), (a4, .inl (ca 1, 12, .inl (fun _ => 0)))] H := hP
  have hD : va_D (AQ q sz) [(q, .inr (2, [.ref a1, .null])), (a1, .inr (3, [.ref a2])), (a2, .inl (ca 4, 40, .inr (.inr (.inl (fun _ => 0))))), (a3, .inr (5, [.ref a4])), (a4, .inl (ca 1, 12, .inl (fun _ => 0)))] := hD
  refine jPut (index := 21) (ci := 2) (k := 1) (q0 := 0) (fs := [.ref a1, .null]) hx hb hown hts hK hP hD hS rfl (by decide) (by decide) (by decide +kernel) (by decide) hin rfl rfl (by simp) (by decide +kernel) (fun H locs hP hD hS => ?_)
  have hP : va_P D vcls [(q, .inr (2, [.ref a1, .ref a3])), (a1, .inr (3, [.ref a2])), (a2, .inl (ca 4, 40, .inr (.inr (.inl (fun _ => 0))))), (a3, .inr (5, [.ref a4])), (a4, .inl (ca 1, 12, .inl (fun _ => 0)))] H := hP
  have hD : va_D (AQ q sz) [(q, .inr (2, [.ref a1, .ref a3])), (a1, .inr (3, [.ref a2])), (a2, .inl (ca 4, 40, .inr (.inr (.inl (fun _ => 0))))), (a3, .inr (5, [.ref a4])), (a4, .inl (ca 1, 12, .inl (fun _ => 0)))] := hD
  exact ctRet hx hb hr hlk hsz (by decide +kernel) ⟨a1, a2, a3, a4, rfl⟩ hP hD hS
set_option maxRecDepth 100000 in
set_option maxHeartbeats 8000000 in
theorem met_X9 {q sz : Nat} : Met l (cY mX9_init) (wsM mX9_init) (rmC 3 5 56) (va_Pc [.ref q] (CtP D ca q sz (.inr (7, [.null, .int 0, .int 0])))) (CtQ D q sz (fun w => ∃ a1 a2 a3 a4 a5 : Nat, w = [(q, .inr (7, [.ref a1, .int 0, .int 0])), (a1, .inr (2, [.ref a2, .ref a4])), (a2, .inr (3, [.ref a3])), (a3, .inl (ca 4, 40, .inr (.inr (.inl (fun _ => 0))))), (a4, .inr (5, [.ref a5])), (a5, .inl (ca 1, 12, .inl (fun _ => 0)))])) 5 56 (AQ q sz) := by
  refine jMc (by decide +kernel) (by decide) rfl (by decide) (fun p e s m below meth c hx hb hr hlk hml hown hts hin hsz hP hD hK hO ls hl => ?_)
  have hL : ¬ mX9_init = mL_law := by decide
  have hA : ∀ x, s.heap.size ≤ x → AQ q sz x := fun x h => Or.inr (by omega)
  refine jL hx hb hl hL rfl rfl (fun ls hl => ?_)
  refine jObj (idx := 3) hx hb hml hown hts hl.1 (wA (tb_in 1 138 (by decide +kernel)) rfl) (by decide) ⟨by decide, by decide⟩ (by decide +kernel) ?_
  refine jL hx hb hl hL rfl rfl (fun ls hl => ?_)
  refine jNew (i1 := 9) (ci := 2) (N := 2) (fs := [.null, .null]) hx hb hown hts hK hP hD va_S.rf hA (by decide) (by decide) (wA (tb_in 1 139 (by decide +kernel)) rfl) (wA (tb_in 1 140 (by decide +kernel)) rfl) (wA (tb_in 1 4 (by decide +kernel)) rfl) (fun j hj => by rcases (show j = 0 ∨ j = 1 by omega) with rfl | rfl <;> rfl) (by decide) (by decide) (by decide +kernel) (fun a1 H hP hD hS => ?_)
  refine jA hx hb hown hts hL rfl rfl ?_
  refine ctCall (jIN (mi := mX9_init) (mj := mX4_init) (d' := 2) (mc := 4) (ms := 54) (i := 11) hx hb hml hown hts hl.1 ⟨by decide, by decide⟩ ⟨by decide, by decide⟩ (by decide) (wA (tb_in 1 142 (by decide +kernel)) rfl) (wA (tb_in 1 4 (by decide +kernel)) rfl) (wA (tb_in 1 143 (by decide +kernel)) rfl) rfl (by decide) ⟨by decide, by decide, by decide +kernel⟩ (by decide +kernel) (Nat.le_of_ble_eq_true rfl) (met_X4 (q := a1)) hP hK hO) hP hD hS hA (fun w9 H locs sh hP hD hS => ?_)
  obtain ⟨a2, a3, a4, a5, rfl⟩ := sh
  have hP : va_P D vcls [(q, .inr (7, [.null, .int 0, .int 0])), (a1, .inr (2, [.ref a2, .ref a4])), (a2, .inr (3, [.ref a3])), (a3, .inl (ca 4, 40, .inr (.inr (.inl (fun _ => 0))))), (a4, .inr (5, [.ref a5])), (a5, .inl (ca 1, 12, .inl (fun _ => 0)))] H := hP
  have hD : va_D (AQ q sz) [(q, .inr (7, [.null, .int 0, .int 0])), (a1, .inr (2, [.ref a2, .ref a4])), (a2, .inr (3, [.ref a3])), (a3, .inl (ca 4, 40, .inr (.inr (.inl (fun _ => 0))))), (a4, .inr (5, [.ref a5])), (a5, .inl (ca 1, 12, .inl (fun _ => 0)))] := hD
  refine jPut (index := 12) (ci := 7) (k := 0) (q0 := 0) (fs := [.null, .int 0, .int 0]) hx hb hown hts hK hP hD hS rfl (by decide) (by decide) (by decide +kernel) (by decide) hin rfl rfl (by simp) (by decide +kernel) (fun H locs hP hD hS => ?_)
  have hP : va_P D vcls [(q, .inr (7, [.ref a1, .int 0, .int 0])), (a1, .inr (2, [.ref a2, .ref a4])), (a2, .inr (3, [.ref a3])), (a3, .inl (ca 4, 40, .inr (.inr (.inl (fun _ => 0))))), (a4, .inr (5, [.ref a5])), (a5, .inl (ca 1, 12, .inl (fun _ => 0)))] H := hP
  have hD : va_D (AQ q sz) [(q, .inr (7, [.ref a1, .int 0, .int 0])), (a1, .inr (2, [.ref a2, .ref a4])), (a2, .inr (3, [.ref a3])), (a3, .inl (ca 4, 40, .inr (.inr (.inl (fun _ => 0))))), (a4, .inr (5, [.ref a5])), (a5, .inl (ca 1, 12, .inl (fun _ => 0)))] := hD
  refine jL hx hb hl hL rfl rfl (fun ls hl => ?_)
  refine jA hx hb hown hts hL rfl rfl ?_
  refine jPut (index := 18) (ci := 7) (k := 1) (q0 := 0) (fs := [.ref a1, .int 0, .int 0]) hx hb hown hts hK hP hD hS rfl (by decide) (by decide) (by decide +kernel) (by decide) hin rfl rfl (by simp) (by decide +kernel) (fun H locs hP hD hS => ?_)
  have hP : va_P D vcls [(q, .inr (7, [.ref a1, .int 0, .int 0])), (a1, .inr (2, [.ref a2, .ref a4])), (a2, .inr (3, [.ref a3])), (a3, .inl (ca 4, 40, .inr (.inr (.inl (fun _ => 0))))), (a4, .inr (5, [.ref a5])), (a5, .inl (ca 1, 12, .inl (fun _ => 0)))] H := hP
  have hD : va_D (AQ q sz) [(q, .inr (7, [.ref a1, .int 0, .int 0])), (a1, .inr (2, [.ref a2, .ref a4])), (a2, .inr (3, [.ref a3])), (a3, .inl (ca 4, 40, .inr (.inr (.inl (fun _ => 0))))), (a4, .inr (5, [.ref a5])), (a5, .inl (ca 1, 12, .inl (fun _ => 0)))] := hD
  refine jL hx hb hl hL rfl rfl (fun ls hl => ?_)
  refine jA hx hb hown hts hL rfl rfl ?_
  refine jPut (index := 22) (ci := 7) (k := 2) (q0 := 0) (fs := [.ref a1, .int 0, .int 0]) hx hb hown hts hK hP hD hS rfl (by decide) (by decide) (by decide +kernel) (by decide) hin rfl rfl (by simp) (by decide +kernel) (fun H locs hP hD hS => ?_)
  have hP : va_P D vcls [(q, .inr (7, [.ref a1, .int 0, .int 0])), (a1, .inr (2, [.ref a2, .ref a4])), (a2, .inr (3, [.ref a3])), (a3, .inl (ca 4, 40, .inr (.inr (.inl (fun _ => 0))))), (a4, .inr (5, [.ref a5])), (a5, .inl (ca 1, 12, .inl (fun _ => 0)))] H := hP
  have hD : va_D (AQ q sz) [(q, .inr (7, [.ref a1, .int 0, .int 0])), (a1, .inr (2, [.ref a2, .ref a4])), (a2, .inr (3, [.ref a3])), (a3, .inl (ca 4, 40, .inr (.inr (.inl (fun _ => 0))))), (a4, .inr (5, [.ref a5])), (a5, .inl (ca 1, 12, .inl (fun _ => 0)))] := hD
  exact ctRet hx hb hr hlk hsz (by decide +kernel) ⟨a1, a2, a3, a4, a5, rfl⟩ hP hD hS
set_option maxRecDepth 100000 in
set_option maxHeartbeats 8000000 in
theorem met_X6 {q sz : Nat} : Met l (cY mX6_init) (wsM mX6_init) (rmC 1 5 300) (va_Pc [.ref q] (CtP D ca q sz (.inr (4, [.null, .null, .null, .null, .null, .int 0, .int 0, .int 0, .int 0])))) (CtQ D q sz (fun w => ∃ a1 a2 a3 a4 a5 : Nat, w = [(q, .inr (4, [.ref a1, .ref a2, .ref a3, .ref a4, .ref a5, .int 0, .int 0, .int 0, .int (-1)])), (a1, .inl (ca 2, 60, .inl (fun _ => 0))), (a2, .inl (ca 2, 60, .inl (fun _ => 0))), (a3, .inl (ca 1, 60, .inl (fun _ => 0))), (a4, .inl (ca 1, 60, .inl (fun _ => 0))), (a5, .inl (ca 1, 60, .inl (fun _ => 0)))])) 5 300 (AQ q sz) := by
  refine jMc (by decide +kernel) (by decide) rfl (by decide) (fun p e s m below meth c hx hb hr hlk hml hown hts hin hsz hP hD hK hO ls hl => ?_)
  have hL : ¬ mX6_init = mL_law := by decide
  have hA : ∀ x, s.heap.size ≤ x → AQ q sz x := fun x h => Or.inr (by omega)
  refine jL hx hb hl hL rfl rfl (fun ls hl => ?_)
  refine jObj (idx := 3) hx hb hml hown hts hl.1 (wA (tb_in 1 227 (by decide +kernel)) rfl) (by decide) ⟨by decide, by decide⟩ (by decide +kernel) ?_
  refine jL hx hb hl hL rfl rfl (fun ls hl => ?_)
  refine jA hx hb hown hts hL rfl rfl ?_
  refine jNa (atype := .char) (t0 := 1) (cA0 := ca 2) (ty := .char) (N' := 60) (a0 := (60, .inl (fun _ => 0))) hx hb hts (wA (tb_in 2 16 (by decide +kernel)) rfl) rfl hK rfl hP hD va_S.rf hA (fun _ => rfl) (by decide) (by decide) (by decide) (by decide) (by decide) (by decide +kernel) (fun a1 H hP hD hS => ?_)
  have hP : va_P D vcls [(q, .inr (4, [.null, .null, .null, .null, .null, .int 0, .int 0, .int 0, .int 0])), (a1, .inl (ca 2, 60, .inl (fun _ => 0)))] H := hP
  have hD : va_D (AQ q sz) [(q, .inr (4, [.null, .null, .null, .null, .null, .int 0, .int 0, .int 0, .int 0])), (a1, .inl (ca 2, 60, .inl (fun _ => 0)))] := hD
  refine jPut (index := 9) (ci := 4) (k := 0) (q0 := 0) (fs := [.null, .null, .null, .null, .null, .int 0, .int 0, .int 0, .int 0]) hx hb hown hts hK hP hD hS rfl (by decide) (by decide) (by decide +kernel) (by decide) hin rfl rfl (by simp) (by decide +kernel) (fun H locs hP hD hS => ?_)
  have hP : va_P D vcls [(q, .inr (4, [.ref a1, .null, .null, .null, .null, .int 0, .int 0, .int 0, .int 0])), (a1, .inl (ca 2, 60, .inl (fun _ => 0)))] H := hP
  have hD : va_D (AQ q sz) [(q, .inr (4, [.ref a1, .null, .null, .null, .null, .int 0, .int 0, .int 0, .int 0])), (a1, .inl (ca 2, 60, .inl (fun _ => 0)))] := hD
  refine jL hx hb hl hL rfl rfl (fun ls hl => ?_)
  refine jA hx hb hown hts hL rfl rfl ?_
  refine jNa (atype := .char) (t0 := 1) (cA0 := ca 2) (ty := .char) (N' := 60) (a0 := (60, .inl (fun _ => 0))) hx hb hts (wA (tb_in 2 16 (by decide +kernel)) rfl) rfl hK rfl hP hD hS hA (fun _ => rfl) (by decide) (by decide) (by decide) (by decide) (by decide) (by decide +kernel) (fun a2 H hP hD hS => ?_)
  have hP : va_P D vcls [(q, .inr (4, [.ref a1, .null, .null, .null, .null, .int 0, .int 0, .int 0, .int 0])), (a1, .inl (ca 2, 60, .inl (fun _ => 0))), (a2, .inl (ca 2, 60, .inl (fun _ => 0)))] H := hP
  have hD : va_D (AQ q sz) [(q, .inr (4, [.ref a1, .null, .null, .null, .null, .int 0, .int 0, .int 0, .int 0])), (a1, .inl (ca 2, 60, .inl (fun _ => 0))), (a2, .inl (ca 2, 60, .inl (fun _ => 0)))] := hD
  refine jPut (index := 15) (ci := 4) (k := 1) (q0 := 0) (fs := [.ref a1, .null, .null, .null, .null, .int 0, .int 0, .int 0, .int 0]) hx hb hown hts hK hP hD hS rfl (by decide) (by decide) (by decide +kernel) (by decide) hin rfl rfl (by simp) (by decide +kernel) (fun H locs hP hD hS => ?_)
  have hP : va_P D vcls [(q, .inr (4, [.ref a1, .ref a2, .null, .null, .null, .int 0, .int 0, .int 0, .int 0])), (a1, .inl (ca 2, 60, .inl (fun _ => 0))), (a2, .inl (ca 2, 60, .inl (fun _ => 0)))] H := hP
  have hD : va_D (AQ q sz) [(q, .inr (4, [.ref a1, .ref a2, .null, .null, .null, .int 0, .int 0, .int 0, .int 0])), (a1, .inl (ca 2, 60, .inl (fun _ => 0))), (a2, .inl (ca 2, 60, .inl (fun _ => 0)))] := hD
  refine jL hx hb hl hL rfl rfl (fun ls hl => ?_)
  refine jA hx hb hown hts hL rfl rfl ?_
  refine jNa (atype := .int) (t0 := 0) (cA0 := ca 1) (ty := .int) (N' := 60) (a0 := (60, .inl (fun _ => 0))) hx hb hts (wA (tb_in 1 131 (by decide +kernel)) rfl) rfl hK rfl hP hD hS hA (fun _ => rfl) (by decide) (by decide) (by decide) (by decide) (by decide) (by decide +kernel) (fun a3 H hP hD hS => ?_)
  have hP : va_P D vcls [(q, .inr (4, [.ref a1, .ref a2, .null, .null, .null, .int 0, .int 0, .int 0, .int 0])), (a1, .inl (ca 2, 60, .inl (fun _ => 0))), (a2, .inl (ca 2, 60, .inl (fun _ => 0))), (a3, .inl (ca 1, 60, .inl (fun _ => 0)))] H := hP
  have hD : va_D (AQ q sz) [(q, .inr (4, [.ref a1, .ref a2, .null, .null, .null, .int 0, .int 0, .int 0, .int 0])), (a1, .inl (ca 2, 60, .inl (fun _ => 0))), (a2, .inl (ca 2, 60, .inl (fun _ => 0))), (a3, .inl (ca 1, 60, .inl (fun _ => 0)))] := hD
  refine jPut (index := 18) (ci := 4) (k := 2) (q0 := 0) (fs := [.ref a1, .ref a2, .null, .null, .null, .int 0, .int 0, .int 0, .int 0]) hx hb hown hts hK hP hD hS rfl (by decide) (by decide) (by decide +kernel) (by decide) hin rfl rfl (by simp) (by decide +kernel) (fun H locs hP hD hS => ?_)
  have hP : va_P D vcls [(q, .inr (4, [.ref a1, .ref a2, .ref a3, .null, .null, .int 0, .int 0, .int 0, .int 0])), (a1, .inl (ca 2, 60, .inl (fun _ => 0))), (a2, .inl (ca 2, 60, .inl (fun _ => 0))), (a3, .inl (ca 1, 60, .inl (fun _ => 0)))] H := hP
  have hD : va_D (AQ q sz) [(q, .inr (4, [.ref a1, .ref a2, .ref a3, .null, .null, .int 0, .int 0, .int 0, .int 0])), (a1, .inl (ca 2, 60, .inl (fun _ => 0))), (a2, .inl (ca 2, 60, .inl (fun _ => 0))), (a3, .inl (ca 1, 60, .inl (fun _ => 0)))] := hD
  refine jL hx hb hl hL rfl rfl (fun ls hl => ?_)
  refine jA hx hb hown hts hL rfl rfl ?_
  refine jNa (atype := .int) (t0 := 0) (cA0 := ca 1) (ty := .int) (N' := 60) (a0 := (60, .inl (fun _ => 0))) hx hb hts (wA (tb_in 1 131 (by decide +kernel)) rfl) rfl hK rfl hP hD hS hA (fun _ => rfl) (by decide) (by decide) (by decide) (by decide) (by decide) (by decide +kernel) (fun a4 H hP hD hS => ?_)
  have hP : va_P D vcls [(q, .inr (4, [.ref a1, .ref a2, .ref a3, .null, .null, .int 0, .int 0, .int 0, .int 0])), (a1, .inl (ca 2, 60, .inl (fun _ => 0))), (a2, .inl (ca 2, 60, .inl (fun _ => 0))), (a3, .inl (ca 1, 60, .inl (fun _ => 0))), (a4, .inl (ca 1, 60, .inl (fun _ => 0)))] H := hP
  have hD : va_D (AQ q sz) [(q, .inr (4, [.ref a1, .ref a2, .ref a3, .null, .null, .int 0, .int 0, .int 0, .int 0])), (a1, .inl (ca 2, 60, .inl (fun _ => 0))), (a2, .inl (ca 2, 60, .inl (fun _ => 0))), (a3, .inl (ca 1, 60, .inl (fun _ => 0))), (a4, .inl (ca 1, 60, .inl (fun _ => 0)))] := hD
  refine jPut (index := 22) (ci := 4) (k := 3) (q0 := 0) (fs := [.ref a1, .ref a2, .ref a3, .null, .null, .int 0, .int 0, .int 0, .int 0]) hx hb hown hts hK hP hD hS rfl (by decide) (by decide) (by decide +kernel) (by decide) hin rfl rfl (by simp) (by decide +kernel) (fun H locs hP hD hS => ?_)
  have hP : va_P D vcls [(q, .inr (4, [.ref a1, .ref a2, .ref a3, .ref a4, .null, .int 0, .int 0, .int 0, .int 0])), (a1, .inl (ca 2, 60, .inl (fun _ => 0))), (a2, .inl (ca 2, 60, .inl (fun _ => 0))), (a3, .inl (ca 1, 60, .inl (fun _ => 0))), (a4, .inl (ca 1, 60, .inl (fun _ => 0)))] H := hP
  have hD : va_D (AQ q sz) [(q, .inr (4, [.ref a1, .ref a2, .ref a3, .ref a4, .null, .int 0, .int 0, .int 0, .int 0])), (a1, .inl (ca 2, 60, .inl (fun _ => 0))), (a2, .inl (ca 2, 60, .inl (fun _ => 0))), (a3, .inl (ca 1, 60, .inl (fun _ => 0))), (a4, .inl (ca 1, 60, .inl (fun _ => 0)))] := hD
  refine jL hx hb hl hL rfl rfl (fun ls hl => ?_)
  refine jA hx hb hown hts hL rfl rfl ?_
  refine jNa (atype := .int) (t0 := 0) (cA0 := ca 1) (ty := .int) (N' := 60) (a0 := (60, .inl (fun _ => 0))) hx hb hts (wA (tb_in 1 131 (by decide +kernel)) rfl) rfl hK rfl hP hD hS hA (fun _ => rfl) (by decide) (by decide) (by decide) (by decide) (by decide) (by decide +kernel) (fun a5 H hP hD hS => ?_)
  have hP : va_P D vcls [(q, .inr (4, [.ref a1, .ref a2, .ref a3, .ref a4, .null, .int 0, .int 0, .int 0, .int 0])), (a1, .inl (ca 2, 60, .inl (fun _ => 0))), (a2, .inl (ca 2, 60, .inl (fun _ => 0))), (a3, .inl (ca 1, 60, .inl (fun _ => 0))), (a4, .inl (ca 1, 60, .inl (fun _ => 0))), (a5, .inl (ca 1, 60, .inl (fun _ => 0)))] H := hP
  have hD : va_D (AQ q sz) [(q, .inr (4, [.ref a1, .ref a2, .ref a3, .ref a4, .null, .int 0, .int 0, .int 0, .int 0])), (a1, .inl (ca 2, 60, .inl (fun _ => 0))), (a2, .inl (ca 2, 60, .inl (fun _ => 0))), (a3, .inl (ca 1, 60, .inl (fun _ => 0))), (a4, .inl (ca 1, 60, .inl (fun _ => 0))), (a5, .inl (ca 1, 60, .inl (fun _ => 0)))] := hD
  refine jPut (index := 25) (ci := 4) (k := 4) (q0 := 0) (fs := [.ref a1, .ref a2, .ref a3, .ref a4, .null, .int 0, .int 0, .int 0, .int 0]) hx hb hown hts hK hP hD hS rfl (by decide) (by decide) (by decide +kernel) (by decide) hin rfl rfl (by simp) (by decide +kernel) (fun H locs hP hD hS => ?_)
  have hP : va_P D vcls [(q, .inr (4, [.ref a1, .ref a2, .ref a3, .ref a4, .ref a5, .int 0, .int 0, .int 0, .int 0])), (a1, .inl (ca 2, 60, .inl (fun _ => 0))), (a2, .inl (ca 2, 60, .inl (fun _ => 0))), (a3, .inl (ca 1, 60, .inl (fun _ => 0))), (a4, .inl (ca 1, 60, .inl (fun _ => 0))), (a5, .inl (ca 1, 60, .inl (fun _ => 0)))] H := hP
  have hD : va_D (AQ q sz) [(q, .inr (4, [.ref a1, .ref a2, .ref a3, .ref a4, .ref a5, .int 0, .int 0, .int 0, .int 0])), (a1, .inl (ca 2, 60, .inl (fun _ => 0))), (a2, .inl (ca 2, 60, .inl (fun _ => 0))), (a3, .inl (ca 1, 60, .inl (fun _ => 0))), (a4, .inl (ca 1, 60, .inl (fun _ => 0))), (a5, .inl (ca 1, 60, .inl (fun _ => 0)))] := hD
  refine jL hx hb hl hL rfl rfl (fun ls hl => ?_)
  refine jA hx hb hown hts hL rfl rfl ?_
  refine jPut (index := 28) (ci := 4) (k := 5) (q0 := 0) (fs := [.ref a1, .ref a2, .ref a3, .ref a4, .ref a5, .int 0, .int 0, .int 0, .int 0]) hx hb hown hts hK hP hD hS rfl (by decide) (by decide) (by decide +kernel) (by decide) hin rfl rfl (by simp) (by decide +kernel) (fun H locs hP hD hS => ?_)
  have hP : va_P D vcls [(q, .inr (4, [.ref a1, .ref a2, .ref a3, .ref a4, .ref a5, .int 0, .int 0, .int 0, .int 0])), (a1, .inl (ca 2, 60, .inl (fun _ => 0))), (a2, .inl (ca 2, 60, .inl (fun _ => 0))), (a3, .inl (ca 1, 60, .inl (fun _ => 0))), (a4, .inl (ca 1, 60, .inl (fun _ => 0))), (a5, .inl (ca 1, 60, .inl (fun _ => 0)))] H := hP
  have hD : va_D (AQ q sz) [(q, .inr (4, [.ref a1, .ref a2, .ref a3, .ref a4, .ref a5, .int 0, .int 0, .int 0, .int 0])), (a1, .inl (ca 2, 60, .inl (fun _ => 0))), (a2, .inl (ca 2, 60, .inl (fun _ => 0))), (a3, .inl (ca 1, 60, .inl (fun _ => 0))), (a4, .inl (ca 1, 60, .inl (fun _ => 0))), (a5, .inl (ca 1, 60, .inl (fun _ => 0)))] := hD
  refine jL hx hb hl hL rfl rfl (fun ls hl => ?_)
  refine jA hx hb hown hts hL rfl rfl ?_
  refine jPut (index := 32) (ci := 4) (k := 6) (q0 := 0) (fs := [.ref a1, .ref a2, .ref a3, .ref a4, .ref a5, .int 0, .int 0, .int 0, .int 0]) hx hb hown hts hK hP hD hS rfl (by decide) (by decide) (by decide +kernel) (by decide) hin rfl rfl (by simp) (by decide +kernel) (fun H locs hP hD hS => ?_)
  have hP : va_P D vcls [(q, .inr (4, [.ref a1, .ref a2, .ref a3, .ref a4, .ref a5, .int 0, .int 0, .int 0, .int 0])), (a1, .inl (ca 2, 60, .inl (fun _ => 0))), (a2, .inl (ca 2, 60, .inl (fun _ => 0))), (a3, .inl (ca 1, 60, .inl (fun _ => 0))), (a4, .inl (ca 1, 60, .inl (fun _ => 0))), (a5, .inl (ca 1, 60, .inl (fun _ => 0)))] H := hP
  have hD : va_D (AQ q sz) [(q, .inr (4, [.ref a1, .ref a2, .ref a3, .ref a4, .ref a5, .int 0, .int 0, .int 0, .int 0])), (a1, .inl (ca 2, 60, .inl (fun _ => 0))), (a2, .inl (ca 2, 60, .inl (fun _ => 0))), (a3, .inl (ca 1, 60, .inl (fun _ => 0))), (a4, .inl (ca 1, 60, .inl (fun _ => 0))), (a5, .inl (ca 1, 60, .inl (fun _ => 0)))] := hD
  refine jL hx hb hl hL rfl rfl (fun ls hl => ?_)
  refine jA hx hb hown hts hL rfl rfl ?_
  refine jPut (index := 35) (ci := 4) (k := 7) (q0 := 0) (fs := [.ref a1, .ref a2, .ref a3, .ref a4, .ref a5, .int 0, .int 0, .int 0, .int 0]) hx hb hown hts hK hP hD hS rfl (by decide) (by decide) (by decide +kernel) (by decide) hin rfl rfl (by simp) (by decide +kernel) (fun H locs hP hD hS => ?_)
  have hP : va_P D vcls [(q, .inr (4, [.ref a1, .ref a2, .ref a3, .ref a4, .ref a5, .int 0, .int 0, .int 0, .int 0])), (a1, .inl (ca 2, 60, .inl (fun _ => 0))), (a2, .inl (ca 2, 60, .inl (fun _ => 0))), (a3, .inl (ca 1, 60, .inl (fun _ => 0))), (a4, .inl (ca 1, 60, .inl (fun _ => 0))), (a5, .inl (ca 1, 60, .inl (fun _ => 0)))] H := hP
  have hD : va_D (AQ q sz) [(q, .inr (4, [.ref a1, .ref a2, .ref a3, .ref a4, .ref a5, .int 0, .int 0, .int 0, .int 0])), (a1, .inl (ca 2, 60, .inl (fun _ => 0))), (a2, .inl (ca 2, 60, .inl (fun _ => 0))), (a3, .inl (ca 1, 60, .inl (fun _ => 0))), (a4, .inl (ca 1, 60, .inl (fun _ => 0))), (a5, .inl (ca 1, 60, .inl (fun _ => 0)))] := hD
  refine jL hx hb hl hL rfl rfl (fun ls hl => ?_)
  refine jA hx hb hown hts hL rfl rfl ?_
  refine jPut (index := 38) (ci := 4) (k := 8) (q0 := 0) (fs := [.ref a1, .ref a2, .ref a3, .ref a4, .ref a5, .int 0, .int 0, .int 0, .int 0]) hx hb hown hts hK hP hD hS rfl (by decide) (by decide) (by decide +kernel) (by decide) hin rfl rfl (by simp) (by decide +kernel) (fun H locs hP hD hS => ?_)
  have hP : va_P D vcls [(q, .inr (4, [.ref a1, .ref a2, .ref a3, .ref a4, .ref a5, .int 0, .int 0, .int 0, .int (-1)])), (a1, .inl (ca 2, 60, .inl (fun _ => 0))), (a2, .inl (ca 2, 60, .inl (fun _ => 0))), (a3, .inl (ca 1, 60, .inl (fun _ => 0))), (a4, .inl (ca 1, 60, .inl (fun _ => 0))), (a5, .inl (ca 1, 60, .inl (fun _ => 0)))] H := hP
  have hD : va_D (AQ q sz) [(q, .inr (4, [.ref a1, .ref a2, .ref a3, .ref a4, .ref a5, .int 0, .int 0, .int 0, .int (-1)])), (a1, .inl (ca 2, 60, .inl (fun _ => 0))), (a2, .inl (ca 2, 60, .inl (fun _ => 0))), (a3, .inl (ca 1, 60, .inl (fun _ => 0))), (a4, .inl (ca 1, 60, .inl (fun _ => 0))), (a5, .inl (ca 1, 60, .inl (fun _ => 0)))] := hD
  exact ctRet hx hb hr hlk hsz (by decide +kernel) ⟨a1, a2, a3, a4, a5, rfl⟩ hP hD hS
end
end
