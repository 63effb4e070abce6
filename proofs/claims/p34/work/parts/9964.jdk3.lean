noncomputable section
variable {p : Program} {l : Launch} {e : Env} {R : Room} {s : State} {m : MethodId} {args : Array Value} {below : List Frame} {meth : Method} {c : Code} {H H0 : Heap} {locs : List Loc} {cells slots : Nat} {Q : State → Prop} {ls : Array Slot}
/-- one place of the search -/
theorem jcStep {mi : Nat} (hmi : mi = mJ1_indexOfChar_4cfef) {sa va i : Nat} {x y : Int32} {B : List Int32} {Q : State → Prop} (hx : p.tables.exec = Jvm.exec) (hb : c.code = cB mi) (hT : va_T .byte va B.length (fun j => .int (B.getD j 0)) (fun _ => False) s s.heap) (hi : i < B.length) (hn : B.length < 100) (hy : B.getD i 0 = y)
    (hl : lv_has ls (cM mi) (lm id [(5, .int (nI i)), (4, .int x), (0, .ref va), (1, .int x), (2, .int 0), (3, .int (nI B.length))]))
    (k1 : y = x → ∀ ls' : Array Slot, lv_has ls' (cM mi) (lm id [(5, .int (nI i)), (4, .int x), (0, .ref va), (1, .int x), (2, .int 0), (3, .int (nI B.length))]) → W p l e R s m args below meth c s.heap [] 0 0 Q (F0 m 24 ls' [.int (nI i)]))
    (k2 : y ≠ x → ∀ ls' : Array Slot, lv_has ls' (cM mi) (lm id [(5, .int (nI (i + 1))), (4, .int x), (0, .ref va), (1, .int x), (2, .int 0), (3, .int (nI B.length))]) → W p l e R s m args below meth c s.heap [] 0 0 Q (F0 m 7 ls' [])) : W p l e R s m args below meth c s.heap [] 0 0 Q (F0 m 7 ls []) := by
  subst hmi
  have hL : ¬ mJ1_indexOfChar_4cfef = mL_law := by decide
  refine jL hx hb hl hL rfl rfl (fun ls1 hl1 => ?_)
  refine jL hx hb hl1 hL rfl rfl (fun ls2 hl2 => ?_)
  refine jB hx hb hL rfl rfl ?_
  rw [if_neg (show ¬ (decide (nI B.length ≤ nI i) = true) by rw [decide_eq_false (nI_ge hi (by omega))]; decide)]
  refine jL hx hb hl2 hL rfl rfl (fun ls3 hl3 => ?_)
  refine jL hx hb hl3 hL rfl rfl (fun ls4 hl4 => ?_)
  refine va_tb hx hb hT va_S.rf (vp_in_nI hi (by omega)) (v := .int y) (by rw [nI_clamp (by omega), hy]) (by decide +kernel) ?_
  refine jL hx hb hl4 hL rfl rfl (fun ls5 hl5 => ?_)
  refine jB hx hb hL rfl rfl ?_
  by_cases e1 : y = x
  · rw [if_neg (show ¬ (decide (y ≠ x) = true) by rw [decide_eq_false (fun z => z e1)]; decide)]
    refine jL hx hb hl5 hL rfl rfl (fun ls6 hl6 => ?_)
    exact k1 e1 ls6 hl6
  · rw [if_pos (show decide (y ≠ x) = true from decide_eq_true e1)]
    refine jL hx hb hl5 hL rfl rfl (fun ls6 hl6 => ?_)
    refine jB hx hb hL rfl rfl ?_
    rw [if_pos rfl]
    refine k2 e1 ls6 ?_
    rw [nI_1] at hl6
    exact hl6
/-- StringLatin1.indexOfChar over "rw" -/
theorem met_Jix {sa va : Nat} {x : Int32} (h8 : x.toInt8.toInt32 = x) : Met l (cY mJ1_indexOfChar_4cfef) (wsM mJ1_indexOfChar_4cfef) (rmX 0) (va_Pc [.ref va, .int x, .int 0, .int (nI 2)] (ZSp rwB sa va)) (QJ (some (.int (rwI x)))) 0 0 (fun _ => False) := by
  refine jM (pf_ok _ (by decide)) (by decide) (Nat.le_of_ble_eq_true rfl) (fun p e s m below meth c hx hb hr hlk hml hown hts hZ ls hl => ?_)
  have hL : ¬ mJ1_indexOfChar_4cfef = mL_law := by decide
  have e1 : lv_args 0 [.ref va, .int x, .int 0, .int (nI 2)] = [(0, .ref va), (1, .int x), (2, .int 0), (3, .int (nI 2))] := rfl
  rw [e1] at hl
  have hT : va_T .byte va rwB.length (fun j => .int (rwB.getD j 0)) (fun _ => False) s s.heap := (hZ.1.1 0 (by decide)).2.2.2
  refine jL hx hb hl hL rfl rfl (fun ls1 hl1 => ?_)
  refine lv_i2b hx hb (show decode (cB mJ1_indexOfChar_4cfef) 1 = _ by decide +kernel) h8 ?_
  refine jL hx hb hl1 hL (pc := 2) rfl rfl (fun ls2 hl2 => ?_)
  refine jL hx hb hl2 hL rfl rfl (fun ls3 hl3 => ?_)
  refine jL hx hb hl3 hL rfl rfl (fun ls4 hl4 => ?_)
  refine jcStep (sa := sa) (i := 0) (y := 114) rfl hx hb hT (by decide) (by decide) rfl hl4 (fun e1 ls5 hl5 => ?_) (fun n1 ls5 hl5 => ?_)
  · have e2 : rwI x = nI 0 := by unfold rwI; rw [if_pos e1.symm]; rfl
    rw [e2]
    exact jR hL rfl hx hb hr hlk va_S.rf rfl
  · refine jcStep (sa := sa) (i := 1) (y := 119) rfl hx hb hT (by decide) (by decide) rfl hl5 (fun e1 ls6 hl6 => ?_) (fun n2 ls6 hl6 => ?_)
    · have e2 : rwI x = nI 1 := by unfold rwI; rw [if_neg (fun z => n1 z.symm), if_pos e1.symm]; rfl
      rw [e2]
      exact jR hL rfl hx hb hr hlk va_S.rf rfl
    · have e2 : rwI x = -1 := by unfold rwI; rw [if_neg (fun z => n1 z.symm), if_neg (fun z => n2 z.symm)]
      rw [e2]
      refine jL hx hb hl6 hL rfl rfl (fun ls7 hl7 => ?_)
      refine jL hx hb hl7 hL rfl rfl (fun ls8 hl8 => ?_)
      refine jB hx hb hL rfl rfl ?_
      rw [if_pos (by decide)]
      refine jA hx hb hown hts hL rfl rfl ?_
      exact jR hL rfl hx hb hr hlk va_S.rf rfl
/-- StringLatin1.indexOf -/
theorem met_Ji1 {sa va : Nat} {x : Int32} (h8 : x.toInt8.toInt32 = x) (h1 : ¬ x < 0) (h2 : ¬ 255 < x) : Met l (cY mJ1_indexOf_4cfef) (wsM mJ1_indexOf_4cfef) (rmX 1) (va_Pc [.ref va, .int x, .int 0, .int (nI 2)] (ZSp rwB sa va)) (QJ (some (.int (rwI x)))) 0 0 (fun _ => False) := by
  refine jM (pf_ok _ (by decide)) (by decide) (Nat.le_of_ble_eq_true rfl) (fun p e s m below meth c hx hb hr hlk hml hown hts hZ ls hl => ?_)
  have hL : ¬ mJ1_indexOf_4cfef = mL_law := by decide
  have e1 : lv_args 0 [.ref va, .int x, .int 0, .int (nI 2)] = [(0, .ref va), (1, .int x), (2, .int 0), (3, .int (nI 2))] := rfl
  rw [e1] at hl
  have hT : va_T .byte va rwB.length (fun j => .int (rwB.getD j 0)) (fun _ => False) s s.heap := (hZ.1.1 0 (by decide)).2.2.2
  refine jL hx hb hl hL rfl rfl (fun ls1 hl1 => ?_)
  refine callJ (rest := []) (jS (mi := mJ1_indexOf_4cfef) (mj := mJ1_canEncode_9a6ad) (na := 1) (d' := 0) (i := 88) (own := oN 16) (As := [.int x]) hx hb hml hown hts hl1.1 ⟨by decide, by decide⟩ ⟨Nat.zero_le _, Nat.zero_le _⟩ (wML (by decide +kernel)) (wST (by decide +kernel)) (wIN (o := 16) (by decide +kernel)) (cdA (by decide)) ⟨by decide, by decide, by decide +kernel⟩ (by decide +kernel) rfl rfl (by decide) (met_Jce h1 h2) ⟨tt_blind, fun U _ _ => ⟨rfl, trivial⟩⟩) (fun H1 locs1 hS1 hl9 => ?_)
  have hS2 := va_S1 va_S.rf hS1 hl9
  refine jB hx hb hL rfl rfl ?_
  rw [if_pos (by decide)]
  refine jL hx hb hl1 hL rfl rfl (fun ls2 hl2 => ?_)
  refine jA hx hb hown hts hL rfl rfl ?_
  refine va_mmax hx hb (hml.trans hl2.1.symm) (own := oN 16) (index := 92) hown (hts _ (wA (pP_word (o := 16) (i := 92) (r3 := 2) (by decide +kernel)) rfl)) (hts _ (wA w_maxS rfl)) (hts _ (wA w_mathI rfl)) (hts _ (wA w_maxC rfl)) (by decide) (Nat.le_of_ble_eq_true rfl) (Nat.zero_le _) (Nat.zero_le _) (by decide +kernel) ?_
  rw [if_neg (by decide)]
  refine jL hx hb hl2 hL (pc := 14) rfl rfl (fun ls3 hl3 => ?_)
  refine jL hx hb hl3 hL rfl rfl (fun ls4 hl4 => ?_)
  refine jL hx hb hl4 hL rfl rfl (fun ls5 hl5 => ?_)
  refine va_tlen hx hb hT hS2 (v := nI 2) rfl (by decide +kernel) ?_
  refine va_mmin hx hb (hml.trans hl5.1.symm) (own := oN 16) (index := 38) hown (hts _ (wA (pP_word (o := 16) (i := 38) (r3 := 3) (by decide +kernel)) rfl)) (hts _ (wA w_minS rfl)) (hts _ (wA w_mathI rfl)) (hts _ (wA w_minC rfl)) (by decide) (Nat.le_of_ble_eq_true rfl) (Nat.zero_le _) (Nat.zero_le _) (by decide +kernel) ?_
  rw [if_neg (by decide)]
  refine jL hx hb hl5 hL (pc := 21) rfl rfl (fun ls6 hl6 => ?_)
  refine jL hx hb hl6 hL rfl rfl (fun ls7 hl7 => ?_)
  refine jL hx hb hl7 hL rfl rfl (fun ls8 hl8 => ?_)
  refine jB hx hb hL rfl rfl ?_
  rw [if_pos (show decide ((0 : Int32) < nI 2) = true by decide)]
  refine jL hx hb hl8 hL rfl rfl (fun ls9 hl10 => ?_)
  refine jL hx hb hl10 hL rfl rfl (fun ls11 hl11 => ?_)
  refine jL hx hb hl11 hL rfl rfl (fun ls12 hl12 => ?_)
  refine jL hx hb hl12 hL rfl rfl (fun ls13 hl13 => ?_)
  have hZ1 : ZS rwB sa va (fun _ => False) s H1 := hZ.kept hS1.2.1
  refine callJ (rest := []) (jS (mi := mJ1_indexOf_4cfef) (mj := mJ1_indexOfChar_4cfef) (na := 4) (d' := 0) (i := 95) (own := oN 16) (As := [.ref va, .int x, .int 0, .int (nI 2)]) hx hb hml hown hts hl13.1 ⟨by decide, by decide⟩ ⟨Nat.zero_le _, Nat.zero_le _⟩ (wML (by decide +kernel)) (wST (by decide +kernel)) (wIN (o := 16) (by decide +kernel)) (cdA (by decide)) ⟨by decide, by decide, by decide +kernel⟩ (by decide +kernel) rfl rfl (Nat.le_of_ble_eq_true rfl) (met_Jix (sa := sa) h8) ⟨ZSp_blind, fun U hU hW => ⟨rfl, by show ZS rwB sa va _ U U.heap; rw [hU]; exact hZ1.moved hW.alike⟩⟩) (fun H2 locs2 hS3 hl14 => ?_)
  exact jR hL rfl hx hb hr hlk (va_S1 hS2 hS3 hl14) rfl
/-- String.indexOf(int, int) -/
theorem met_Ji2 {sa va : Nat} {x : Int32} (h8 : x.toInt8.toInt32 = x) (h1 : ¬ x < 0) (h2 : ¬ 255 < x) : Met l (cY mJ0_indexOf_7cf53) (wsM mJ0_indexOf_7cf53) (rmX 2) (va_Pc [.ref sa, .int x, .int 0] (ZSp rwB sa va)) (QJ (some (.int (rwI x)))) 0 0 (fun _ => False) := by
  refine jM (pf_ok _ (by decide)) (by decide) (Nat.le_of_ble_eq_true rfl) (fun p e s m below meth c hx hb hr hlk hml hown hts hZ ls hl => ?_)
  have hL : ¬ mJ0_indexOf_7cf53 = mL_law := by decide
  have e1 : lv_args 0 [.ref sa, .int x, .int 0] = [(0, .ref sa), (1, .int x), (2, .int 0)] := rfl
  rw [e1] at hl
  obtain ⟨cell, r1, r2, r3⟩ := vk_recv hZ.1 (i := 0) (by decide) va_S.rf
  refine jL hx hb hl hL rfl rfl (fun ls1 hl1 => ?_)
  refine callJ (rest := []) (jV (mi := mJ0_indexOf_7cf53) (mj := mJ0_isLatin1_aae02) (na := 0) (d' := 0) (i := 492) (own := oN 15) (b := sa) (As := []) hx hb hml hown hts hl1.1 ⟨by decide, by decide⟩ ⟨Nat.zero_le _, Nat.zero_le _⟩ (wML (by decide +kernel)) (wIM (by decide +kernel)) (wSE (by decide +kernel)) (wIN (o := 15) (by decide +kernel)) (cdA (by decide)) ⟨by decide, by decide, by decide +kernel⟩ (by decide +kernel) rfl rfl (by decide) (met_JL (B := rwB) (sa := sa) (va := va)) ⟨ZSp_blind, ⟨cell, r1, r2, r3⟩, fun U hU hW => ⟨rfl, by show ZS rwB sa va _ U U.heap; rw [hU]; exact hZ.moved hW.alike⟩⟩) (fun H1 locs1 hS1 hl9 => ?_)
  have hS2 := va_S1 va_S.rf hS1 hl9
  have hZ1 : ZS rwB sa va (fun _ => False) s H1 := hZ.kept hS1.2.1
  refine jB hx hb hL rfl rfl ?_
  rw [if_neg (by decide)]
  refine jL hx hb hl1 hL rfl rfl (fun ls2 hl2 => ?_)
  refine vk_getf hx hb (hZ.1.1 0 (by decide)).2.2.1 hS2 (own := "java/lang/String") hown (hts _ (wA (tb_in 6 80 (show (tb 6)[80]? = some (Jvm.Cond.fieldLink "java/lang/String" (9 : Nat) "java/lang/String" "value" "[B") by decide +kernel)) rfl)) (fun x h => h) (by decide +kernel) ?_
  refine jL hx hb hl2 hL rfl rfl (fun ls3 hl3 => ?_)
  refine jL hx hb hl3 hL rfl rfl (fun ls4 hl4 => ?_)
  refine jL hx hb hl4 hL rfl rfl (fun ls5 hl5 => ?_)
  obtain ⟨cell, r1, r2, r3⟩ := vk_recv hZ.1 (i := 0) (by decide) hS2
  refine callJ (rest := [.int 0, .int x, .ref va]) (jV (mi := mJ0_indexOf_7cf53) (mj := mJ0_length_8abf5) (na := 0) (d' := 1) (i := 505) (own := oN 15) (b := sa) (As := []) hx hb hml hown hts hl5.1 ⟨by decide, by decide⟩ ⟨Nat.zero_le _, Nat.zero_le _⟩ (wML (by decide +kernel)) (wIM (by decide +kernel)) (wSE (by decide +kernel)) (wIN (o := 15) (by decide +kernel)) (cdA (by decide)) ⟨by decide, by decide, by decide +kernel⟩ (by decide +kernel) rfl rfl (Nat.le_of_ble_eq_true rfl) (met_Jlen (B := rwB) (sa := sa) (va := va)) ⟨ZSp_blind, ⟨cell, r1, r2, r3⟩, fun U hU hW => ⟨rfl, by show ZS rwB sa va _ U U.heap; rw [hU]; exact hZ1.moved hW.alike⟩⟩) (fun H2 locs2 hS3 hl10 => ?_)
  have hS4 := va_S1 hS2 hS3 hl10
  have hZ2 : ZS rwB sa va (fun _ => False) s H2 := hZ1.kept hS3.2.1
  refine callJ (rest := []) (jS (mi := mJ0_indexOf_7cf53) (mj := mJ1_indexOf_4cfef) (na := 4) (d' := 1) (i := 637) (own := oN 15) (As := [.ref va, .int x, .int 0, .int (nI 2)]) hx hb hml hown hts hl5.1 ⟨by decide, by decide⟩ ⟨Nat.zero_le _, Nat.zero_le _⟩ (wML (by decide +kernel)) (wST (by decide +kernel)) (wIN (o := 16) (by decide +kernel)) (cdA (by decide)) ⟨by decide, by decide, by decide +kernel⟩ (by decide +kernel) rfl rfl (by decide) (met_Ji1 (sa := sa) h8 h1 h2) ⟨ZSp_blind, fun U hU hW => ⟨rfl, by show ZS rwB sa va _ U U.heap; rw [hU]; exact hZ2.moved hW.alike⟩⟩) (fun H3 locs3 hS5 hl11 => ?_)
  refine jB hx hb hL rfl rfl ?_
  rw [if_pos rfl]
  exact jR hL rfl hx hb hr hlk (va_S1 hS4 hS5 hl11) rfl
/-- String.indexOf(int) -/
theorem met_Ji {sa va : Nat} {x : Int32} (h8 : x.toInt8.toInt32 = x) (h1 : ¬ x < 0) (h2 : ¬ 255 < x) : Met l (cY mJ0_indexOf_0f7a4) (wsM mJ0_indexOf_0f7a4) (rmX 3) (va_Pc [.ref sa, .int x] (ZSp rwB sa va)) (QJ (some (.int (rwI x)))) 0 0 (fun _ => False) := by
  refine jM (pf_ok _ (by decide)) (by decide) (Nat.le_of_ble_eq_true rfl) (fun p e s m below meth c hx hb hr hlk hml hown hts hZ ls hl => ?_)
  have hL : ¬ mJ0_indexOf_0f7a4 = mL_law := by decide
  have e1 : lv_args 0 [.ref sa, .int x] = [(0, .ref sa), (1, .int x)] := rfl
  rw [e1] at hl
  obtain ⟨cell, r1, r2, r3⟩ := vk_recv hZ.1 (i := 0) (by decide) va_S.rf
  refine jL hx hb hl hL rfl rfl (fun ls1 hl1 => ?_)
  refine jL hx hb hl1 hL rfl rfl (fun ls2 hl2 => ?_)
  refine jA hx hb hown hts hL rfl rfl ?_
  refine callJ (rest := []) (jV (mi := mJ0_indexOf_0f7a4) (mj := mJ0_indexOf_7cf53) (na := 2) (d' := 2) (i := 633) (own := oN 15) (b := sa) (As := [.int x, .int 0]) hx hb hml hown hts hl2.1 ⟨by decide, by decide⟩ ⟨Nat.zero_le _, Nat.zero_le _⟩ (wML (by decide +kernel)) (wIM (by decide +kernel)) (wSE (by decide +kernel)) (wIN (o := 15) (by decide +kernel)) (cdA (by decide)) ⟨by decide, by decide, by decide +kernel⟩ (by decide +kernel) rfl rfl (by decide) (met_Ji2 (sa := sa) (va := va) h8 h1 h2) ⟨ZSp_blind, ⟨cell, r1, r2, r3⟩, fun U hU hW => ⟨rfl, by show ZS rwB sa va _ U U.heap; rw [hU]; exact hZ.moved hW.alike⟩⟩) (fun H1 locs1 hS1 hl9 => ?_)
  exact jR hL rfl hx hb hr hlk (va_S1 va_S.rf hS1 hl9) rfl
end
