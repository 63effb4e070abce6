-- needs: 9969
noncomputable section
variable {p : Program} {l : Launch} {e : Env} {R : Room} {s : State} {m : MethodId} {args : Array Value} {below : List Frame} {meth : Method} {c : Code} {H H0 : Heap} {locs : List Loc} {cells slots : Nat} {Q : State → Prop} {ls : Array Slot}
def BF : String := "Ljava/util/function/BiFunction;"
def sgB : List Int32 := [116, 109, 98, 102]
/-- what the literal's char wants of the machine: the String, two statics -/
def ZS (sa va : Nat) (A : Nat → Prop) (U : State) (H : Heap) : Prop := vk_S 1 [4] [sgB] (fun _ => sa) (fun _ => va) A U H ∧ va_Z "java/lang/String" "COMPACT_STRINGS" "Z" (.int 1) A U H ∧ va_Zq "jdk/internal/util/Preconditions" "SIOOBE_FORMATTER" BF A U H
theorem ZS.moved {sa va : Nat} {A : Nat → Prop} {u U : State} {H : Heap} (hvm : u.vm.Alike U.vm) (h : ZS sa va A u H) : ZS sa va A U H := ⟨h.1.moved hvm, h.2.1.moved hvm, h.2.2.moved hvm⟩
theorem ZS.kept {sa va : Nat} {A : Nat → Prop} {U : State} {H H1 : Heap} (h : ZS sa va A U H) (hq : ∀ a : Nat, a < H.size → ¬ A a → H1[a]? = H[a]?) : ZS sa va A U H1 := ⟨h.1.kept hq, h.2.1.kept hq, h.2.2.kept hq⟩
theorem ZS.narrow {sa va : Nat} {A B : Nat → Prop} {U : State} {H : Heap} (h : ZS sa va A U H) (hAB : ∀ q, B q → A q) : ZS sa va B U H := ⟨h.1.narrow hAB, h.2.1.narrow hAB, h.2.2.narrow hAB⟩
def ZSp (sa va : Nat) (U : State) : Prop := ZS sa va (fun _ => False) U U.heap
theorem ZSp_blind {sa va : Nat} {av : List Value} : FrameBlind (va_Pc av (ZSp sa va)) := fun a U g mk q => ⟨q.1, ZS.moved (u := U) (U := U.calling g mk a) (Vm.Alike.refl U.vm) q.2⟩
theorem tt_blind {av : List Value} : FrameBlind (va_Pc av (fun _ => True)) := fun a U g mk q => ⟨q.1, trivial⟩
set_option maxRecDepth 100000 in
theorem w7 : (tb 7)[18]? = some (Cond.code (cY mJ0_charAt_5068e) (cB mJ0_charAt_5068e) (cM mJ0_charAt_5068e) (cR mJ0_charAt_5068e)) ∧ (tb 7)[19]? = some (Cond.methodLink "java/lang/String" 492 (cY mJ0_isLatin1_aae02)) ∧ (tb 7)[20]? = some (Cond.instanceMethod (cY mJ0_isLatin1_aae02)) ∧ (tb 7)[21]? = some (Cond.selects (cY mJ0_isLatin1_aae02).cls (cY mJ0_isLatin1_aae02) (cY mJ0_isLatin1_aae02)) ∧ (tb 7)[23]? = some (Cond.fieldLink "java/lang/String" 38 "java/lang/String" "COMPACT_STRINGS" "Z") ∧ (tb 7)[25]? = some (Cond.methodLink "java/lang/String" 495 (cY mJ1_charAt_3b067)) ∧ (tb 7)[26]? = some (Cond.static (cY mJ1_charAt_3b067)) ∧ (tb 7)[28]? = some (Cond.methodLink "java/lang/StringLatin1" 9 (cY mJ0_checkIndex_df160)) ∧ (tb 7)[29]? = some (Cond.static (cY mJ0_checkIndex_df160)) ∧ (tb 7)[31]? = some (Cond.fieldLink "java/lang/String" 1053 "jdk/internal/util/Preconditions" "SIOOBE_FORMATTER" BF) ∧ (tb 7)[33]? = some (Cond.methodLink "java/lang/String" 1059 (cY mJ3_checkIndex_8e157)) ∧ (tb 7)[34]? = some (Cond.static (cY mJ3_checkIndex_8e157)) ∧ (tb 7)[209]? = some (Cond.fieldLink "java/lang/String" 15 "java/lang/String" "coder" "B") ∧ (tb 7)[210]? = some (Cond.fieldLink "java/lang/String" 9 "java/lang/String" "value" "[B") ∧ (tb 7)[15]? = some (Cond.methodLink "SawnIceModel" 216 (cY mJ0_charAt_5068e)) ∧ (tb 7)[16]? = some (Cond.instanceMethod (cY mJ0_charAt_5068e)) ∧ (tb 7)[17]? = some (Cond.selects (cY mJ0_charAt_5068e).cls (cY mJ0_charAt_5068e) (cY mJ0_charAt_5068e)) ∧ (tb 7)[14]? = some (Cond.stringRef "SawnIceModel" 214 "tmbf") := by decide +kernel
set_option maxRecDepth 100000 in
theorem w1 : (tb 1)[16]? = some (Cond.initialized "java/lang/String") ∧ (tb 1)[25]? = some (Cond.initialized "java/lang/StringLatin1") ∧ (tb 1)[26]? = some (Cond.initialized "jdk/internal/util/Preconditions") := by decide +kernel
theorem cdA {mj : Nat} (h : mj ∈ cdd) : Cond.code (cY mj) (cB mj) (cM mj) (cR mj) ∈ wAll := wA (cdd_ok mj h) rfl
/-- String.checkIndex -/
theorem met_Jc {sa va i n : Nat} (hi : i < n) (hn : n < 2 ^ 31) : Met l (cY mJ0_checkIndex_df160) (wsM mJ0_checkIndex_df160) (rmX 1) (va_Pc [.int (nI i), .int (nI n)] (ZSp sa va)) (QJ none) 0 0 (fun _ => False) := by
  refine jM (pf_ok _ (by decide)) (by decide) (Nat.le_of_ble_eq_true rfl) (fun p e s m below meth c hx hb hr hlk hml hown hts hZ ls hl => ?_)
  have hL : ¬ mJ0_checkIndex_df160 = mL_law := by decide
  have e1 : lv_args 0 [.int (nI i), .int (nI n)] = [(0, .int (nI i)), (1, .int (nI n))] := rfl
  rw [e1] at hl
  obtain ⟨v9, h9, hg⟩ : ∃ v9 : Value, v9.category = 1 ∧ va_Z "jdk/internal/util/Preconditions" "SIOOBE_FORMATTER" BF v9 (fun _ => False) s s.heap := by
    rcases hZ.2.2 with h | ⟨t, h⟩
    · exact ⟨_, rfl, h⟩
    · exact ⟨_, rfl, h⟩
  refine jL hx hb hl hL rfl rfl (fun ls1 hl1 => ?_)
  refine jL hx hb hl1 hL rfl rfl (fun ls2 hl2 => ?_)
  refine va_gets hx hb hg va_S.rf (own := "java/lang/String") hown (hts _ (wA (tb_in 7 31 w7.2.2.2.2.2.2.2.2.2.1) rfl)) (fun x h => h) (by decide +kernel) ?_
  refine callJ (rest := []) (jS (mi := mJ0_checkIndex_df160) (mj := mJ3_checkIndex_8e157) (na := 3) (d' := 0) (i := 1059) (own := "java/lang/String") (As := [.int (nI i), .int (nI n), v9]) hx hb hml hown hts hl2.1 ⟨by decide, by decide⟩ ⟨Nat.zero_le _, Nat.zero_le _⟩ (wA (tb_in 7 33 w7.2.2.2.2.2.2.2.2.2.2.1) rfl) (wA (tb_in 7 34 w7.2.2.2.2.2.2.2.2.2.2.2.1) rfl) (wA (tb_in 1 26 w1.2.2) rfl) (cdA (by decide)) ⟨by decide, by decide, by decide +kernel⟩ (by decide +kernel) rfl rfl (by decide) (met_J3 hi hn v9 h9) ⟨tt_blind, fun U _ _ => ⟨rfl, trivial⟩⟩) (fun H1 locs1 hS1 hl9 => ?_)
  refine jA hx hb hown hts hL rfl rfl ?_
  exact jR hL rfl hx hb hr hlk (va_S1 va_S.rf hS1 hl9) rfl
/-- String.isLatin1 -/
theorem met_JL {sa va : Nat} : Met l (cY mJ0_isLatin1_aae02) (wsM mJ0_isLatin1_aae02) (rmX 0) (va_Pc [.ref sa] (ZSp sa va)) (QJ (some (.int 1))) 0 0 (fun _ => False) := by
  refine jM (pf_ok _ (by decide)) (by decide) (Nat.le_of_ble_eq_true rfl) (fun p e s m below meth c hx hb hr hlk hml hown hts hZ ls hl => ?_)
  have hL : ¬ mJ0_isLatin1_aae02 = mL_law := by decide
  have e1 : lv_args 0 [.ref sa] = [(0, .ref sa)] := rfl
  rw [e1] at hl
  refine va_gets hx hb hZ.2.1 va_S.rf (own := "java/lang/String") hown (hts _ (wA (tb_in 7 23 w7.2.2.2.2.1) rfl)) (fun x h => h) (by decide +kernel) ?_
  refine jB hx hb hL rfl rfl ?_
  rw [if_neg (by decide)]
  refine jL hx hb hl hL rfl rfl (fun ls1 hl1 => ?_)
  refine vk_getf hx hb (hZ.1.1 0 (by decide)).2.1 va_S.rf (own := "java/lang/String") hown (hts _ (wA (tb_in 7 209 w7.2.2.2.2.2.2.2.2.2.2.2.2.1) rfl)) (fun x h => h) (by decide +kernel) ?_
  refine jB hx hb hL rfl rfl ?_
  rw [if_neg (by decide)]
  refine jA hx hb hown hts hL rfl rfl ?_
  refine jB hx hb hL rfl rfl ?_
  rw [if_pos rfl]
  exact jR hL rfl hx hb hr hlk va_S.rf rfl
theorem sg_ch {k : Nat} (hk : k < 4) : ((sgB.getD k 0 &&& 255).toUInt32 % 65536).toInt32 = sgB.getD k 0 ∧ kOk 2 (sgB.getD k 0) = true := by
  rcases (show k = 0 ∨ k = 1 ∨ k = 2 ∨ k = 3 by omega) with e | e | e | e <;> subst e <;> decide
/-- StringLatin1.charAt -/
theorem met_J1 {sa va k : Nat} (hk : k < 4) : Met l (cY mJ1_charAt_3b067) (wsM mJ1_charAt_3b067) (rmX 2) (va_Pc [.ref va, .int (nI k)] (ZSp sa va)) (QJ (some (.int (sgB.getD k 0)))) 0 0 (fun _ => False) := by
  refine jM (pf_ok _ (by decide)) (by decide) (Nat.le_of_ble_eq_true rfl) (fun p e s m below meth c hx hb hr hlk hml hown hts hZ ls hl => ?_)
  have hL : ¬ mJ1_charAt_3b067 = mL_law := by decide
  have e1 : lv_args 0 [.ref va, .int (nI k)] = [(0, .ref va), (1, .int (nI k))] := rfl
  rw [e1] at hl
  have hT := (hZ.1.1 0 (by decide)).2.2.2
  obtain ⟨g1, g2⟩ := sg_ch hk
  refine jL hx hb hl hL rfl rfl (fun ls1 hl1 => ?_)
  refine jL hx hb hl1 hL rfl rfl (fun ls2 hl2 => ?_)
  refine va_tlen hx hb hT va_S.rf (v := nI 4) rfl (by decide +kernel) ?_
  refine callJ (rest := []) (jS (mi := mJ1_charAt_3b067) (mj := mJ0_checkIndex_df160) (na := 2) (d' := 1) (i := 9) (own := "java/lang/StringLatin1") (As := [.int (nI k), .int (nI 4)]) hx hb hml hown hts hl2.1 ⟨by decide, by decide⟩ ⟨Nat.zero_le _, Nat.zero_le _⟩ (wA (tb_in 7 28 w7.2.2.2.2.2.2.2.1) rfl) (wA (tb_in 7 29 w7.2.2.2.2.2.2.2.2.1) rfl) (wA (tb_in 1 16 w1.1) rfl) (cdA (by decide)) ⟨by decide, by decide, by decide +kernel⟩ (by decide +kernel) rfl rfl (by decide) (met_Jc (sa := sa) (va := va) hk (by decide)) ⟨ZSp_blind, fun U hU hW => ⟨rfl, by show ZS sa va _ U U.heap; rw [hU]; exact hZ.moved hW.alike⟩⟩) (fun H1 locs1 hS1 hl9 => ?_)
  have hS2 := va_S1 va_S.rf hS1 hl9
  refine jL hx hb hl2 hL rfl rfl (fun ls3 hl3 => ?_)
  refine jL hx hb hl3 hL rfl rfl (fun ls4 hl4 => ?_)
  refine va_tb hx hb hT hS2 (vp_in_nI hk (by decide)) (v := .int (sgB.getD k 0)) (by rw [nI_clamp (by omega)]; rfl) (by decide +kernel) ?_
  refine jA hx hb hown hts hL rfl rfl ?_
  refine jA hx hb hown hts hL rfl rfl ?_
  refine jA hx hb hown hts hL rfl rfl ?_
  rw [g1]
  exact jR hL (by show (if kOk 2 (sgB.getD k 0) = true then some (some (Value.int (sgB.getD k 0))) else none) = _; rw [if_pos g2]) hx hb hr hlk hS2 rfl
/-- String.charAt -/
theorem met_Jch {sa va k : Nat} (hk : k < 4) : Met l (cY mJ0_charAt_5068e) (wsM mJ0_charAt_5068e) (rmX 3) (va_Pc [.ref sa, .int (nI k)] (ZSp sa va)) (QJ (some (.int (sgB.getD k 0)))) 0 0 (fun _ => False) := by
  refine jM (pf_ok _ (by decide)) (by decide) (Nat.le_of_ble_eq_true rfl) (fun p e s m below meth c hx hb hr hlk hml hown hts hZ ls hl => ?_)
  have hL : ¬ mJ0_charAt_5068e = mL_law := by decide
  have e1 : lv_args 0 [.ref sa, .int (nI k)] = [(0, .ref sa), (1, .int (nI k))] := rfl
  rw [e1] at hl
  obtain ⟨g1, g2⟩ := sg_ch hk
  obtain ⟨cell, r1, r2, r3⟩ := vk_recv hZ.1 (i := 0) (by decide) va_S.rf
  refine jL hx hb hl hL rfl rfl (fun ls1 hl1 => ?_)
  refine callJ (rest := []) (jV (mi := mJ0_charAt_5068e) (mj := mJ0_isLatin1_aae02) (na := 0) (d' := 0) (i := 492) (own := "java/lang/String") (b := sa) (As := []) hx hb hml hown hts hl1.1 ⟨by decide, by decide⟩ ⟨Nat.zero_le _, Nat.zero_le _⟩ (wA (tb_in 7 19 w7.2.1) rfl) (wA (tb_in 7 20 w7.2.2.1) rfl) (wA (tb_in 7 21 w7.2.2.2.1) rfl) (wA (tb_in 1 16 w1.1) rfl) (cdA (by decide)) ⟨by decide, by decide, by decide +kernel⟩ (by decide +kernel) rfl rfl (by decide) (met_JL (sa := sa) (va := va)) ⟨ZSp_blind, ⟨cell, r1, r2, r3⟩, fun U hU hW => ⟨rfl, by show ZS sa va _ U U.heap; rw [hU]; exact hZ.moved hW.alike⟩⟩) (fun H1 locs1 hS1 hl9 => ?_)
  have hS2 := va_S1 va_S.rf hS1 hl9
  refine jB hx hb hL rfl rfl ?_
  rw [if_neg (by decide)]
  refine jL hx hb hl1 hL rfl rfl (fun ls2 hl2 => ?_)
  refine vk_getf hx hb (hZ.1.1 0 (by decide)).2.2.1 hS2 (own := "java/lang/String") hown (hts _ (wA (tb_in 7 210 w7.2.2.2.2.2.2.2.2.2.2.2.2.2.1) rfl)) (fun x h => h) (by decide +kernel) ?_
  refine jL hx hb hl2 hL rfl rfl (fun ls3 hl3 => ?_)
  have hZ1 : ZS sa va (fun _ => False) s H1 := hZ.kept hS1.2.1
  refine callJ (rest := []) (jS (mi := mJ0_charAt_5068e) (mj := mJ1_charAt_3b067) (na := 2) (d' := 2) (i := 495) (own := "java/lang/String") (As := [.ref va, .int (nI k)]) hx hb hml hown hts hl3.1 ⟨by decide, by decide⟩ ⟨Nat.zero_le _, Nat.zero_le _⟩ (wA (tb_in 7 25 w7.2.2.2.2.2.1) rfl) (wA (tb_in 7 26 w7.2.2.2.2.2.2.1) rfl) (wA (tb_in 1 25 w1.2.1) rfl) (cdA (by decide)) ⟨by decide, by decide, by decide +kernel⟩ (by decide +kernel) rfl rfl (by decide) (met_J1 (sa := sa) (va := va) hk) ⟨ZSp_blind, fun U hU hW => ⟨rfl, by show ZS sa va _ U U.heap; rw [hU]; exact hZ1.moved hW.alike⟩⟩) (fun H2 locs2 hS3 hl8 => ?_)
  exact jR hL (by show (if kOk 2 (sgB.getD k 0) = true then some (some (Value.int (sgB.getD k 0))) else none) = _; rw [if_pos g2]) hx hb hr hlk (va_S1 hS2 hS3 hl8) rfl
end
