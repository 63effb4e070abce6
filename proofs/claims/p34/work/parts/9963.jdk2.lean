noncomputable section
variable {p : Program} {l : Launch} {e : Env} {R : Room} {s : State} {m : MethodId} {args : Array Value} {below : List Frame} {meth : Method} {c : Code} {H H0 : Heap} {locs : List Loc} {cells slots : Nat} {Q : State → Prop} {ls : Array Slot}
def BF : String := "Ljava/util/function/BiFunction;"
/-- what a String of these bytes wants of the machine -/
def ZS (B : List Int32) (sa va : Nat) (A : Nat → Prop) (U : State) (H : Heap) : Prop := vk_S 1 [B.length] [B] (fun _ => sa) (fun _ => va) A U H ∧ va_Z "java/lang/String" "COMPACT_STRINGS" "Z" (.int 1) A U H ∧ va_Zq "jdk/internal/util/Preconditions" "SIOOBE_FORMATTER" BF A U H
theorem ZS.moved {B : List Int32} {sa va : Nat} {A : Nat → Prop} {u U : State} {H : Heap} (hvm : u.vm.Alike U.vm) (h : ZS B sa va A u H) : ZS B sa va A U H := ⟨h.1.moved hvm, h.2.1.moved hvm, h.2.2.moved hvm⟩
theorem ZS.kept {B : List Int32} {sa va : Nat} {A : Nat → Prop} {U : State} {H H1 : Heap} (h : ZS B sa va A U H) (hq : ∀ a : Nat, a < H.size → ¬ A a → H1[a]? = H[a]?) : ZS B sa va A U H1 := ⟨h.1.kept hq, h.2.1.kept hq, h.2.2.kept hq⟩
theorem ZS.narrow {B : List Int32} {sa va : Nat} {A A2 : Nat → Prop} {U : State} {H : Heap} (h : ZS B sa va A U H) (hAB : ∀ q, A2 q → A q) : ZS B sa va A2 U H := ⟨h.1.narrow hAB, h.2.1.narrow hAB, h.2.2.narrow hAB⟩
def ZSp (B : List Int32) (sa va : Nat) (U : State) : Prop := ZS B sa va (fun _ => False) U U.heap
theorem ZSp_blind {B : List Int32} {sa va : Nat} {av : List Value} : FrameBlind (va_Pc av (ZSp B sa va)) := fun a U g mk q => ⟨q.1, ZS.moved (u := U) (U := U.calling g mk a) (Vm.Alike.refl U.vm) q.2⟩
theorem tt_blind {av : List Value} : FrameBlind (va_Pc av (fun _ => True)) := fun a U g mk q => ⟨q.1, trivial⟩
theorem cdA {mj : Nat} (h : mj ∈ cdd) : Cond.code (cY mj) (cB mj) (cM mj) (cR mj) ∈ wAll := wA (cdd_ok mj h) rfl
def BOk (B : List Int32) : Prop := B.length < 100 ∧ ∀ k, k < B.length → ((B.getD k 0 &&& 255).toUInt32 % 65536).toInt32 = B.getD k 0 ∧ kOk 2 (B.getD k 0) = true
abbrev S15 : String := "java/lang/String"
/-- String.checkIndex -/
theorem met_Jc {B : List Int32} {sa va i n : Nat} (hi : i < n) (hn : n < 2 ^ 31) : Met l (cY mJ0_checkIndex_df160) (wsM mJ0_checkIndex_df160) (rmX 1) (va_Pc [.int (nI i), .int (nI n)] (ZSp B sa va)) (QJ none) 0 0 (fun _ => False) := by
  refine jM (pf_ok _ (by decide)) (by decide) (Nat.le_of_ble_eq_true rfl) (fun p e s m below meth c hx hb hr hlk hml hown hts hZ ls hl => ?_)
  have hL : ¬ mJ0_checkIndex_df160 = mL_law := by decide
  have e1 : lv_args 0 [.int (nI i), .int (nI n)] = [(0, .int (nI i)), (1, .int (nI n))] := rfl
  rw [e1] at hl
  obtain ⟨v9, h9, hg⟩ : ∃ v9 : Value, v9.category = 1 ∧ va_Z "jdk/internal/util/Preconditions" "SIOOBE_FORMATTER" BF v9 (fun _ => False) s s.heap := by
    rcases hZ.2.2 with h | ⟨t, h⟩
    · exact ⟨_, rfl, h⟩
    · exact ⟨_, rfl, h⟩
  refine jL hx hb hl hL rfl rfl (fun ls1 hl1 => ?_)
  refine jL hx hb hl1 hL rfl rfl (fun ls2 hl2 => ?_)
  refine va_gets hx hb hg va_S.rf (own := "java/lang/String") hown (hts _ (wA (tb_in 4 128 (show (tb 4)[128]? = some (Jvm.Cond.fieldLink "java/lang/String" (1053 : Nat) "jdk/internal/util/Preconditions" "SIOOBE_FORMATTER" "Ljava/util/function/BiFunction;") by decide +kernel)) rfl)) (fun x h => h) (by decide +kernel) ?_
  refine callJ (rest := []) (jS (mi := mJ0_checkIndex_df160) (mj := mJ3_checkIndex_8e157) (na := 3) (d' := 0) (i := 1059) (own := oN 15) (As := [.int (nI i), .int (nI n), v9]) hx hb hml hown hts hl2.1 ⟨by decide, by decide⟩ ⟨Nat.zero_le _, Nat.zero_le _⟩ (wML (by decide +kernel)) (wST (by decide +kernel)) (wIN (o := 18) (by decide +kernel)) (cdA (by decide)) ⟨by decide, by decide, by decide +kernel⟩ (by decide +kernel) rfl rfl (by decide) (met_J3 hi hn v9 h9) ⟨tt_blind, fun U _ _ => ⟨rfl, trivial⟩⟩) (fun H1 locs1 hS1 hl9 => ?_)
  refine jA hx hb hown hts hL rfl rfl ?_
  exact jR hL rfl hx hb hr hlk (va_S1 va_S.rf hS1 hl9) rfl
/-- String.isLatin1 -/
theorem met_JL {B : List Int32} {sa va : Nat} : Met l (cY mJ0_isLatin1_aae02) (wsM mJ0_isLatin1_aae02) (rmX 0) (va_Pc [.ref sa] (ZSp B sa va)) (QJ (some (.int 1))) 0 0 (fun _ => False) := by
  refine jM (pf_ok _ (by decide)) (by decide) (Nat.le_of_ble_eq_true rfl) (fun p e s m below meth c hx hb hr hlk hml hown hts hZ ls hl => ?_)
  have hL : ¬ mJ0_isLatin1_aae02 = mL_law := by decide
  have e1 : lv_args 0 [.ref sa] = [(0, .ref sa)] := rfl
  rw [e1] at hl
  refine va_gets hx hb hZ.2.1 va_S.rf (own := "java/lang/String") hown (hts _ (wA (tb_in 4 112 (show (tb 4)[112]? = some (Jvm.Cond.fieldLink "java/lang/String" (38 : Nat) "java/lang/String" "COMPACT_STRINGS" "Z") by decide +kernel)) rfl)) (fun x h => h) (by decide +kernel) ?_
  refine jB hx hb hL rfl rfl ?_
  rw [if_neg (by decide)]
  refine jL hx hb hl hL rfl rfl (fun ls1 hl1 => ?_)
  refine vk_getf hx hb (hZ.1.1 0 (by decide)).2.1 va_S.rf (own := "java/lang/String") hown (hts _ (wA (tb_in 6 81 (show (tb 6)[81]? = some (Jvm.Cond.fieldLink "java/lang/String" (15 : Nat) "java/lang/String" "coder" "B") by decide +kernel)) rfl)) (fun x h => h) (by decide +kernel) ?_
  refine jB hx hb hL rfl rfl ?_
  rw [if_neg (by decide)]
  refine jA hx hb hown hts hL rfl rfl ?_
  refine jB hx hb hL rfl rfl ?_
  rw [if_pos rfl]
  exact jR hL rfl hx hb hr hlk va_S.rf rfl
/-- String.coder -/
theorem met_Jco {B : List Int32} {sa va : Nat} : Met l (cY mJ0_coder_7d493) (wsM mJ0_coder_7d493) (rmX 0) (va_Pc [.ref sa] (ZSp B sa va)) (QJ (some (.int 0))) 0 0 (fun _ => False) := by
  refine jM (pf_ok _ (by decide)) (by decide) (Nat.le_of_ble_eq_true rfl) (fun p e s m below meth c hx hb hr hlk hml hown hts hZ ls hl => ?_)
  have hL : ¬ mJ0_coder_7d493 = mL_law := by decide
  have e1 : lv_args 0 [.ref sa] = [(0, .ref sa)] := rfl
  rw [e1] at hl
  refine va_gets hx hb hZ.2.1 va_S.rf (own := "java/lang/String") hown (hts _ (wA (tb_in 4 112 (show (tb 4)[112]? = some (Jvm.Cond.fieldLink "java/lang/String" (38 : Nat) "java/lang/String" "COMPACT_STRINGS" "Z") by decide +kernel)) rfl)) (fun x h => h) (by decide +kernel) ?_
  refine jB hx hb hL rfl rfl ?_
  rw [if_neg (by decide)]
  refine jL hx hb hl hL rfl rfl (fun ls1 hl1 => ?_)
  refine vk_getf hx hb (hZ.1.1 0 (by decide)).2.1 va_S.rf (own := "java/lang/String") hown (hts _ (wA (tb_in 6 81 (show (tb 6)[81]? = some (Jvm.Cond.fieldLink "java/lang/String" (15 : Nat) "java/lang/String" "coder" "B") by decide +kernel)) rfl)) (fun x h => h) (by decide +kernel) ?_
  refine jB hx hb hL rfl rfl ?_
  rw [if_pos rfl]
  exact W.zret hx hb (ty := .byte) (hr.trans (by decide +kernel)) (by decide) (fun t ht _ => ⟨rfl, va_S.rf.F ht⟩) (fun q hq => by cases hq) (by decide +kernel) hlk
/-- StringLatin1.charAt -/
theorem met_J1 {B : List Int32} (hB : BOk B) {sa va k : Nat} (hk : k < B.length) : Met l (cY mJ1_charAt_3b067) (wsM mJ1_charAt_3b067) (rmX 2) (va_Pc [.ref va, .int (nI k)] (ZSp B sa va)) (QJ (some (.int (B.getD k 0)))) 0 0 (fun _ => False) := by
  refine jM (pf_ok _ (by decide)) (by decide) (Nat.le_of_ble_eq_true rfl) (fun p e s m below meth c hx hb hr hlk hml hown hts hZ ls hl => ?_)
  have hL : ¬ mJ1_charAt_3b067 = mL_law := by decide
  have e1 : lv_args 0 [.ref va, .int (nI k)] = [(0, .ref va), (1, .int (nI k))] := rfl
  rw [e1] at hl
  have hT : va_T .byte va B.length (fun j => .int (B.getD j 0)) (fun _ => False) s s.heap := (hZ.1.1 0 (by decide)).2.2.2
  obtain ⟨hn, hB⟩ := hB
  obtain ⟨g1, g2⟩ := hB k hk
  refine jL hx hb hl hL rfl rfl (fun ls1 hl1 => ?_)
  refine jL hx hb hl1 hL rfl rfl (fun ls2 hl2 => ?_)
  refine va_tlen hx hb hT va_S.rf (v := nI B.length) rfl (by decide +kernel) ?_
  refine callJ (rest := []) (jS (mi := mJ1_charAt_3b067) (mj := mJ0_checkIndex_df160) (na := 2) (d' := 1) (i := 9) (own := oN 16) (As := [.int (nI k), .int (nI B.length)]) hx hb hml hown hts hl2.1 ⟨by decide, by decide⟩ ⟨Nat.zero_le _, Nat.zero_le _⟩ (wML (by decide +kernel)) (wST (by decide +kernel)) (wIN (o := 15) (by decide +kernel)) (cdA (by decide)) ⟨by decide, by decide, by decide +kernel⟩ (by decide +kernel) rfl rfl (by decide) (met_Jc (B := B) (sa := sa) (va := va) hk (by omega)) ⟨ZSp_blind, fun U hU hW => ⟨rfl, by show ZS B sa va _ U U.heap; rw [hU]; exact hZ.moved hW.alike⟩⟩) (fun H1 locs1 hS1 hl9 => ?_)
  have hS2 := va_S1 va_S.rf hS1 hl9
  refine jL hx hb hl2 hL rfl rfl (fun ls3 hl3 => ?_)
  refine jL hx hb hl3 hL rfl rfl (fun ls4 hl4 => ?_)
  refine va_tb hx hb hT hS2 (vp_in_nI hk (by omega)) (v := .int (B.getD k 0)) (by rw [nI_clamp (by omega)]) (by decide +kernel) ?_
  refine jA hx hb hown hts hL rfl rfl ?_
  refine jA hx hb hown hts hL rfl rfl ?_
  refine jA hx hb hown hts hL rfl rfl ?_
  rw [g1]
  exact jR hL (by show (if kOk 2 (B.getD k 0) = true then some (some (Value.int (B.getD k 0))) else none) = _; rw [if_pos g2]) hx hb hr hlk hS2 rfl
/-- String.charAt -/
theorem met_Jch {B : List Int32} (hB : BOk B) {sa va k : Nat} (hk : k < B.length) : Met l (cY mJ0_charAt_5068e) (wsM mJ0_charAt_5068e) (rmX 3) (va_Pc [.ref sa, .int (nI k)] (ZSp B sa va)) (QJ (some (.int (B.getD k 0)))) 0 0 (fun _ => False) := by
  refine jM (pf_ok _ (by decide)) (by decide) (Nat.le_of_ble_eq_true rfl) (fun p e s m below meth c hx hb hr hlk hml hown hts hZ ls hl => ?_)
  have hL : ¬ mJ0_charAt_5068e = mL_law := by decide
  have e1 : lv_args 0 [.ref sa, .int (nI k)] = [(0, .ref sa), (1, .int (nI k))] := rfl
  rw [e1] at hl
  obtain ⟨g1, g2⟩ := hB.2 k hk
  obtain ⟨cell, r1, r2, r3⟩ := vk_recv hZ.1 (i := 0) (by decide) va_S.rf
  refine jL hx hb hl hL rfl rfl (fun ls1 hl1 => ?_)
  refine callJ (rest := []) (jV (mi := mJ0_charAt_5068e) (mj := mJ0_isLatin1_aae02) (na := 0) (d' := 0) (i := 492) (own := oN 15) (b := sa) (As := []) hx hb hml hown hts hl1.1 ⟨by decide, by decide⟩ ⟨Nat.zero_le _, Nat.zero_le _⟩ (wML (by decide +kernel)) (wIM (by decide +kernel)) (wSE (by decide +kernel)) (wIN (o := 15) (by decide +kernel)) (cdA (by decide)) ⟨by decide, by decide, by decide +kernel⟩ (by decide +kernel) rfl rfl (by decide) (met_JL (B := B) (sa := sa) (va := va)) ⟨ZSp_blind, ⟨cell, r1, r2, r3⟩, fun U hU hW => ⟨rfl, by show ZS B sa va _ U U.heap; rw [hU]; exact hZ.moved hW.alike⟩⟩) (fun H1 locs1 hS1 hl9 => ?_)
  have hS2 := va_S1 va_S.rf hS1 hl9
  refine jB hx hb hL rfl rfl ?_
  rw [if_neg (by decide)]
  refine jL hx hb hl1 hL rfl rfl (fun ls2 hl2 => ?_)
  refine vk_getf hx hb (hZ.1.1 0 (by decide)).2.2.1 hS2 (own := "java/lang/String") hown (hts _ (wA (tb_in 6 80 (show (tb 6)[80]? = some (Jvm.Cond.fieldLink "java/lang/String" (9 : Nat) "java/lang/String" "value" "[B") by decide +kernel)) rfl)) (fun x h => h) (by decide +kernel) ?_
  refine jL hx hb hl2 hL rfl rfl (fun ls3 hl3 => ?_)
  have hZ1 : ZS B sa va (fun _ => False) s H1 := hZ.kept hS1.2.1
  refine callJ (rest := []) (jS (mi := mJ0_charAt_5068e) (mj := mJ1_charAt_3b067) (na := 2) (d' := 2) (i := 495) (own := oN 15) (As := [.ref va, .int (nI k)]) hx hb hml hown hts hl3.1 ⟨by decide, by decide⟩ ⟨Nat.zero_le _, Nat.zero_le _⟩ (wML (by decide +kernel)) (wST (by decide +kernel)) (wIN (o := 16) (by decide +kernel)) (cdA (by decide)) ⟨by decide, by decide, by decide +kernel⟩ (by decide +kernel) rfl rfl (by decide) (met_J1 hB (sa := sa) (va := va) hk) ⟨ZSp_blind, fun U hU hW => ⟨rfl, by show ZS B sa va _ U U.heap; rw [hU]; exact hZ1.moved hW.alike⟩⟩) (fun H2 locs2 hS3 hl8 => ?_)
  exact jR hL (by show (if kOk 2 (B.getD k 0) = true then some (some (Value.int (B.getD k 0))) else none) = _; rw [if_pos g2]) hx hb hr hlk (va_S1 hS2 hS3 hl8) rfl
theorem shr0 (x : Int32) : x >>> ((0 : Int32) &&& 31) = x := by
  rw [show ((0 : Int32) &&& 31) = 0 from rfl]
  exact Int32.shiftRight_zero
/-- String.length -/
theorem met_Jlen {B : List Int32} {sa va : Nat} : Met l (cY mJ0_length_8abf5) (wsM mJ0_length_8abf5) (rmX 1) (va_Pc [.ref sa] (ZSp B sa va)) (QJ (some (.int (nI B.length)))) 0 0 (fun _ => False) := by
  refine jM (pf_ok _ (by decide)) (by decide) (Nat.le_of_ble_eq_true rfl) (fun p e s m below meth c hx hb hr hlk hml hown hts hZ ls hl => ?_)
  have hL : ¬ mJ0_length_8abf5 = mL_law := by decide
  have e1 : lv_args 0 [.ref sa] = [(0, .ref sa)] := rfl
  rw [e1] at hl
  have hT : va_T .byte va B.length (fun j => .int (B.getD j 0)) (fun _ => False) s s.heap := (hZ.1.1 0 (by decide)).2.2.2
  obtain ⟨cell, r1, r2, r3⟩ := vk_recv hZ.1 (i := 0) (by decide) va_S.rf
  refine jL hx hb hl hL rfl rfl (fun ls1 hl1 => ?_)
  refine vk_getf hx hb (hZ.1.1 0 (by decide)).2.2.1 va_S.rf (own := "java/lang/String") hown (hts _ (wA (tb_in 6 80 (show (tb 6)[80]? = some (Jvm.Cond.fieldLink "java/lang/String" (9 : Nat) "java/lang/String" "value" "[B") by decide +kernel)) rfl)) (fun x h => h) (by decide +kernel) ?_
  refine va_tlen hx hb hT va_S.rf (v := nI B.length) rfl (by decide +kernel) ?_
  refine jL hx hb hl1 hL rfl rfl (fun ls2 hl2 => ?_)
  refine callJ (rest := [.int (nI B.length)]) (jV (mi := mJ0_length_8abf5) (mj := mJ0_coder_7d493) (na := 0) (d' := 0) (i := 335) (own := oN 15) (b := sa) (As := []) hx hb hml hown hts hl2.1 ⟨by decide, by decide⟩ ⟨Nat.zero_le _, Nat.zero_le _⟩ (wML (by decide +kernel)) (wIM (by decide +kernel)) (wSE (by decide +kernel)) (wIN (o := 15) (by decide +kernel)) (cdA (by decide)) ⟨by decide, by decide, by decide +kernel⟩ (by decide +kernel) rfl rfl (Nat.le_of_ble_eq_true rfl) (met_Jco (B := B) (sa := sa) (va := va)) ⟨ZSp_blind, ⟨cell, r1, r2, r3⟩, fun U hU hW => ⟨rfl, by show ZS B sa va _ U U.heap; rw [hU]; exact hZ.moved hW.alike⟩⟩) (fun H1 locs1 hS1 hl9 => ?_)
  have hS2 := va_S1 va_S.rf hS1 hl9
  refine jA hx hb hown hts hL rfl rfl ?_
  rw [shr0]
  exact jR hL rfl hx hb hr hlk hS2 rfl
/-- StringLatin1.canEncode -/
theorem met_Jce {x : Int32} (h1 : ¬ x < 0) (h2 : ¬ 255 < x) : Met l (cY mJ1_canEncode_9a6ad) (wsM mJ1_canEncode_9a6ad) (rmX 0) (va_Pc [.int x] (fun _ => True)) (QJ (some (.int 1))) 0 0 (fun _ => False) := by
  refine jM (pf_ok _ (by decide)) (by decide) (Nat.le_of_ble_eq_true rfl) (fun p e s m below meth c hx hb hr hlk hml hown hts _ ls hl => ?_)
  have hL : ¬ mJ1_canEncode_9a6ad = mL_law := by decide
  have e1 : lv_args 0 [.int x] = [(0, .int x)] := rfl
  rw [e1] at hl
  refine jL hx hb hl hL rfl rfl (fun ls1 hl1 => ?_)
  refine jB hx hb hL rfl rfl ?_
  rw [if_neg (show ¬ (decide (x < 0) = true) by rw [decide_eq_false h1]; decide)]
  refine jL hx hb hl1 hL rfl rfl (fun ls2 hl2 => ?_)
  refine jA hx hb hown hts hL rfl rfl ?_
  refine jB hx hb hL rfl rfl ?_
  rw [if_neg (show ¬ (decide (255 < x) = true) by rw [decide_eq_false h2]; decide)]
  refine jA hx hb hown hts hL rfl rfl ?_
  refine jB hx hb hL rfl rfl ?_
  rw [if_pos rfl]
  exact jR hL rfl hx hb hr hlk va_S.rf rfl
def rwB : List Int32 := [114, 119]
def rwI (x : Int32) : Int32 := if x = 114 then 0 else if x = 119 then 1 else -1
end
