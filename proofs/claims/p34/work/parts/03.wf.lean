noncomputable section
def lenI : Instr → Nat
  | .bipush _ => 2 | .ldc _ => 2 | .iload _ => 2 | .aload _ => 2 | .fload _ => 2 | .lload _ => 2 | .dload _ => 2
  | .istore _ => 2 | .astore _ => 2 | .fstore _ => 2 | .lstore _ => 2 | .dstore _ => 2
  | .sipush _ => 3 | .ldc2_w _ => 3 | .iinc _ _ => 3 | .goto _ => 3 | .ifCond _ _ => 3 | .if_icmp _ _ => 3 | .ifnull _ => 3 | .ifnonnull _ => 3
  | .getfield _ => 3 | .putfield _ => 3 | .invokevirtual _ => 3 | .invokestatic _ => 3
  | _ => 1
def wfA (o : Nat) (ins : Instr) (v : Value) : Bool := match ins with
  | .iconst n => decide (v = .int (Int32.ofInt n))
  | .bipush n => decide (v = .int (Int8.ofInt n).toInt32)
  | .sipush n => decide (v = .int (Int16.ofInt n).toInt32)
  | .fconst n => decide (n = 0 ∧ v = .float FP.fconst0 ∨ n = 1 ∧ v = .float FP.fconst1 ∨ n = 2 ∧ v = .float FP.fconst2)
  | .dconst n => decide (n = 0 ∧ v = .double FP.dconst0 ∨ n = 1 ∧ v = .double FP.dconst1)
  | .lconst n => decide (v = .long (Int64.ofNat (n : Nat)))
  | .ldc i => (match v with | .int _ => true | .float _ => true | _ => false) && kP.any (fun q => Nat.beq q.1 o && Nat.beq q.2.1 i && decide (q.2.2.1 = v))
  | .ldc2_w i => (match v with | .long _ => true | .double _ => true | _ => false) && kP.any (fun q => Nat.beq q.1 o && Nat.beq q.2.1 i && decide (q.2.2.1 = v))
  | _ => true
def wfL (nl : Nat) (ins : Instr) (v : Value) : Bool := match ins with
  | .istore i => decide (i < nl) | .astore i => decide (i < nl) | .fstore i => decide (i < nl) | .lstore i => decide (i + 1 < nl) | .dstore i => decide (i + 1 < nl)
  | .istore_n i => decide ((i : Nat) < nl) | .astore_n i => decide ((i : Nat) < nl) | .fstore_n i => decide ((i : Nat) < nl) | .lstore_n i => decide ((i : Nat) + 1 < nl) | .dstore_n i => decide ((i : Nat) + 1 < nl)
  | .iinc i n => decide (i < nl ∧ v = .int (Int32.ofInt n))
  | _ => true
def wfB (pc : Nat) (ins : Instr) (r1 : Nat) : Bool := match ins with
  | .goto f => decide ((pc : Int) + f = (r1 : Int)) | .ifCond _ f => decide ((pc : Int) + f = (r1 : Int)) | .if_icmp _ f => decide ((pc : Int) + f = (r1 : Int))
  | .ifnull f => decide ((pc : Int) + f = (r1 : Int)) | .ifnonnull f => decide ((pc : Int) + f = (r1 : Int))
  | _ => false
def wfH (o : Nat) (ins : Instr) (r1 r2 : Nat) : Bool := match ins with
  | .getfield i => fP.any (fun q => Nat.beq q.1 o && Nat.beq q.2.1 i && Nat.beq q.2.2.1 r1 && Nat.beq q.2.2.2.1 r2)
  | .putfield i => fP.any (fun q => Nat.beq q.1 o && Nat.beq q.2.1 i && Nat.beq q.2.2.1 r1 && Nat.beq q.2.2.2.1 r2) && !(cT r1 r2).2.2.2
  | _ => true
def wfC (o : Nat) (ins : Instr) (mj na kd : Nat) : Bool :=
  mP.any (fun q => Nat.beq q.1 o && (match ins with | .invokevirtual i => Nat.beq q.2.1 i | .invokestatic i => Nat.beq q.2.1 i | _ => false) && Nat.beq q.2.2.1 mj)
  && (match ins with | .invokevirtual _ => Nat.beq kd 0 && Nat.blt (kOf (cO mj)) 9 && decide (cC (kOf (cO mj)) = (cY mj).cls) && iP.any (fun q => Nat.beq q.1 mj) && sP.any (fun q => Nat.beq q.1 mj) | .invokestatic _ => Nat.beq kd 1 && tP.any (fun q => Nat.beq q.1 mj) | _ => false)
  && !(Nat.beq mj mL_law) && decide ((cY mj).cls ≠ "java/lang/invoke/MethodHandle" ∧ (cY mj).cls ≠ "java/lang/invoke/VarHandle") && nP.any (fun q => Nat.beq q.1 (cO mj)) && cdd.any (fun q => Nat.beq q mj) && Nat.blt mj nMeth
  && decide ((parseMethodDescriptor (cY mj).desc).map (fun d => d.parameters.length) = some na) && Nat.ble (cM mj) 16
def wfP (o : Nat) (ins : Instr) (r3 : Nat) : Bool := match ins with
  | .invokestatic i => pP.any (fun q => Nat.beq q.1 o && Nat.beq q.2.1 i && Nat.beq q.2.2.1 r3)
  | _ => false
def wfS (pc : Nat) (ins : Instr) (q : List (Int32 × Nat) × Nat) : Bool := match ins with
  | .tableswitch d lo hi offs => decide ((pc : Int) + d = (q.2 : Int)) && q.1.all (fun e => decide (lo ≤ e.1.toInt ∧ e.1.toInt ≤ hi ∧ (offs[(e.1.toInt - lo).toNat]?).map (fun f => (pc : Int) + f) = some (e.2 : Int)))
      && (List.range (hi - lo + 1).toNat).all (fun j => q.1.any (fun e => decide (e.1.toInt = lo + (j : Int))))
  | .lookupswitch d ps => decide ((pc : Int) + d = (q.2 : Int)) && (ps.toList.zip (ps.toList.drop 1)).all (fun (a, next) => a.1 < next.1)
      && q.1.all (fun e => decide ((pc : Int) + Op.lookupswitch.offset ps.toList d e.1.toInt = (e.2 : Int))) && ps.toList.all (fun a => q.1.any (fun e => decide (e.1.toInt = a.1)))
  | _ => false
def wfR (ins : Instr) (rt : Option FieldType) : Bool := match ins with
  | .ireturn => Nat.blt (rKind rt) 3
  | .freturn => decide (rt = some .float)
  | .dreturn => decide (rt = some .double)
  | .lreturn => decide (rt = some .long)
  | .return_ => decide (rt = none)
  | _ => false
def wfE (mi pc : Nat) (e : Ent) : Bool := match e with
  | (k, ins, nx, r1, r2, r3, v) => decide (decode (cB mi) pc = .ok (ins, nx - pc)) && Nat.ble pc nx && (match k with
    | 0 => Nat.beq nx (pc + lenI ins) && wfA (cO mi) ins v
    | 1 => Nat.beq nx (pc + lenI ins) && wfL (cM mi) ins v
    | 2 => Nat.beq nx (pc + lenI ins) && wfB pc ins r1
    | 3 => Nat.beq nx (pc + lenI ins) && wfH (cO mi) ins r1 r2
    | 4 => Nat.beq nx (pc + lenI ins) && wfC (cO mi) ins r1 r2 r3
    | 5 => Nat.beq nx (pc + lenI ins) && wfP (cO mi) ins r3
    | 6 => wfS pc ins (cSw mi pc)
    | 9 => Nat.beq nx (pc + 1) && wfR ins (cR mi)
    | _ => true)
theorem lk_mem : ∀ (l : List (Nat × Ent)) (pc : Nat) (e : Ent), lk l pc = some e → (pc, e) ∈ l
  | [], _, _, h => by simp [lk] at h
  | (p, x) :: t, pc, e, h => by
    unfold lk at h
    cases hb : Nat.beq p pc with
    | true =>
      rw [hb] at h
      have e1 := Option.some.inj h
      have e2 := Nat.eq_of_beq_eq_true hb
      subst e1; subst e2
      exact List.mem_cons_self
    | false =>
      rw [hb] at h
      exact List.mem_cons_of_mem _ (lk_mem t pc e h)
theorem tE {α : Type} {mi n : Nat} {P : α → Prop} {a d : α} (h1 : mi = n → P a) (h2 : P d) : P (bif Nat.beq mi n then a else d) := by
  cases hb : Nat.beq mi n with
  | true => exact h1 (Nat.eq_of_beq_eq_true hb)
  | false => exact h2
theorem tB {α : Type} {b : Bool} {P : α → Prop} {a d : α} (h1 : P a) (h2 : P d) : P (bif b then a else d) := by
  cases b with
  | true => exact h1
  | false => exact h2
set_option maxRecDepth 100000 in
theorem wf_X0_init_0 : ∀ q ∈ cl_X0_init_0, wfE 0 q.1 q.2 = true := by decide +kernel
set_option maxRecDepth 100000 in
theorem wf_X0_hoursToFirstGone_0 : ∀ q ∈ cl_X0_hoursToFirstGone_0, wfE 1 q.1 q.2 = true := by decide +kernel
set_option maxRecDepth 100000 in
theorem wf_X0_bitsOfMass_0 : ∀ q ∈ cl_X0_bitsOfMass_0, wfE 2 q.1 q.2 = true := by decide +kernel
set_option maxRecDepth 100000 in
theorem wf_X0_blocksOnWall_0 : ∀ q ∈ cl_X0_blocksOnWall_0, wfE 3 q.1 q.2 = true := by decide +kernel
set_option maxRecDepth 100000 in
theorem wf_X0_isSafeFor_0 : ∀ q ∈ cl_X0_isSafeFor_0, wfE 4 q.1 q.2 = true := by decide +kernel
set_option maxRecDepth 100000 in
theorem wf_X1_isAllWell_0 : ∀ q ∈ cl_X1_isAllWell_0, wfE 5 q.1 q.2 = true := by decide +kernel
set_option maxRecDepth 100000 in
theorem wf_X1_isSomewhere_0 : ∀ q ∈ cl_X1_isSomewhere_0, wfE 6 q.1 q.2 = true := by decide +kernel
set_option maxRecDepth 100000 in
theorem wf_X1_isSomewhere_1 : ∀ q ∈ cl_X1_isSomewhere_1, wfE 6 q.1 q.2 = true := by decide +kernel
set_option maxRecDepth 100000 in
theorem wf_X1_isFirm_0 : ∀ q ∈ cl_X1_isFirm_0, wfE 7 q.1 q.2 = true := by decide +kernel
set_option maxRecDepth 100000 in
theorem wf_X1_countIn_0 : ∀ q ∈ cl_X1_countIn_0, wfE 8 q.1 q.2 = true := by decide +kernel
set_option maxRecDepth 100000 in
theorem wf_X2_ofFloat_0 : ∀ q ∈ cl_X2_ofFloat_0, wfE 9 q.1 q.2 = true := by decide +kernel
set_option maxRecDepth 100000 in
theorem wf_X2_ofFloat_1 : ∀ q ∈ cl_X2_ofFloat_1, wfE 9 q.1 q.2 = true := by decide +kernel
set_option maxRecDepth 100000 in
theorem wf_X2_ofDouble_0 : ∀ q ∈ cl_X2_ofDouble_0, wfE 10 q.1 q.2 = true := by decide +kernel
set_option maxRecDepth 100000 in
theorem wf_X3_init_0 : ∀ q ∈ cl_X3_init_0, wfE 11 q.1 q.2 = true := by decide +kernel
set_option maxRecDepth 100000 in
theorem wf_X3_number_0 : ∀ q ∈ cl_X3_number_0, wfE 12 q.1 q.2 = true := by decide +kernel
set_option maxRecDepth 100000 in
theorem wf_X3_remember_0 : ∀ q ∈ cl_X3_remember_0, wfE 13 q.1 q.2 = true := by decide +kernel
set_option maxRecDepth 100000 in
theorem wf_X3_goBack_0 : ∀ q ∈ cl_X3_goBack_0, wfE 14 q.1 q.2 = true := by decide +kernel
set_option maxRecDepth 100000 in
theorem wf_X3_forget_0 : ∀ q ∈ cl_X3_forget_0, wfE 15 q.1 q.2 = true := by decide +kernel
set_option maxRecDepth 100000 in
theorem wf_X4_init_0 : ∀ q ∈ cl_X4_init_0, wfE 16 q.1 q.2 = true := by decide +kernel
set_option maxRecDepth 100000 in
theorem wf_X4_letGoBy_0 : ∀ q ∈ cl_X4_letGoBy_0, wfE 17 q.1 q.2 = true := by decide +kernel
set_option maxRecDepth 100000 in
theorem wf_X4_letGoBy_1 : ∀ q ∈ cl_X4_letGoBy_1, wfE 17 q.1 q.2 = true := by decide +kernel
set_option maxRecDepth 100000 in
theorem wf_X4_changeIce_0 : ∀ q ∈ cl_X4_changeIce_0, wfE 18 q.1 q.2 = true := by decide +kernel
set_option maxRecDepth 100000 in
theorem wf_X4_changeJoints_0 : ∀ q ∈ cl_X4_changeJoints_0, wfE 19 q.1 q.2 = true := by decide +kernel
set_option maxRecDepth 100000 in
theorem wf_X4_changeJoints_1 : ∀ q ∈ cl_X4_changeJoints_1, wfE 19 q.1 q.2 = true := by decide +kernel
set_option maxRecDepth 100000 in
theorem wf_X4_melt_0 : ∀ q ∈ cl_X4_melt_0, wfE 20 q.1 q.2 = true := by decide +kernel
set_option maxRecDepth 100000 in
theorem wf_X4_melt_1 : ∀ q ∈ cl_X4_melt_1, wfE 20 q.1 q.2 = true := by decide +kernel
set_option maxRecDepth 100000 in
theorem wf_X4_warm_0 : ∀ q ∈ cl_X4_warm_0, wfE 21 q.1 q.2 = true := by decide +kernel
set_option maxRecDepth 100000 in
theorem wf_X4_removeMelted_0 : ∀ q ∈ cl_X4_removeMelted_0, wfE 22 q.1 q.2 = true := by decide +kernel
set_option maxRecDepth 100000 in
theorem wf_X4_dropUnsupported_0 : ∀ q ∈ cl_X4_dropUnsupported_0, wfE 23 q.1 q.2 = true := by decide +kernel
set_option maxRecDepth 100000 in
theorem wf_X4_breakOverloaded_0 : ∀ q ∈ cl_X4_breakOverloaded_0, wfE 24 q.1 q.2 = true := by decide +kernel
set_option maxRecDepth 100000 in
theorem wf_X5_init_0 : ∀ q ∈ cl_X5_init_0, wfE 25 q.1 q.2 = true := by decide +kernel
set_option maxRecDepth 100000 in
theorem wf_X5_loadOf_0 : ∀ q ∈ cl_X5_loadOf_0, wfE 26 q.1 q.2 = true := by decide +kernel
set_option maxRecDepth 100000 in
theorem wf_X5_borneBy_0 : ∀ q ∈ cl_X5_borneBy_0, wfE 27 q.1 q.2 = true := by decide +kernel
set_option maxRecDepth 100000 in
theorem wf_X5_sumUp_0 : ∀ q ∈ cl_X5_sumUp_0, wfE 28 q.1 q.2 = true := by decide +kernel
set_option maxRecDepth 100000 in
theorem wf_X5_sumUp_1 : ∀ q ∈ cl_X5_sumUp_1, wfE 28 q.1 q.2 = true := by decide +kernel
set_option maxRecDepth 100000 in
theorem wf_X5_handDown_0 : ∀ q ∈ cl_X5_handDown_0, wfE 29 q.1 q.2 = true := by decide +kernel
set_option maxRecDepth 100000 in
theorem wf_X5_handDown_1 : ∀ q ∈ cl_X5_handDown_1, wfE 29 q.1 q.2 = true := by decide +kernel
set_option maxRecDepth 100000 in
theorem wf_X5_handDown_2 : ∀ q ∈ cl_X5_handDown_2, wfE 29 q.1 q.2 = true := by decide +kernel
set_option maxRecDepth 100000 in
theorem wf_X5_loadFromAbove_0 : ∀ q ∈ cl_X5_loadFromAbove_0, wfE 30 q.1 q.2 = true := by decide +kernel
set_option maxRecDepth 100000 in
theorem wf_X5_sumFromAbove_0 : ∀ q ∈ cl_X5_sumFromAbove_0, wfE 31 q.1 q.2 = true := by decide +kernel
set_option maxRecDepth 100000 in
theorem wf_X5_sumFromAbove_1 : ∀ q ∈ cl_X5_sumFromAbove_1, wfE 31 q.1 q.2 = true := by decide +kernel
set_option maxRecDepth 100000 in
theorem wf_X5_firstOverloaded_0 : ∀ q ∈ cl_X5_firstOverloaded_0, wfE 32 q.1 q.2 = true := by decide +kernel
set_option maxRecDepth 100000 in
theorem wf_X5_mostBurdened_0 : ∀ q ∈ cl_X5_mostBurdened_0, wfE 33 q.1 q.2 = true := by decide +kernel
set_option maxRecDepth 100000 in
theorem wf_X5_mostBurdened_1 : ∀ q ∈ cl_X5_mostBurdened_1, wfE 33 q.1 q.2 = true := by decide +kernel
set_option maxRecDepth 100000 in
theorem wf_X6_init_0 : ∀ q ∈ cl_X6_init_0, wfE 34 q.1 q.2 = true := by decide +kernel
set_option maxRecDepth 100000 in
theorem wf_X6_hasSpace_0 : ∀ q ∈ cl_X6_hasSpace_0, wfE 35 q.1 q.2 = true := by decide +kernel
set_option maxRecDepth 100000 in
theorem wf_X6_add_0 : ∀ q ∈ cl_X6_add_0, wfE 36 q.1 q.2 = true := by decide +kernel
set_option maxRecDepth 100000 in
theorem wf_X6_empty_0 : ∀ q ∈ cl_X6_empty_0, wfE 37 q.1 q.2 = true := by decide +kernel
set_option maxRecDepth 100000 in
theorem wf_X6_inputLength_0 : ∀ q ∈ cl_X6_inputLength_0, wfE 38 q.1 q.2 = true := by decide +kernel
set_option maxRecDepth 100000 in
theorem wf_X6_errorOffset_0 : ∀ q ∈ cl_X6_errorOffset_0, wfE 39 q.1 q.2 = true := by decide +kernel
set_option maxRecDepth 100000 in
theorem wf_X6_number_0 : ∀ q ∈ cl_X6_number_0, wfE 40 q.1 q.2 = true := by decide +kernel
set_option maxRecDepth 100000 in
theorem wf_X6_signOf_0 : ∀ q ∈ cl_X6_signOf_0, wfE 41 q.1 q.2 = true := by decide +kernel
set_option maxRecDepth 100000 in
theorem wf_X6_firstOf_0 : ∀ q ∈ cl_X6_firstOf_0, wfE 42 q.1 q.2 = true := by decide +kernel
set_option maxRecDepth 100000 in
theorem wf_X6_secondOf_0 : ∀ q ∈ cl_X6_secondOf_0, wfE 43 q.1 q.2 = true := by decide +kernel
set_option maxRecDepth 100000 in
theorem wf_X6_thirdOf_0 : ∀ q ∈ cl_X6_thirdOf_0, wfE 44 q.1 q.2 = true := by decide +kernel
set_option maxRecDepth 100000 in
theorem wf_X6_understand_0 : ∀ q ∈ cl_X6_understand_0, wfE 45 q.1 q.2 = true := by decide +kernel
set_option maxRecDepth 100000 in
theorem wf_X6_understand_1 : ∀ q ∈ cl_X6_understand_1, wfE 45 q.1 q.2 = true := by decide +kernel
set_option maxRecDepth 100000 in
theorem wf_X6_readOrder_0 : ∀ q ∈ cl_X6_readOrder_0, wfE 46 q.1 q.2 = true := by decide +kernel
set_option maxRecDepth 100000 in
theorem wf_X6_readOrder_1 : ∀ q ∈ cl_X6_readOrder_1, wfE 46 q.1 q.2 = true := by decide +kernel
set_option maxRecDepth 100000 in
theorem wf_X6_readSawing_0 : ∀ q ∈ cl_X6_readSawing_0, wfE 47 q.1 q.2 = true := by decide +kernel
set_option maxRecDepth 100000 in
theorem wf_X6_readLaying_0 : ∀ q ∈ cl_X6_readLaying_0, wfE 48 q.1 q.2 = true := by decide +kernel
set_option maxRecDepth 100000 in
theorem wf_X6_readLaying_1 : ∀ q ∈ cl_X6_readLaying_1, wfE 48 q.1 q.2 = true := by decide +kernel
set_option maxRecDepth 100000 in
theorem wf_X6_readNumber_0 : ∀ q ∈ cl_X6_readNumber_0, wfE 49 q.1 q.2 = true := by decide +kernel
set_option maxRecDepth 100000 in
theorem wf_X6_readTemperature_0 : ∀ q ∈ cl_X6_readTemperature_0, wfE 50 q.1 q.2 = true := by decide +kernel
set_option maxRecDepth 100000 in
theorem wf_X6_note_0 : ∀ q ∈ cl_X6_note_0, wfE 51 q.1 q.2 = true := by decide +kernel
set_option maxRecDepth 100000 in
theorem wf_X6_note_1 : ∀ q ∈ cl_X6_note_1, wfE 51 q.1 q.2 = true := by decide +kernel
set_option maxRecDepth 100000 in
theorem wf_X6_goPast_0 : ∀ q ∈ cl_X6_goPast_0, wfE 52 q.1 q.2 = true := by decide +kernel
set_option maxRecDepth 100000 in
theorem wf_X6_digits_0 : ∀ q ∈ cl_X6_digits_0, wfE 53 q.1 q.2 = true := by decide +kernel
set_option maxRecDepth 100000 in
theorem wf_X6_digits_1 : ∀ q ∈ cl_X6_digits_1, wfE 53 q.1 q.2 = true := by decide +kernel
set_option maxRecDepth 100000 in
theorem wf_X7_init_0 : ∀ q ∈ cl_X7_init_0, wfE 54 q.1 q.2 = true := by decide +kernel
set_option maxRecDepth 100000 in
theorem wf_X7_heightOf_0 : ∀ q ∈ cl_X7_heightOf_0, wfE 55 q.1 q.2 = true := by decide +kernel
set_option maxRecDepth 100000 in
theorem wf_X7_measure_0 : ∀ q ∈ cl_X7_measure_0, wfE 56 q.1 q.2 = true := by decide +kernel
set_option maxRecDepth 100000 in
theorem wf_X7_isInShadow_0 : ∀ q ∈ cl_X7_isInShadow_0, wfE 57 q.1 q.2 = true := by decide +kernel
set_option maxRecDepth 100000 in
theorem wf_X7_isInShadow_1 : ∀ q ∈ cl_X7_isInShadow_1, wfE 57 q.1 q.2 = true := by decide +kernel
set_option maxRecDepth 100000 in
theorem wf_X7_isShadedFromLeft_0 : ∀ q ∈ cl_X7_isShadedFromLeft_0, wfE 58 q.1 q.2 = true := by decide +kernel
set_option maxRecDepth 100000 in
theorem wf_X7_isShadedFromRight_0 : ∀ q ∈ cl_X7_isShadedFromRight_0, wfE 59 q.1 q.2 = true := by decide +kernel
set_option maxRecDepth 100000 in
theorem wf_X7_roomNumber_0 : ∀ q ∈ cl_X7_roomNumber_0, wfE 60 q.1 q.2 = true := by decide +kernel
set_option maxRecDepth 100000 in
theorem wf_X7_roomNumber_1 : ∀ q ∈ cl_X7_roomNumber_1, wfE 60 q.1 q.2 = true := by decide +kernel
set_option maxRecDepth 100000 in
theorem wf_X8_init_0 : ∀ q ∈ cl_X8_init_0, wfE 61 q.1 q.2 = true := by decide +kernel
set_option maxRecDepth 100000 in
theorem wf_X8_init_1 : ∀ q ∈ cl_X8_init_1, wfE 61 q.1 q.2 = true := by decide +kernel
set_option maxRecDepth 100000 in
theorem wf_X8_init_2 : ∀ q ∈ cl_X8_init_2, wfE 61 q.1 q.2 = true := by decide +kernel
set_option maxRecDepth 100000 in
theorem wf_X8_fill_0 : ∀ q ∈ cl_X8_fill_0, wfE 62 q.1 q.2 = true := by decide +kernel
set_option maxRecDepth 100000 in
theorem wf_X8_copyRow_0 : ∀ q ∈ cl_X8_copyRow_0, wfE 63 q.1 q.2 = true := by decide +kernel
set_option maxRecDepth 100000 in
theorem wf_X8_copyFrom_0 : ∀ q ∈ cl_X8_copyFrom_0, wfE 64 q.1 q.2 = true := by decide +kernel
set_option maxRecDepth 100000 in
theorem wf_X8_copyFrom_1 : ∀ q ∈ cl_X8_copyFrom_1, wfE 64 q.1 q.2 = true := by decide +kernel
set_option maxRecDepth 100000 in
theorem wf_X8_copyFrom_2 : ∀ q ∈ cl_X8_copyFrom_2, wfE 64 q.1 q.2 = true := by decide +kernel
set_option maxRecDepth 100000 in
theorem wf_X8_isColumn_0 : ∀ q ∈ cl_X8_isColumn_0, wfE 65 q.1 q.2 = true := by decide +kernel
set_option maxRecDepth 100000 in
theorem wf_X8_isCourse_0 : ∀ q ∈ cl_X8_isCourse_0, wfE 66 q.1 q.2 = true := by decide +kernel
set_option maxRecDepth 100000 in
theorem wf_X8_isHour_0 : ∀ q ∈ cl_X8_isHour_0, wfE 67 q.1 q.2 = true := by decide +kernel
set_option maxRecDepth 100000 in
theorem wf_X8_isRack_0 : ∀ q ∈ cl_X8_isRack_0, wfE 68 q.1 q.2 = true := by decide +kernel
set_option maxRecDepth 100000 in
theorem wf_X8_isSawn_0 : ∀ q ∈ cl_X8_isSawn_0, wfE 69 q.1 q.2 = true := by decide +kernel
set_option maxRecDepth 100000 in
theorem wf_X8_isOnWall_0 : ∀ q ∈ cl_X8_isOnWall_0, wfE 70 q.1 q.2 = true := by decide +kernel
set_option maxRecDepth 100000 in
theorem wf_X8_isInRack_0 : ∀ q ∈ cl_X8_isInRack_0, wfE 71 q.1 q.2 = true := by decide +kernel
set_option maxRecDepth 100000 in
theorem wf_X8_isGone_0 : ∀ q ∈ cl_X8_isGone_0, wfE 72 q.1 q.2 = true := by decide +kernel
set_option maxRecDepth 100000 in
theorem wf_X8_massOf_0 : ∀ q ∈ cl_X8_massOf_0, wfE 73 q.1 q.2 = true := by decide +kernel
set_option maxRecDepth 100000 in
theorem wf_X8_hourOfDay_0 : ∀ q ∈ cl_X8_hourOfDay_0, wfE 74 q.1 q.2 = true := by decide +kernel
set_option maxRecDepth 100000 in
theorem wf_X8_temperatureAt_0 : ∀ q ∈ cl_X8_temperatureAt_0, wfE 75 q.1 q.2 = true := by decide +kernel
set_option maxRecDepth 100000 in
theorem wf_X8_blockAt_0 : ∀ q ∈ cl_X8_blockAt_0, wfE 76 q.1 q.2 = true := by decide +kernel
set_option maxRecDepth 100000 in
theorem wf_X8_blockInRack_0 : ∀ q ∈ cl_X8_blockInRack_0, wfE 77 q.1 q.2 = true := by decide +kernel
set_option maxRecDepth 100000 in
theorem wf_X8_freePlace_0 : ∀ q ∈ cl_X8_freePlace_0, wfE 78 q.1 q.2 = true := by decide +kernel
set_option maxRecDepth 100000 in
theorem wf_X8_supportedColumns_0 : ∀ q ∈ cl_X8_supportedColumns_0, wfE 79 q.1 q.2 = true := by decide +kernel
set_option maxRecDepth 100000 in
theorem wf_X8_supportOf_0 : ∀ q ∈ cl_X8_supportOf_0, wfE 80 q.1 q.2 = true := by decide +kernel
set_option maxRecDepth 100000 in
theorem wf_X8_isSupported_0 : ∀ q ∈ cl_X8_isSupported_0, wfE 81 q.1 q.2 = true := by decide +kernel
set_option maxRecDepth 100000 in
theorem wf_X8_sharedColumns_0 : ∀ q ∈ cl_X8_sharedColumns_0, wfE 82 q.1 q.2 = true := by decide +kernel
set_option maxRecDepth 100000 in
theorem wf_X8_sharedColumns_1 : ∀ q ∈ cl_X8_sharedColumns_1, wfE 82 q.1 q.2 = true := by decide +kernel
set_option maxRecDepth 100000 in
theorem wf_X8_addBlock_0 : ∀ q ∈ cl_X8_addBlock_0, wfE 83 q.1 q.2 = true := by decide +kernel
set_option maxRecDepth 100000 in
theorem wf_X8_addBlock_1 : ∀ q ∈ cl_X8_addBlock_1, wfE 83 q.1 q.2 = true := by decide +kernel
set_option maxRecDepth 100000 in
theorem wf_X8_putOnWall_0 : ∀ q ∈ cl_X8_putOnWall_0, wfE 84 q.1 q.2 = true := by decide +kernel
set_option maxRecDepth 100000 in
theorem wf_X8_remove_0 : ∀ q ∈ cl_X8_remove_0, wfE 85 q.1 q.2 = true := by decide +kernel
set_option maxRecDepth 100000 in
theorem wf_X8_remove_1 : ∀ q ∈ cl_X8_remove_1, wfE 85 q.1 q.2 = true := by decide +kernel
set_option maxRecDepth 100000 in
theorem wf_X8_leaveRack_0 : ∀ q ∈ cl_X8_leaveRack_0, wfE 86 q.1 q.2 = true := by decide +kernel
set_option maxRecDepth 100000 in
theorem wf_X8_markColumns_0 : ∀ q ∈ cl_X8_markColumns_0, wfE 87 q.1 q.2 = true := by decide +kernel
set_option maxRecDepth 100000 in
theorem wf_X8_markColumns_1 : ∀ q ∈ cl_X8_markColumns_1, wfE 87 q.1 q.2 = true := by decide +kernel
set_option maxRecDepth 100000 in
theorem wf_X8_numberOf_0 : ∀ q ∈ cl_X8_numberOf_0, wfE 88 q.1 q.2 = true := by decide +kernel
set_option maxRecDepth 100000 in
theorem wf_X8_numberOf_1 : ∀ q ∈ cl_X8_numberOf_1, wfE 88 q.1 q.2 = true := by decide +kernel
set_option maxRecDepth 100000 in
theorem wf_X8_signOf_0 : ∀ q ∈ cl_X8_signOf_0, wfE 89 q.1 q.2 = true := by decide +kernel
set_option maxRecDepth 100000 in
theorem wf_X8_accountOf_0 : ∀ q ∈ cl_X8_accountOf_0, wfE 90 q.1 q.2 = true := by decide +kernel
set_option maxRecDepth 100000 in
theorem wf_X8_countOnWall_0 : ∀ q ∈ cl_X8_countOnWall_0, wfE 91 q.1 q.2 = true := by decide +kernel
set_option maxRecDepth 100000 in
theorem wf_X8_countStates_0 : ∀ q ∈ cl_X8_countStates_0, wfE 92 q.1 q.2 = true := by decide +kernel
set_option maxRecDepth 100000 in
theorem wf_X8_countCauses_0 : ∀ q ∈ cl_X8_countCauses_0, wfE 93 q.1 q.2 = true := by decide +kernel
set_option maxRecDepth 100000 in
theorem wf_X8_countFilledColumns_0 : ∀ q ∈ cl_X8_countFilledColumns_0, wfE 94 q.1 q.2 = true := by decide +kernel
set_option maxRecDepth 100000 in
theorem wf_X8_sumOfMasses_0 : ∀ q ∈ cl_X8_sumOfMasses_0, wfE 95 q.1 q.2 = true := by decide +kernel
set_option maxRecDepth 100000 in
theorem wf_X9_init_0 : ∀ q ∈ cl_X9_init_0, wfE 96 q.1 q.2 = true := by decide +kernel
set_option maxRecDepth 100000 in
theorem wf_X9_faultOf_0 : ∀ q ∈ cl_X9_faultOf_0, wfE 97 q.1 q.2 = true := by decide +kernel
set_option maxRecDepth 100000 in
theorem wf_X9_faultOf_1 : ∀ q ∈ cl_X9_faultOf_1, wfE 97 q.1 q.2 = true := by decide +kernel
set_option maxRecDepth 100000 in
theorem wf_X9_perform_0 : ∀ q ∈ cl_X9_perform_0, wfE 98 q.1 q.2 = true := by decide +kernel
set_option maxRecDepth 100000 in
theorem wf_X9_perform_1 : ∀ q ∈ cl_X9_perform_1, wfE 98 q.1 q.2 = true := by decide +kernel
set_option maxRecDepth 100000 in
theorem wf_X9_refuse_0 : ∀ q ∈ cl_X9_refuse_0, wfE 99 q.1 q.2 = true := by decide +kernel
set_option maxRecDepth 100000 in
theorem wf_X9_faultOfTemperature_0 : ∀ q ∈ cl_X9_faultOfTemperature_0, wfE 100 q.1 q.2 = true := by decide +kernel
set_option maxRecDepth 100000 in
theorem wf_X9_setTemperature_0 : ∀ q ∈ cl_X9_setTemperature_0, wfE 101 q.1 q.2 = true := by decide +kernel
set_option maxRecDepth 100000 in
theorem wf_X9_setVisitors_0 : ∀ q ∈ cl_X9_setVisitors_0, wfE 102 q.1 q.2 = true := by decide +kernel
set_option maxRecDepth 100000 in
theorem wf_X9_faultOfSawing_0 : ∀ q ∈ cl_X9_faultOfSawing_0, wfE 103 q.1 q.2 = true := by decide +kernel
set_option maxRecDepth 100000 in
theorem wf_X9_faultOfSawing_1 : ∀ q ∈ cl_X9_faultOfSawing_1, wfE 103 q.1 q.2 = true := by decide +kernel
set_option maxRecDepth 100000 in
theorem wf_X9_faultOfLaying_0 : ∀ q ∈ cl_X9_faultOfLaying_0, wfE 104 q.1 q.2 = true := by decide +kernel
set_option maxRecDepth 100000 in
theorem wf_X9_faultOfLaying_1 : ∀ q ∈ cl_X9_faultOfLaying_1, wfE 104 q.1 q.2 = true := by decide +kernel
set_option maxRecDepth 100000 in
theorem wf_X9_faultOfTaking_0 : ∀ q ∈ cl_X9_faultOfTaking_0, wfE 105 q.1 q.2 = true := by decide +kernel
set_option maxRecDepth 100000 in
theorem wf_X10_init_0 : ∀ q ∈ cl_X10_init_0, wfE 106 q.1 q.2 = true := by decide +kernel
set_option maxRecDepth 100000 in
theorem wf_X10_init_1 : ∀ q ∈ cl_X10_init_1, wfE 106 q.1 q.2 = true := by decide +kernel
set_option maxRecDepth 100000 in
theorem wf_X10_heat_0 : ∀ q ∈ cl_X10_heat_0, wfE 107 q.1 q.2 = true := by decide +kernel
set_option maxRecDepth 100000 in
theorem wf_X10_visit_0 : ∀ q ∈ cl_X10_visit_0, wfE 108 q.1 q.2 = true := by decide +kernel
set_option maxRecDepth 100000 in
theorem wf_X10_saw_0 : ∀ q ∈ cl_X10_saw_0, wfE 109 q.1 q.2 = true := by decide +kernel
set_option maxRecDepth 100000 in
theorem wf_X10_lay_0 : ∀ q ∈ cl_X10_lay_0, wfE 110 q.1 q.2 = true := by decide +kernel
set_option maxRecDepth 100000 in
theorem wf_X10_take_0 : ∀ q ∈ cl_X10_take_0, wfE 111 q.1 q.2 = true := by decide +kernel
set_option maxRecDepth 100000 in
theorem wf_X10_pass_0 : ∀ q ∈ cl_X10_pass_0, wfE 112 q.1 q.2 = true := by decide +kernel
set_option maxRecDepth 100000 in
theorem wf_X10_blockOf_0 : ∀ q ∈ cl_X10_blockOf_0, wfE 113 q.1 q.2 = true := by decide +kernel
set_option maxRecDepth 100000 in
theorem wf_X10_mass_0 : ∀ q ∈ cl_X10_mass_0, wfE 114 q.1 q.2 = true := by decide +kernel
set_option maxRecDepth 100000 in
theorem wf_X10_load_0 : ∀ q ∈ cl_X10_load_0, wfE 115 q.1 q.2 = true := by decide +kernel
set_option maxRecDepth 100000 in
theorem wf_X10_loadAgain_0 : ∀ q ∈ cl_X10_loadAgain_0, wfE 116 q.1 q.2 = true := by decide +kernel
set_option maxRecDepth 100000 in
theorem wf_X10_at_0 : ∀ q ∈ cl_X10_at_0, wfE 117 q.1 q.2 = true := by decide +kernel
set_option maxRecDepth 100000 in
theorem wf_X10_height_0 : ∀ q ∈ cl_X10_height_0, wfE 118 q.1 q.2 = true := by decide +kernel
set_option maxRecDepth 100000 in
theorem wf_X10_isShady_0 : ∀ q ∈ cl_X10_isShady_0, wfE 119 q.1 q.2 = true := by decide +kernel
set_option maxRecDepth 100000 in
theorem wf_X10_sign_0 : ∀ q ∈ cl_X10_sign_0, wfE 120 q.1 q.2 = true := by decide +kernel
set_option maxRecDepth 100000 in
theorem wf_X10_rooms_0 : ∀ q ∈ cl_X10_rooms_0, wfE 121 q.1 q.2 = true := by decide +kernel
set_option maxRecDepth 100000 in
theorem wf_X10_inRack_0 : ∀ q ∈ cl_X10_inRack_0, wfE 122 q.1 q.2 = true := by decide +kernel
set_option maxRecDepth 100000 in
theorem wf_X10_worst_0 : ∀ q ∈ cl_X10_worst_0, wfE 123 q.1 q.2 = true := by decide +kernel
set_option maxRecDepth 100000 in
theorem wf_X10_goneIn_0 : ∀ q ∈ cl_X10_goneIn_0, wfE 124 q.1 q.2 = true := by decide +kernel
set_option maxRecDepth 100000 in
theorem wf_X10_massBits_0 : ∀ q ∈ cl_X10_massBits_0, wfE 125 q.1 q.2 = true := by decide +kernel
set_option maxRecDepth 100000 in
theorem wf_X10_safe_0 : ∀ q ∈ cl_X10_safe_0, wfE 126 q.1 q.2 = true := by decide +kernel
set_option maxRecDepth 100000 in
theorem wf_X10_left_0 : ∀ q ∈ cl_X10_left_0, wfE 127 q.1 q.2 = true := by decide +kernel
set_option maxRecDepth 100000 in
theorem wf_X10_append_0 : ∀ q ∈ cl_X10_append_0, wfE 128 q.1 q.2 = true := by decide +kernel
set_option maxRecDepth 100000 in
theorem wf_X10_read_0 : ∀ q ∈ cl_X10_read_0, wfE 129 q.1 q.2 = true := by decide +kernel
set_option maxRecDepth 100000 in
theorem wf_X10_read_1 : ∀ q ∈ cl_X10_read_1, wfE 129 q.1 q.2 = true := by decide +kernel
set_option maxRecDepth 100000 in
theorem wf_X10_read_2 : ∀ q ∈ cl_X10_read_2, wfE 129 q.1 q.2 = true := by decide +kernel
set_option maxRecDepth 100000 in
theorem wf_X10_errorPosition_0 : ∀ q ∈ cl_X10_errorPosition_0, wfE 130 q.1 q.2 = true := by decide +kernel
set_option maxRecDepth 100000 in
theorem wf_X10_account_0 : ∀ q ∈ cl_X10_account_0, wfE 131 q.1 q.2 = true := by decide +kernel
set_option maxRecDepth 100000 in
theorem wf_X10_isWell_0 : ∀ q ∈ cl_X10_isWell_0, wfE 132 q.1 q.2 = true := by decide +kernel
set_option maxRecDepth 100000 in
theorem wf_X10_meanBits_0 : ∀ q ∈ cl_X10_meanBits_0, wfE 133 q.1 q.2 = true := by decide +kernel
set_option maxRecDepth 100000 in
theorem wf_X10_undo_0 : ∀ q ∈ cl_X10_undo_0, wfE 134 q.1 q.2 = true := by decide +kernel
set_option maxRecDepth 100000 in
theorem wf_X10_save_0 : ∀ q ∈ cl_X10_save_0, wfE 135 q.1 q.2 = true := by decide +kernel
set_option maxRecDepth 100000 in
theorem wf_X10_restore_0 : ∀ q ∈ cl_X10_restore_0, wfE 136 q.1 q.2 = true := by decide +kernel
set_option maxRecDepth 100000 in
theorem wf_X10_permit_0 : ∀ q ∈ cl_X10_permit_0, wfE 137 q.1 q.2 = true := by decide +kernel
set_option maxRecDepth 100000 in
theorem wf_X10_requireSawn_0 : ∀ q ∈ cl_X10_requireSawn_0, wfE 138 q.1 q.2 = true := by decide +kernel
set_option maxRecDepth 100000 in
theorem wf_X10_requireOnWall_0 : ∀ q ∈ cl_X10_requireOnWall_0, wfE 139 q.1 q.2 = true := by decide +kernel
set_option maxRecDepth 100000 in
theorem wf_X10_requireHoursAhead_0 : ∀ q ∈ cl_X10_requireHoursAhead_0, wfE 140 q.1 q.2 = true := by decide +kernel
set_option maxRecDepth 100000 in
theorem wf_Jx00060_init_a7421_0 : ∀ q ∈ cl_Jx00060_init_a7421_0, wfE 141 q.1 q.2 = true := by decide +kernel
set_option maxRecDepth 100000 in
theorem wf_J11_isValidCodePoint_9a6ad_0 : ∀ q ∈ cl_J11_isValidCodePoint_9a6ad_0, wfE 142 q.1 q.2 = true := by decide +kernel
set_option maxRecDepth 100000 in
theorem wf_J11_highSurrogate_5068e_0 : ∀ q ∈ cl_J11_highSurrogate_5068e_0, wfE 143 q.1 q.2 = true := by decide +kernel
set_option maxRecDepth 100000 in
theorem wf_J11_lowSurrogate_5068e_0 : ∀ q ∈ cl_J11_lowSurrogate_5068e_0, wfE 144 q.1 q.2 = true := by decide +kernel
set_option maxRecDepth 100000 in
theorem wf_Jxe99ae_isNaN_b9ae7_0 : ∀ q ∈ cl_Jxe99ae_isNaN_b9ae7_0, wfE 145 q.1 q.2 = true := by decide +kernel
set_option maxRecDepth 100000 in
theorem wf_Jxe99ae_doubleToLongBits_ccdee_0 : ∀ q ∈ cl_Jxe99ae_doubleToLongBits_ccdee_0, wfE 146 q.1 q.2 = true := by decide +kernel
set_option maxRecDepth 100000 in
theorem wf_J9_floorMod_7cf53_0 : ∀ q ∈ cl_J9_floorMod_7cf53_0, wfE 147 q.1 q.2 = true := by decide +kernel
set_option maxRecDepth 100000 in
theorem wf_J9_max_7cf53_0 : ∀ q ∈ cl_J9_max_7cf53_0, wfE 148 q.1 q.2 = true := by decide +kernel
set_option maxRecDepth 100000 in
theorem wf_J9_min_7cf53_0 : ∀ q ∈ cl_J9_min_7cf53_0, wfE 149 q.1 q.2 = true := by decide +kernel
set_option maxRecDepth 100000 in
theorem wf_J0_length_8abf5_0 : ∀ q ∈ cl_J0_length_8abf5_0, wfE 150 q.1 q.2 = true := by decide +kernel
set_option maxRecDepth 100000 in
theorem wf_J0_charAt_5068e_0 : ∀ q ∈ cl_J0_charAt_5068e_0, wfE 151 q.1 q.2 = true := by decide +kernel
set_option maxRecDepth 100000 in
theorem wf_J0_indexOf_0f7a4_0 : ∀ q ∈ cl_J0_indexOf_0f7a4_0, wfE 152 q.1 q.2 = true := by decide +kernel
set_option maxRecDepth 100000 in
theorem wf_J0_indexOf_7cf53_0 : ∀ q ∈ cl_J0_indexOf_7cf53_0, wfE 153 q.1 q.2 = true := by decide +kernel
set_option maxRecDepth 100000 in
theorem wf_J0_coder_7d493_0 : ∀ q ∈ cl_J0_coder_7d493_0, wfE 154 q.1 q.2 = true := by decide +kernel
set_option maxRecDepth 100000 in
theorem wf_J0_isLatin1_aae02_0 : ∀ q ∈ cl_J0_isLatin1_aae02_0, wfE 155 q.1 q.2 = true := by decide +kernel
set_option maxRecDepth 100000 in
theorem wf_J0_checkIndex_df160_0 : ∀ q ∈ cl_J0_checkIndex_df160_0, wfE 156 q.1 q.2 = true := by decide +kernel
set_option maxRecDepth 100000 in
theorem wf_J0_checkBoundsBeginEnd_23922_0 : ∀ q ∈ cl_J0_checkBoundsBeginEnd_23922_0, wfE 157 q.1 q.2 = true := by decide +kernel
set_option maxRecDepth 100000 in
theorem wf_J1_charAt_3b067_0 : ∀ q ∈ cl_J1_charAt_3b067_0, wfE 158 q.1 q.2 = true := by decide +kernel
set_option maxRecDepth 100000 in
theorem wf_J1_canEncode_9a6ad_0 : ∀ q ∈ cl_J1_canEncode_9a6ad_0, wfE 159 q.1 q.2 = true := by decide +kernel
set_option maxRecDepth 100000 in
theorem wf_J1_indexOf_4cfef_0 : ∀ q ∈ cl_J1_indexOf_4cfef_0, wfE 160 q.1 q.2 = true := by decide +kernel
set_option maxRecDepth 100000 in
theorem wf_J1_indexOfChar_4cfef_0 : ∀ q ∈ cl_J1_indexOfChar_4cfef_0, wfE 161 q.1 q.2 = true := by decide +kernel
set_option maxRecDepth 100000 in
theorem wf_J2_getChar_3b067_0 : ∀ q ∈ cl_J2_getChar_3b067_0, wfE 162 q.1 q.2 = true := by decide +kernel
set_option maxRecDepth 100000 in
theorem wf_J2_length_9d52b_0 : ∀ q ∈ cl_J2_length_9d52b_0, wfE 163 q.1 q.2 = true := by decide +kernel
set_option maxRecDepth 100000 in
theorem wf_J2_indexOf_4cfef_0 : ∀ q ∈ cl_J2_indexOf_4cfef_0, wfE 164 q.1 q.2 = true := by decide +kernel
set_option maxRecDepth 100000 in
theorem wf_J2_indexOfChar_4cfef_0 : ∀ q ∈ cl_J2_indexOfChar_4cfef_0, wfE 165 q.1 q.2 = true := by decide +kernel
set_option maxRecDepth 100000 in
theorem wf_J2_indexOfCharUnsafe_4cfef_0 : ∀ q ∈ cl_J2_indexOfCharUnsafe_4cfef_0, wfE 166 q.1 q.2 = true := by decide +kernel
set_option maxRecDepth 100000 in
theorem wf_J2_indexOfSupplementary_4cfef_0 : ∀ q ∈ cl_J2_indexOfSupplementary_4cfef_0, wfE 167 q.1 q.2 = true := by decide +kernel
set_option maxRecDepth 100000 in
theorem wf_J2_charAt_3b067_0 : ∀ q ∈ cl_J2_charAt_3b067_0, wfE 168 q.1 q.2 = true := by decide +kernel
set_option maxRecDepth 100000 in
theorem wf_J2_checkIndex_2214a_0 : ∀ q ∈ cl_J2_checkIndex_2214a_0, wfE 169 q.1 q.2 = true := by decide +kernel
set_option maxRecDepth 100000 in
theorem wf_J2_checkBoundsBeginEnd_d044e_0 : ∀ q ∈ cl_J2_checkBoundsBeginEnd_d044e_0, wfE 170 q.1 q.2 = true := by decide +kernel
set_option maxRecDepth 100000 in
theorem wf_J3_checkIndex_8e157_0 : ∀ q ∈ cl_J3_checkIndex_8e157_0, wfE 171 q.1 q.2 = true := by decide +kernel
set_option maxRecDepth 100000 in
theorem wf_J3_checkFromToIndex_8c36e_0 : ∀ q ∈ cl_J3_checkFromToIndex_8c36e_0, wfE 172 q.1 q.2 = true := by decide +kernel
set_option maxRecDepth 100000 in
theorem wf_L_cell_0 : ∀ q ∈ cl_L_cell_0, wfE 173 q.1 q.2 = true := by decide +kernel
set_option maxRecDepth 100000 in
theorem wf_L_heat_0 : ∀ q ∈ cl_L_heat_0, wfE 174 q.1 q.2 = true := by decide +kernel
set_option maxRecDepth 100000 in
theorem wf_L_visit_0 : ∀ q ∈ cl_L_visit_0, wfE 175 q.1 q.2 = true := by decide +kernel
set_option maxRecDepth 100000 in
theorem wf_L_saw_0 : ∀ q ∈ cl_L_saw_0, wfE 176 q.1 q.2 = true := by decide +kernel
set_option maxRecDepth 100000 in
theorem wf_L_lay_0 : ∀ q ∈ cl_L_lay_0, wfE 177 q.1 q.2 = true := by decide +kernel
set_option maxRecDepth 100000 in
theorem wf_L_take_0 : ∀ q ∈ cl_L_take_0, wfE 178 q.1 q.2 = true := by decide +kernel
set_option maxRecDepth 100000 in
theorem wf_L_pass_0 : ∀ q ∈ cl_L_pass_0, wfE 179 q.1 q.2 = true := by decide +kernel
set_option maxRecDepth 100000 in
theorem wf_L_goneIn_0 : ∀ q ∈ cl_L_goneIn_0, wfE 180 q.1 q.2 = true := by decide +kernel
set_option maxRecDepth 100000 in
theorem wf_L_safe_0 : ∀ q ∈ cl_L_safe_0, wfE 181 q.1 q.2 = true := by decide +kernel
set_option maxRecDepth 100000 in
theorem wf_L_worst_0 : ∀ q ∈ cl_L_worst_0, wfE 182 q.1 q.2 = true := by decide +kernel
set_option maxRecDepth 100000 in
theorem wf_L_read_0 : ∀ q ∈ cl_L_read_0, wfE 183 q.1 q.2 = true := by decide +kernel
set_option maxRecDepth 100000 in
theorem wf_L_undo_0 : ∀ q ∈ cl_L_undo_0, wfE 184 q.1 q.2 = true := by decide +kernel
set_option maxRecDepth 100000 in
theorem wf_L_restore_0 : ∀ q ∈ cl_L_restore_0, wfE 185 q.1 q.2 = true := by decide +kernel
set_option maxRecDepth 100000 in
theorem wf_L_meanBits_0 : ∀ q ∈ cl_L_meanBits_0, wfE 186 q.1 q.2 = true := by decide +kernel
set_option maxRecDepth 100000 in
theorem wf_L_append_0 : ∀ q ∈ cl_L_append_0, wfE 187 q.1 q.2 = true := by decide +kernel
set_option maxRecDepth 100000 in
theorem wf_L_write_0 : ∀ q ∈ cl_L_write_0, wfE 188 q.1 q.2 = true := by decide +kernel
set_option maxRecDepth 100000 in
theorem wf_L_act_0 : ∀ q ∈ cl_L_act_0, wfE 189 q.1 q.2 = true := by decide +kernel
set_option maxRecDepth 100000 in
theorem wf_L_act_1 : ∀ q ∈ cl_L_act_1, wfE 189 q.1 q.2 = true := by decide +kernel
set_option maxRecDepth 100000 in
theorem wf_L_act_2 : ∀ q ∈ cl_L_act_2, wfE 189 q.1 q.2 = true := by decide +kernel
set_option maxRecDepth 100000 in
theorem wf_L_act_3 : ∀ q ∈ cl_L_act_3, wfE 189 q.1 q.2 = true := by decide +kernel
set_option maxRecDepth 100000 in
theorem wf_L_digest_0 : ∀ q ∈ cl_L_digest_0, wfE 190 q.1 q.2 = true := by decide +kernel
set_option maxRecDepth 100000 in
theorem wf_L_digest_1 : ∀ q ∈ cl_L_digest_1, wfE 190 q.1 q.2 = true := by decide +kernel
set_option maxRecDepth 100000 in
theorem wf_L_digest_2 : ∀ q ∈ cl_L_digest_2, wfE 190 q.1 q.2 = true := by decide +kernel
set_option maxRecDepth 100000 in
theorem wf_L_areBlocks_0 : ∀ q ∈ cl_L_areBlocks_0, wfE 191 q.1 q.2 = true := by decide +kernel
set_option maxRecDepth 100000 in
theorem wf_L_areBlocks_1 : ∀ q ∈ cl_L_areBlocks_1, wfE 191 q.1 q.2 = true := by decide +kernel
set_option maxRecDepth 100000 in
theorem wf_L_areBlocks_2 : ∀ q ∈ cl_L_areBlocks_2, wfE 191 q.1 q.2 = true := by decide +kernel
set_option maxRecDepth 100000 in
theorem wf_L_areBlocks_3 : ∀ q ∈ cl_L_areBlocks_3, wfE 191 q.1 q.2 = true := by decide +kernel
set_option maxRecDepth 100000 in
theorem wf_L_areBlocks_4 : ∀ q ∈ cl_L_areBlocks_4, wfE 191 q.1 q.2 = true := by decide +kernel
set_option maxRecDepth 100000 in
theorem wf_L_areBlocks_5 : ∀ q ∈ cl_L_areBlocks_5, wfE 191 q.1 q.2 = true := by decide +kernel
set_option maxRecDepth 100000 in
theorem wf_L_areLoads_0 : ∀ q ∈ cl_L_areLoads_0, wfE 192 q.1 q.2 = true := by decide +kernel
set_option maxRecDepth 100000 in
theorem wf_L_areLoads_1 : ∀ q ∈ cl_L_areLoads_1, wfE 192 q.1 q.2 = true := by decide +kernel
set_option maxRecDepth 100000 in
theorem wf_L_areLoads_2 : ∀ q ∈ cl_L_areLoads_2, wfE 192 q.1 q.2 = true := by decide +kernel
set_option maxRecDepth 100000 in
theorem wf_L_areLoads_3 : ∀ q ∈ cl_L_areLoads_3, wfE 192 q.1 q.2 = true := by decide +kernel
set_option maxRecDepth 100000 in
theorem wf_L_areRooms_0 : ∀ q ∈ cl_L_areRooms_0, wfE 193 q.1 q.2 = true := by decide +kernel
set_option maxRecDepth 100000 in
theorem wf_L_areRooms_1 : ∀ q ∈ cl_L_areRooms_1, wfE 193 q.1 q.2 = true := by decide +kernel
set_option maxRecDepth 100000 in
theorem wf_L_areRooms_2 : ∀ q ∈ cl_L_areRooms_2, wfE 193 q.1 q.2 = true := by decide +kernel
set_option maxRecDepth 100000 in
theorem wf_L_isFit_0 : ∀ q ∈ cl_L_isFit_0, wfE 194 q.1 q.2 = true := by decide +kernel
set_option maxRecDepth 100000 in
theorem wf_L_isAhead_0 : ∀ q ∈ cl_L_isAhead_0, wfE 195 q.1 q.2 = true := by decide +kernel
set_option maxRecDepth 100000 in
theorem wf_L_isAhead_1 : ∀ q ∈ cl_L_isAhead_1, wfE 195 q.1 q.2 = true := by decide +kernel
set_option maxRecDepth 100000 in
theorem wf_L_isAhead_2 : ∀ q ∈ cl_L_isAhead_2, wfE 195 q.1 q.2 = true := by decide +kernel
set_option maxRecDepth 100000 in
theorem wf_L_isGone_0 : ∀ q ∈ cl_L_isGone_0, wfE 196 q.1 q.2 = true := by decide +kernel
set_option maxRecDepth 100000 in
theorem wf_L_isGone_1 : ∀ q ∈ cl_L_isGone_1, wfE 196 q.1 q.2 = true := by decide +kernel
set_option maxRecDepth 100000 in
theorem wf_L_isSafe_0 : ∀ q ∈ cl_L_isSafe_0, wfE 197 q.1 q.2 = true := by decide +kernel
set_option maxRecDepth 100000 in
theorem wf_L_isSafe_1 : ∀ q ∈ cl_L_isSafe_1, wfE 197 q.1 q.2 = true := by decide +kernel
set_option maxRecDepth 100000 in
theorem wf_L_isSafe_2 : ∀ q ∈ cl_L_isSafe_2, wfE 197 q.1 q.2 = true := by decide +kernel
theorem wd_X0_init (pc : Nat) : ∀ q ∈ cd_X0_init pc, wfE 0 q.1 q.2 = true := wf_X0_init_0
theorem wd_X0_hoursToFirstGone (pc : Nat) : ∀ q ∈ cd_X0_hoursToFirstGone pc, wfE 1 q.1 q.2 = true := wf_X0_hoursToFirstGone_0
theorem wd_X0_bitsOfMass (pc : Nat) : ∀ q ∈ cd_X0_bitsOfMass pc, wfE 2 q.1 q.2 = true := wf_X0_bitsOfMass_0
theorem wd_X0_blocksOnWall (pc : Nat) : ∀ q ∈ cd_X0_blocksOnWall pc, wfE 3 q.1 q.2 = true := wf_X0_blocksOnWall_0
theorem wd_X0_isSafeFor (pc : Nat) : ∀ q ∈ cd_X0_isSafeFor pc, wfE 4 q.1 q.2 = true := wf_X0_isSafeFor_0
theorem wd_X1_isAllWell (pc : Nat) : ∀ q ∈ cd_X1_isAllWell pc, wfE 5 q.1 q.2 = true := wf_X1_isAllWell_0
theorem wd_X1_isSomewhere (pc : Nat) : ∀ q ∈ cd_X1_isSomewhere pc, wfE 6 q.1 q.2 = true := tB (P := fun q : List (Nat × Ent) => ∀ x ∈ q, wfE 6 x.1 x.2 = true) (wf_X1_isSomewhere_0) (wf_X1_isSomewhere_1)
theorem wd_X1_isFirm (pc : Nat) : ∀ q ∈ cd_X1_isFirm pc, wfE 7 q.1 q.2 = true := wf_X1_isFirm_0
theorem wd_X1_countIn (pc : Nat) : ∀ q ∈ cd_X1_countIn pc, wfE 8 q.1 q.2 = true := wf_X1_countIn_0
theorem wd_X2_ofFloat (pc : Nat) : ∀ q ∈ cd_X2_ofFloat pc, wfE 9 q.1 q.2 = true := tB (P := fun q : List (Nat × Ent) => ∀ x ∈ q, wfE 9 x.1 x.2 = true) (wf_X2_ofFloat_0) (wf_X2_ofFloat_1)
theorem wd_X2_ofDouble (pc : Nat) : ∀ q ∈ cd_X2_ofDouble pc, wfE 10 q.1 q.2 = true := wf_X2_ofDouble_0
theorem wd_X3_init (pc : Nat) : ∀ q ∈ cd_X3_init pc, wfE 11 q.1 q.2 = true := wf_X3_init_0
theorem wd_X3_number (pc : Nat) : ∀ q ∈ cd_X3_number pc, wfE 12 q.1 q.2 = true := wf_X3_number_0
theorem wd_X3_remember (pc : Nat) : ∀ q ∈ cd_X3_remember pc, wfE 13 q.1 q.2 = true := wf_X3_remember_0
theorem wd_X3_goBack (pc : Nat) : ∀ q ∈ cd_X3_goBack pc, wfE 14 q.1 q.2 = true := wf_X3_goBack_0
theorem wd_X3_forget (pc : Nat) : ∀ q ∈ cd_X3_forget pc, wfE 15 q.1 q.2 = true := wf_X3_forget_0
theorem wd_X4_init (pc : Nat) : ∀ q ∈ cd_X4_init pc, wfE 16 q.1 q.2 = true := wf_X4_init_0
theorem wd_X4_letGoBy (pc : Nat) : ∀ q ∈ cd_X4_letGoBy pc, wfE 17 q.1 q.2 = true := tB (P := fun q : List (Nat × Ent) => ∀ x ∈ q, wfE 17 x.1 x.2 = true) (wf_X4_letGoBy_0) (wf_X4_letGoBy_1)
theorem wd_X4_changeIce (pc : Nat) : ∀ q ∈ cd_X4_changeIce pc, wfE 18 q.1 q.2 = true := wf_X4_changeIce_0
theorem wd_X4_changeJoints (pc : Nat) : ∀ q ∈ cd_X4_changeJoints pc, wfE 19 q.1 q.2 = true := tB (P := fun q : List (Nat × Ent) => ∀ x ∈ q, wfE 19 x.1 x.2 = true) (wf_X4_changeJoints_0) (wf_X4_changeJoints_1)
theorem wd_X4_melt (pc : Nat) : ∀ q ∈ cd_X4_melt pc, wfE 20 q.1 q.2 = true := tB (P := fun q : List (Nat × Ent) => ∀ x ∈ q, wfE 20 x.1 x.2 = true) (wf_X4_melt_0) (wf_X4_melt_1)
theorem wd_X4_warm (pc : Nat) : ∀ q ∈ cd_X4_warm pc, wfE 21 q.1 q.2 = true := wf_X4_warm_0
theorem wd_X4_removeMelted (pc : Nat) : ∀ q ∈ cd_X4_removeMelted pc, wfE 22 q.1 q.2 = true := wf_X4_removeMelted_0
theorem wd_X4_dropUnsupported (pc : Nat) : ∀ q ∈ cd_X4_dropUnsupported pc, wfE 23 q.1 q.2 = true := wf_X4_dropUnsupported_0
theorem wd_X4_breakOverloaded (pc : Nat) : ∀ q ∈ cd_X4_breakOverloaded pc, wfE 24 q.1 q.2 = true := wf_X4_breakOverloaded_0
theorem wd_X5_init (pc : Nat) : ∀ q ∈ cd_X5_init pc, wfE 25 q.1 q.2 = true := wf_X5_init_0
theorem wd_X5_loadOf (pc : Nat) : ∀ q ∈ cd_X5_loadOf pc, wfE 26 q.1 q.2 = true := wf_X5_loadOf_0
theorem wd_X5_borneBy (pc : Nat) : ∀ q ∈ cd_X5_borneBy pc, wfE 27 q.1 q.2 = true := wf_X5_borneBy_0
theorem wd_X5_sumUp (pc : Nat) : ∀ q ∈ cd_X5_sumUp pc, wfE 28 q.1 q.2 = true := tB (P := fun q : List (Nat × Ent) => ∀ x ∈ q, wfE 28 x.1 x.2 = true) (wf_X5_sumUp_0) (wf_X5_sumUp_1)
theorem wd_X5_handDown (pc : Nat) : ∀ q ∈ cd_X5_handDown pc, wfE 29 q.1 q.2 = true := tB (P := fun q : List (Nat × Ent) => ∀ x ∈ q, wfE 29 x.1 x.2 = true) (wf_X5_handDown_0) (tB (P := fun q : List (Nat × Ent) => ∀ x ∈ q, wfE 29 x.1 x.2 = true) (wf_X5_handDown_1) (wf_X5_handDown_2))
theorem wd_X5_loadFromAbove (pc : Nat) : ∀ q ∈ cd_X5_loadFromAbove pc, wfE 30 q.1 q.2 = true := wf_X5_loadFromAbove_0
theorem wd_X5_sumFromAbove (pc : Nat) : ∀ q ∈ cd_X5_sumFromAbove pc, wfE 31 q.1 q.2 = true := tB (P := fun q : List (Nat × Ent) => ∀ x ∈ q, wfE 31 x.1 x.2 = true) (wf_X5_sumFromAbove_0) (wf_X5_sumFromAbove_1)
theorem wd_X5_firstOverloaded (pc : Nat) : ∀ q ∈ cd_X5_firstOverloaded pc, wfE 32 q.1 q.2 = true := wf_X5_firstOverloaded_0
theorem wd_X5_mostBurdened (pc : Nat) : ∀ q ∈ cd_X5_mostBurdened pc, wfE 33 q.1 q.2 = true := tB (P := fun q : List (Nat × Ent) => ∀ x ∈ q, wfE 33 x.1 x.2 = true) (wf_X5_mostBurdened_0) (wf_X5_mostBurdened_1)
theorem wd_X6_init (pc : Nat) : ∀ q ∈ cd_X6_init pc, wfE 34 q.1 q.2 = true := wf_X6_init_0
theorem wd_X6_hasSpace (pc : Nat) : ∀ q ∈ cd_X6_hasSpace pc, wfE 35 q.1 q.2 = true := wf_X6_hasSpace_0
theorem wd_X6_add (pc : Nat) : ∀ q ∈ cd_X6_add pc, wfE 36 q.1 q.2 = true := wf_X6_add_0
theorem wd_X6_empty (pc : Nat) : ∀ q ∈ cd_X6_empty pc, wfE 37 q.1 q.2 = true := wf_X6_empty_0
theorem wd_X6_inputLength (pc : Nat) : ∀ q ∈ cd_X6_inputLength pc, wfE 38 q.1 q.2 = true := wf_X6_inputLength_0
theorem wd_X6_errorOffset (pc : Nat) : ∀ q ∈ cd_X6_errorOffset pc, wfE 39 q.1 q.2 = true := wf_X6_errorOffset_0
theorem wd_X6_number (pc : Nat) : ∀ q ∈ cd_X6_number pc, wfE 40 q.1 q.2 = true := wf_X6_number_0
theorem wd_X6_signOf (pc : Nat) : ∀ q ∈ cd_X6_signOf pc, wfE 41 q.1 q.2 = true := wf_X6_signOf_0
theorem wd_X6_firstOf (pc : Nat) : ∀ q ∈ cd_X6_firstOf pc, wfE 42 q.1 q.2 = true := wf_X6_firstOf_0
theorem wd_X6_secondOf (pc : Nat) : ∀ q ∈ cd_X6_secondOf pc, wfE 43 q.1 q.2 = true := wf_X6_secondOf_0
theorem wd_X6_thirdOf (pc : Nat) : ∀ q ∈ cd_X6_thirdOf pc, wfE 44 q.1 q.2 = true := wf_X6_thirdOf_0
theorem wd_X6_understand (pc : Nat) : ∀ q ∈ cd_X6_understand pc, wfE 45 q.1 q.2 = true := tB (P := fun q : List (Nat × Ent) => ∀ x ∈ q, wfE 45 x.1 x.2 = true) (wf_X6_understand_0) (wf_X6_understand_1)
theorem wd_X6_readOrder (pc : Nat) : ∀ q ∈ cd_X6_readOrder pc, wfE 46 q.1 q.2 = true := tB (P := fun q : List (Nat × Ent) => ∀ x ∈ q, wfE 46 x.1 x.2 = true) (wf_X6_readOrder_0) (wf_X6_readOrder_1)
theorem wd_X6_readSawing (pc : Nat) : ∀ q ∈ cd_X6_readSawing pc, wfE 47 q.1 q.2 = true := wf_X6_readSawing_0
theorem wd_X6_readLaying (pc : Nat) : ∀ q ∈ cd_X6_readLaying pc, wfE 48 q.1 q.2 = true := tB (P := fun q : List (Nat × Ent) => ∀ x ∈ q, wfE 48 x.1 x.2 = true) (wf_X6_readLaying_0) (wf_X6_readLaying_1)
theorem wd_X6_readNumber (pc : Nat) : ∀ q ∈ cd_X6_readNumber pc, wfE 49 q.1 q.2 = true := wf_X6_readNumber_0
theorem wd_X6_readTemperature (pc : Nat) : ∀ q ∈ cd_X6_readTemperature pc, wfE 50 q.1 q.2 = true := wf_X6_readTemperature_0
theorem wd_X6_note (pc : Nat) : ∀ q ∈ cd_X6_note pc, wfE 51 q.1 q.2 = true := tB (P := fun q : List (Nat × Ent) => ∀ x ∈ q, wfE 51 x.1 x.2 = true) (wf_X6_note_0) (wf_X6_note_1)
theorem wd_X6_goPast (pc : Nat) : ∀ q ∈ cd_X6_goPast pc, wfE 52 q.1 q.2 = true := wf_X6_goPast_0
theorem wd_X6_digits (pc : Nat) : ∀ q ∈ cd_X6_digits pc, wfE 53 q.1 q.2 = true := tB (P := fun q : List (Nat × Ent) => ∀ x ∈ q, wfE 53 x.1 x.2 = true) (wf_X6_digits_0) (wf_X6_digits_1)
theorem wd_X7_init (pc : Nat) : ∀ q ∈ cd_X7_init pc, wfE 54 q.1 q.2 = true := wf_X7_init_0
theorem wd_X7_heightOf (pc : Nat) : ∀ q ∈ cd_X7_heightOf pc, wfE 55 q.1 q.2 = true := wf_X7_heightOf_0
theorem wd_X7_measure (pc : Nat) : ∀ q ∈ cd_X7_measure pc, wfE 56 q.1 q.2 = true := wf_X7_measure_0
theorem wd_X7_isInShadow (pc : Nat) : ∀ q ∈ cd_X7_isInShadow pc, wfE 57 q.1 q.2 = true := tB (P := fun q : List (Nat × Ent) => ∀ x ∈ q, wfE 57 x.1 x.2 = true) (wf_X7_isInShadow_0) (wf_X7_isInShadow_1)
theorem wd_X7_isShadedFromLeft (pc : Nat) : ∀ q ∈ cd_X7_isShadedFromLeft pc, wfE 58 q.1 q.2 = true := wf_X7_isShadedFromLeft_0
theorem wd_X7_isShadedFromRight (pc : Nat) : ∀ q ∈ cd_X7_isShadedFromRight pc, wfE 59 q.1 q.2 = true := wf_X7_isShadedFromRight_0
theorem wd_X7_roomNumber (pc : Nat) : ∀ q ∈ cd_X7_roomNumber pc, wfE 60 q.1 q.2 = true := tB (P := fun q : List (Nat × Ent) => ∀ x ∈ q, wfE 60 x.1 x.2 = true) (wf_X7_roomNumber_0) (wf_X7_roomNumber_1)
theorem wd_X8_init (pc : Nat) : ∀ q ∈ cd_X8_init pc, wfE 61 q.1 q.2 = true := tB (P := fun q : List (Nat × Ent) => ∀ x ∈ q, wfE 61 x.1 x.2 = true) (wf_X8_init_0) (tB (P := fun q : List (Nat × Ent) => ∀ x ∈ q, wfE 61 x.1 x.2 = true) (wf_X8_init_1) (wf_X8_init_2))
theorem wd_X8_fill (pc : Nat) : ∀ q ∈ cd_X8_fill pc, wfE 62 q.1 q.2 = true := wf_X8_fill_0
theorem wd_X8_copyRow (pc : Nat) : ∀ q ∈ cd_X8_copyRow pc, wfE 63 q.1 q.2 = true := wf_X8_copyRow_0
theorem wd_X8_copyFrom (pc : Nat) : ∀ q ∈ cd_X8_copyFrom pc, wfE 64 q.1 q.2 = true := tB (P := fun q : List (Nat × Ent) => ∀ x ∈ q, wfE 64 x.1 x.2 = true) (wf_X8_copyFrom_0) (tB (P := fun q : List (Nat × Ent) => ∀ x ∈ q, wfE 64 x.1 x.2 = true) (wf_X8_copyFrom_1) (wf_X8_copyFrom_2))
theorem wd_X8_isColumn (pc : Nat) : ∀ q ∈ cd_X8_isColumn pc, wfE 65 q.1 q.2 = true := wf_X8_isColumn_0
theorem wd_X8_isCourse (pc : Nat) : ∀ q ∈ cd_X8_isCourse pc, wfE 66 q.1 q.2 = true := wf_X8_isCourse_0
theorem wd_X8_isHour (pc : Nat) : ∀ q ∈ cd_X8_isHour pc, wfE 67 q.1 q.2 = true := wf_X8_isHour_0
theorem wd_X8_isRack (pc : Nat) : ∀ q ∈ cd_X8_isRack pc, wfE 68 q.1 q.2 = true := wf_X8_isRack_0
theorem wd_X8_isSawn (pc : Nat) : ∀ q ∈ cd_X8_isSawn pc, wfE 69 q.1 q.2 = true := wf_X8_isSawn_0
theorem wd_X8_isOnWall (pc : Nat) : ∀ q ∈ cd_X8_isOnWall pc, wfE 70 q.1 q.2 = true := wf_X8_isOnWall_0
theorem wd_X8_isInRack (pc : Nat) : ∀ q ∈ cd_X8_isInRack pc, wfE 71 q.1 q.2 = true := wf_X8_isInRack_0
theorem wd_X8_isGone (pc : Nat) : ∀ q ∈ cd_X8_isGone pc, wfE 72 q.1 q.2 = true := wf_X8_isGone_0
theorem wd_X8_massOf (pc : Nat) : ∀ q ∈ cd_X8_massOf pc, wfE 73 q.1 q.2 = true := wf_X8_massOf_0
theorem wd_X8_hourOfDay (pc : Nat) : ∀ q ∈ cd_X8_hourOfDay pc, wfE 74 q.1 q.2 = true := wf_X8_hourOfDay_0
theorem wd_X8_temperatureAt (pc : Nat) : ∀ q ∈ cd_X8_temperatureAt pc, wfE 75 q.1 q.2 = true := wf_X8_temperatureAt_0
theorem wd_X8_blockAt (pc : Nat) : ∀ q ∈ cd_X8_blockAt pc, wfE 76 q.1 q.2 = true := wf_X8_blockAt_0
theorem wd_X8_blockInRack (pc : Nat) : ∀ q ∈ cd_X8_blockInRack pc, wfE 77 q.1 q.2 = true := wf_X8_blockInRack_0
theorem wd_X8_freePlace (pc : Nat) : ∀ q ∈ cd_X8_freePlace pc, wfE 78 q.1 q.2 = true := wf_X8_freePlace_0
theorem wd_X8_supportedColumns (pc : Nat) : ∀ q ∈ cd_X8_supportedColumns pc, wfE 79 q.1 q.2 = true := wf_X8_supportedColumns_0
theorem wd_X8_supportOf (pc : Nat) : ∀ q ∈ cd_X8_supportOf pc, wfE 80 q.1 q.2 = true := wf_X8_supportOf_0
theorem wd_X8_isSupported (pc : Nat) : ∀ q ∈ cd_X8_isSupported pc, wfE 81 q.1 q.2 = true := wf_X8_isSupported_0
theorem wd_X8_sharedColumns (pc : Nat) : ∀ q ∈ cd_X8_sharedColumns pc, wfE 82 q.1 q.2 = true := tB (P := fun q : List (Nat × Ent) => ∀ x ∈ q, wfE 82 x.1 x.2 = true) (wf_X8_sharedColumns_0) (wf_X8_sharedColumns_1)
theorem wd_X8_addBlock (pc : Nat) : ∀ q ∈ cd_X8_addBlock pc, wfE 83 q.1 q.2 = true := tB (P := fun q : List (Nat × Ent) => ∀ x ∈ q, wfE 83 x.1 x.2 = true) (wf_X8_addBlock_0) (wf_X8_addBlock_1)
theorem wd_X8_putOnWall (pc : Nat) : ∀ q ∈ cd_X8_putOnWall pc, wfE 84 q.1 q.2 = true := wf_X8_putOnWall_0
theorem wd_X8_remove (pc : Nat) : ∀ q ∈ cd_X8_remove pc, wfE 85 q.1 q.2 = true := tB (P := fun q : List (Nat × Ent) => ∀ x ∈ q, wfE 85 x.1 x.2 = true) (wf_X8_remove_0) (wf_X8_remove_1)
theorem wd_X8_leaveRack (pc : Nat) : ∀ q ∈ cd_X8_leaveRack pc, wfE 86 q.1 q.2 = true := wf_X8_leaveRack_0
theorem wd_X8_markColumns (pc : Nat) : ∀ q ∈ cd_X8_markColumns pc, wfE 87 q.1 q.2 = true := tB (P := fun q : List (Nat × Ent) => ∀ x ∈ q, wfE 87 x.1 x.2 = true) (wf_X8_markColumns_0) (wf_X8_markColumns_1)
theorem wd_X8_numberOf (pc : Nat) : ∀ q ∈ cd_X8_numberOf pc, wfE 88 q.1 q.2 = true := tB (P := fun q : List (Nat × Ent) => ∀ x ∈ q, wfE 88 x.1 x.2 = true) (wf_X8_numberOf_0) (wf_X8_numberOf_1)
theorem wd_X8_signOf (pc : Nat) : ∀ q ∈ cd_X8_signOf pc, wfE 89 q.1 q.2 = true := wf_X8_signOf_0
theorem wd_X8_accountOf (pc : Nat) : ∀ q ∈ cd_X8_accountOf pc, wfE 90 q.1 q.2 = true := wf_X8_accountOf_0
theorem wd_X8_countOnWall (pc : Nat) : ∀ q ∈ cd_X8_countOnWall pc, wfE 91 q.1 q.2 = true := wf_X8_countOnWall_0
theorem wd_X8_countStates (pc : Nat) : ∀ q ∈ cd_X8_countStates pc, wfE 92 q.1 q.2 = true := wf_X8_countStates_0
theorem wd_X8_countCauses (pc : Nat) : ∀ q ∈ cd_X8_countCauses pc, wfE 93 q.1 q.2 = true := wf_X8_countCauses_0
theorem wd_X8_countFilledColumns (pc : Nat) : ∀ q ∈ cd_X8_countFilledColumns pc, wfE 94 q.1 q.2 = true := wf_X8_countFilledColumns_0
theorem wd_X8_sumOfMasses (pc : Nat) : ∀ q ∈ cd_X8_sumOfMasses pc, wfE 95 q.1 q.2 = true := wf_X8_sumOfMasses_0
theorem wd_X9_init (pc : Nat) : ∀ q ∈ cd_X9_init pc, wfE 96 q.1 q.2 = true := wf_X9_init_0
theorem wd_X9_faultOf (pc : Nat) : ∀ q ∈ cd_X9_faultOf pc, wfE 97 q.1 q.2 = true := tB (P := fun q : List (Nat × Ent) => ∀ x ∈ q, wfE 97 x.1 x.2 = true) (wf_X9_faultOf_0) (wf_X9_faultOf_1)
theorem wd_X9_perform (pc : Nat) : ∀ q ∈ cd_X9_perform pc, wfE 98 q.1 q.2 = true := tB (P := fun q : List (Nat × Ent) => ∀ x ∈ q, wfE 98 x.1 x.2 = true) (wf_X9_perform_0) (wf_X9_perform_1)
theorem wd_X9_refuse (pc : Nat) : ∀ q ∈ cd_X9_refuse pc, wfE 99 q.1 q.2 = true := wf_X9_refuse_0
theorem wd_X9_faultOfTemperature (pc : Nat) : ∀ q ∈ cd_X9_faultOfTemperature pc, wfE 100 q.1 q.2 = true := wf_X9_faultOfTemperature_0
theorem wd_X9_setTemperature (pc : Nat) : ∀ q ∈ cd_X9_setTemperature pc, wfE 101 q.1 q.2 = true := wf_X9_setTemperature_0
theorem wd_X9_setVisitors (pc : Nat) : ∀ q ∈ cd_X9_setVisitors pc, wfE 102 q.1 q.2 = true := wf_X9_setVisitors_0
theorem wd_X9_faultOfSawing (pc : Nat) : ∀ q ∈ cd_X9_faultOfSawing pc, wfE 103 q.1 q.2 = true := tB (P := fun q : List (Nat × Ent) => ∀ x ∈ q, wfE 103 x.1 x.2 = true) (wf_X9_faultOfSawing_0) (wf_X9_faultOfSawing_1)
theorem wd_X9_faultOfLaying (pc : Nat) : ∀ q ∈ cd_X9_faultOfLaying pc, wfE 104 q.1 q.2 = true := tB (P := fun q : List (Nat × Ent) => ∀ x ∈ q, wfE 104 x.1 x.2 = true) (wf_X9_faultOfLaying_0) (wf_X9_faultOfLaying_1)
theorem wd_X9_faultOfTaking (pc : Nat) : ∀ q ∈ cd_X9_faultOfTaking pc, wfE 105 q.1 q.2 = true := wf_X9_faultOfTaking_0
theorem wd_X10_init (pc : Nat) : ∀ q ∈ cd_X10_init pc, wfE 106 q.1 q.2 = true := tB (P := fun q : List (Nat × Ent) => ∀ x ∈ q, wfE 106 x.1 x.2 = true) (wf_X10_init_0) (wf_X10_init_1)
theorem wd_X10_heat (pc : Nat) : ∀ q ∈ cd_X10_heat pc, wfE 107 q.1 q.2 = true := wf_X10_heat_0
theorem wd_X10_visit (pc : Nat) : ∀ q ∈ cd_X10_visit pc, wfE 108 q.1 q.2 = true := wf_X10_visit_0
theorem wd_X10_saw (pc : Nat) : ∀ q ∈ cd_X10_saw pc, wfE 109 q.1 q.2 = true := wf_X10_saw_0
theorem wd_X10_lay (pc : Nat) : ∀ q ∈ cd_X10_lay pc, wfE 110 q.1 q.2 = true := wf_X10_lay_0
theorem wd_X10_take (pc : Nat) : ∀ q ∈ cd_X10_take pc, wfE 111 q.1 q.2 = true := wf_X10_take_0
theorem wd_X10_pass (pc : Nat) : ∀ q ∈ cd_X10_pass pc, wfE 112 q.1 q.2 = true := wf_X10_pass_0
theorem wd_X10_blockOf (pc : Nat) : ∀ q ∈ cd_X10_blockOf pc, wfE 113 q.1 q.2 = true := wf_X10_blockOf_0
theorem wd_X10_mass (pc : Nat) : ∀ q ∈ cd_X10_mass pc, wfE 114 q.1 q.2 = true := wf_X10_mass_0
theorem wd_X10_load (pc : Nat) : ∀ q ∈ cd_X10_load pc, wfE 115 q.1 q.2 = true := wf_X10_load_0
theorem wd_X10_loadAgain (pc : Nat) : ∀ q ∈ cd_X10_loadAgain pc, wfE 116 q.1 q.2 = true := wf_X10_loadAgain_0
theorem wd_X10_at (pc : Nat) : ∀ q ∈ cd_X10_at pc, wfE 117 q.1 q.2 = true := wf_X10_at_0
theorem wd_X10_height (pc : Nat) : ∀ q ∈ cd_X10_height pc, wfE 118 q.1 q.2 = true := wf_X10_height_0
theorem wd_X10_isShady (pc : Nat) : ∀ q ∈ cd_X10_isShady pc, wfE 119 q.1 q.2 = true := wf_X10_isShady_0
theorem wd_X10_sign (pc : Nat) : ∀ q ∈ cd_X10_sign pc, wfE 120 q.1 q.2 = true := wf_X10_sign_0
theorem wd_X10_rooms (pc : Nat) : ∀ q ∈ cd_X10_rooms pc, wfE 121 q.1 q.2 = true := wf_X10_rooms_0
theorem wd_X10_inRack (pc : Nat) : ∀ q ∈ cd_X10_inRack pc, wfE 122 q.1 q.2 = true := wf_X10_inRack_0
theorem wd_X10_worst (pc : Nat) : ∀ q ∈ cd_X10_worst pc, wfE 123 q.1 q.2 = true := wf_X10_worst_0
theorem wd_X10_goneIn (pc : Nat) : ∀ q ∈ cd_X10_goneIn pc, wfE 124 q.1 q.2 = true := wf_X10_goneIn_0
theorem wd_X10_massBits (pc : Nat) : ∀ q ∈ cd_X10_massBits pc, wfE 125 q.1 q.2 = true := wf_X10_massBits_0
theorem wd_X10_safe (pc : Nat) : ∀ q ∈ cd_X10_safe pc, wfE 126 q.1 q.2 = true := wf_X10_safe_0
theorem wd_X10_left (pc : Nat) : ∀ q ∈ cd_X10_left pc, wfE 127 q.1 q.2 = true := wf_X10_left_0
theorem wd_X10_append (pc : Nat) : ∀ q ∈ cd_X10_append pc, wfE 128 q.1 q.2 = true := wf_X10_append_0
theorem wd_X10_read (pc : Nat) : ∀ q ∈ cd_X10_read pc, wfE 129 q.1 q.2 = true := tB (P := fun q : List (Nat × Ent) => ∀ x ∈ q, wfE 129 x.1 x.2 = true) (wf_X10_read_0) (tB (P := fun q : List (Nat × Ent) => ∀ x ∈ q, wfE 129 x.1 x.2 = true) (wf_X10_read_1) (wf_X10_read_2))
theorem wd_X10_errorPosition (pc : Nat) : ∀ q ∈ cd_X10_errorPosition pc, wfE 130 q.1 q.2 = true := wf_X10_errorPosition_0
theorem wd_X10_account (pc : Nat) : ∀ q ∈ cd_X10_account pc, wfE 131 q.1 q.2 = true := wf_X10_account_0
theorem wd_X10_isWell (pc : Nat) : ∀ q ∈ cd_X10_isWell pc, wfE 132 q.1 q.2 = true := wf_X10_isWell_0
theorem wd_X10_meanBits (pc : Nat) : ∀ q ∈ cd_X10_meanBits pc, wfE 133 q.1 q.2 = true := wf_X10_meanBits_0
theorem wd_X10_undo (pc : Nat) : ∀ q ∈ cd_X10_undo pc, wfE 134 q.1 q.2 = true := wf_X10_undo_0
theorem wd_X10_save (pc : Nat) : ∀ q ∈ cd_X10_save pc, wfE 135 q.1 q.2 = true := wf_X10_save_0
theorem wd_X10_restore (pc : Nat) : ∀ q ∈ cd_X10_restore pc, wfE 136 q.1 q.2 = true := wf_X10_restore_0
theorem wd_X10_permit (pc : Nat) : ∀ q ∈ cd_X10_permit pc, wfE 137 q.1 q.2 = true := wf_X10_permit_0
theorem wd_X10_requireSawn (pc : Nat) : ∀ q ∈ cd_X10_requireSawn pc, wfE 138 q.1 q.2 = true := wf_X10_requireSawn_0
theorem wd_X10_requireOnWall (pc : Nat) : ∀ q ∈ cd_X10_requireOnWall pc, wfE 139 q.1 q.2 = true := wf_X10_requireOnWall_0
theorem wd_X10_requireHoursAhead (pc : Nat) : ∀ q ∈ cd_X10_requireHoursAhead pc, wfE 140 q.1 q.2 = true := wf_X10_requireHoursAhead_0
theorem wd_Jx00060_init_a7421 (pc : Nat) : ∀ q ∈ cd_Jx00060_init_a7421 pc, wfE 141 q.1 q.2 = true := wf_Jx00060_init_a7421_0
theorem wd_J11_isValidCodePoint_9a6ad (pc : Nat) : ∀ q ∈ cd_J11_isValidCodePoint_9a6ad pc, wfE 142 q.1 q.2 = true := wf_J11_isValidCodePoint_9a6ad_0
theorem wd_J11_highSurrogate_5068e (pc : Nat) : ∀ q ∈ cd_J11_highSurrogate_5068e pc, wfE 143 q.1 q.2 = true := wf_J11_highSurrogate_5068e_0
theorem wd_J11_lowSurrogate_5068e (pc : Nat) : ∀ q ∈ cd_J11_lowSurrogate_5068e pc, wfE 144 q.1 q.2 = true := wf_J11_lowSurrogate_5068e_0
theorem wd_Jxe99ae_isNaN_b9ae7 (pc : Nat) : ∀ q ∈ cd_Jxe99ae_isNaN_b9ae7 pc, wfE 145 q.1 q.2 = true := wf_Jxe99ae_isNaN_b9ae7_0
theorem wd_Jxe99ae_doubleToLongBits_ccdee (pc : Nat) : ∀ q ∈ cd_Jxe99ae_doubleToLongBits_ccdee pc, wfE 146 q.1 q.2 = true := wf_Jxe99ae_doubleToLongBits_ccdee_0
theorem wd_J9_floorMod_7cf53 (pc : Nat) : ∀ q ∈ cd_J9_floorMod_7cf53 pc, wfE 147 q.1 q.2 = true := wf_J9_floorMod_7cf53_0
theorem wd_J9_max_7cf53 (pc : Nat) : ∀ q ∈ cd_J9_max_7cf53 pc, wfE 148 q.1 q.2 = true := wf_J9_max_7cf53_0
theorem wd_J9_min_7cf53 (pc : Nat) : ∀ q ∈ cd_J9_min_7cf53 pc, wfE 149 q.1 q.2 = true := wf_J9_min_7cf53_0
theorem wd_J0_length_8abf5 (pc : Nat) : ∀ q ∈ cd_J0_length_8abf5 pc, wfE 150 q.1 q.2 = true := wf_J0_length_8abf5_0
theorem wd_J0_charAt_5068e (pc : Nat) : ∀ q ∈ cd_J0_charAt_5068e pc, wfE 151 q.1 q.2 = true := wf_J0_charAt_5068e_0
theorem wd_J0_indexOf_0f7a4 (pc : Nat) : ∀ q ∈ cd_J0_indexOf_0f7a4 pc, wfE 152 q.1 q.2 = true := wf_J0_indexOf_0f7a4_0
theorem wd_J0_indexOf_7cf53 (pc : Nat) : ∀ q ∈ cd_J0_indexOf_7cf53 pc, wfE 153 q.1 q.2 = true := wf_J0_indexOf_7cf53_0
theorem wd_J0_coder_7d493 (pc : Nat) : ∀ q ∈ cd_J0_coder_7d493 pc, wfE 154 q.1 q.2 = true := wf_J0_coder_7d493_0
theorem wd_J0_isLatin1_aae02 (pc : Nat) : ∀ q ∈ cd_J0_isLatin1_aae02 pc, wfE 155 q.1 q.2 = true := wf_J0_isLatin1_aae02_0
theorem wd_J0_checkIndex_df160 (pc : Nat) : ∀ q ∈ cd_J0_checkIndex_df160 pc, wfE 156 q.1 q.2 = true := wf_J0_checkIndex_df160_0
theorem wd_J0_checkBoundsBeginEnd_23922 (pc : Nat) : ∀ q ∈ cd_J0_checkBoundsBeginEnd_23922 pc, wfE 157 q.1 q.2 = true := wf_J0_checkBoundsBeginEnd_23922_0
theorem wd_J1_charAt_3b067 (pc : Nat) : ∀ q ∈ cd_J1_charAt_3b067 pc, wfE 158 q.1 q.2 = true := wf_J1_charAt_3b067_0
theorem wd_J1_canEncode_9a6ad (pc : Nat) : ∀ q ∈ cd_J1_canEncode_9a6ad pc, wfE 159 q.1 q.2 = true := wf_J1_canEncode_9a6ad_0
theorem wd_J1_indexOf_4cfef (pc : Nat) : ∀ q ∈ cd_J1_indexOf_4cfef pc, wfE 160 q.1 q.2 = true := wf_J1_indexOf_4cfef_0
theorem wd_J1_indexOfChar_4cfef (pc : Nat) : ∀ q ∈ cd_J1_indexOfChar_4cfef pc, wfE 161 q.1 q.2 = true := wf_J1_indexOfChar_4cfef_0
theorem wd_J2_getChar_3b067 (pc : Nat) : ∀ q ∈ cd_J2_getChar_3b067 pc, wfE 162 q.1 q.2 = true := wf_J2_getChar_3b067_0
theorem wd_J2_length_9d52b (pc : Nat) : ∀ q ∈ cd_J2_length_9d52b pc, wfE 163 q.1 q.2 = true := wf_J2_length_9d52b_0
theorem wd_J2_indexOf_4cfef (pc : Nat) : ∀ q ∈ cd_J2_indexOf_4cfef pc, wfE 164 q.1 q.2 = true := wf_J2_indexOf_4cfef_0
theorem wd_J2_indexOfChar_4cfef (pc : Nat) : ∀ q ∈ cd_J2_indexOfChar_4cfef pc, wfE 165 q.1 q.2 = true := wf_J2_indexOfChar_4cfef_0
theorem wd_J2_indexOfCharUnsafe_4cfef (pc : Nat) : ∀ q ∈ cd_J2_indexOfCharUnsafe_4cfef pc, wfE 166 q.1 q.2 = true := wf_J2_indexOfCharUnsafe_4cfef_0
theorem wd_J2_indexOfSupplementary_4cfef (pc : Nat) : ∀ q ∈ cd_J2_indexOfSupplementary_4cfef pc, wfE 167 q.1 q.2 = true := wf_J2_indexOfSupplementary_4cfef_0
theorem wd_J2_charAt_3b067 (pc : Nat) : ∀ q ∈ cd_J2_charAt_3b067 pc, wfE 168 q.1 q.2 = true := wf_J2_charAt_3b067_0
theorem wd_J2_checkIndex_2214a (pc : Nat) : ∀ q ∈ cd_J2_checkIndex_2214a pc, wfE 169 q.1 q.2 = true := wf_J2_checkIndex_2214a_0
theorem wd_J2_checkBoundsBeginEnd_d044e (pc : Nat) : ∀ q ∈ cd_J2_checkBoundsBeginEnd_d044e pc, wfE 170 q.1 q.2 = true := wf_J2_checkBoundsBeginEnd_d044e_0
theorem wd_J3_checkIndex_8e157 (pc : Nat) : ∀ q ∈ cd_J3_checkIndex_8e157 pc, wfE 171 q.1 q.2 = true := wf_J3_checkIndex_8e157_0
theorem wd_J3_checkFromToIndex_8c36e (pc : Nat) : ∀ q ∈ cd_J3_checkFromToIndex_8c36e pc, wfE 172 q.1 q.2 = true := wf_J3_checkFromToIndex_8c36e_0
theorem wd_L_cell (pc : Nat) : ∀ q ∈ cd_L_cell pc, wfE 173 q.1 q.2 = true := wf_L_cell_0
theorem wd_L_heat (pc : Nat) : ∀ q ∈ cd_L_heat pc, wfE 174 q.1 q.2 = true := wf_L_heat_0
theorem wd_L_visit (pc : Nat) : ∀ q ∈ cd_L_visit pc, wfE 175 q.1 q.2 = true := wf_L_visit_0
theorem wd_L_saw (pc : Nat) : ∀ q ∈ cd_L_saw pc, wfE 176 q.1 q.2 = true := wf_L_saw_0
theorem wd_L_lay (pc : Nat) : ∀ q ∈ cd_L_lay pc, wfE 177 q.1 q.2 = true := wf_L_lay_0
theorem wd_L_take (pc : Nat) : ∀ q ∈ cd_L_take pc, wfE 178 q.1 q.2 = true := wf_L_take_0
theorem wd_L_pass (pc : Nat) : ∀ q ∈ cd_L_pass pc, wfE 179 q.1 q.2 = true := wf_L_pass_0
theorem wd_L_goneIn (pc : Nat) : ∀ q ∈ cd_L_goneIn pc, wfE 180 q.1 q.2 = true := wf_L_goneIn_0
theorem wd_L_safe (pc : Nat) : ∀ q ∈ cd_L_safe pc, wfE 181 q.1 q.2 = true := wf_L_safe_0
theorem wd_L_worst (pc : Nat) : ∀ q ∈ cd_L_worst pc, wfE 182 q.1 q.2 = true := wf_L_worst_0
theorem wd_L_read (pc : Nat) : ∀ q ∈ cd_L_read pc, wfE 183 q.1 q.2 = true := wf_L_read_0
theorem wd_L_undo (pc : Nat) : ∀ q ∈ cd_L_undo pc, wfE 184 q.1 q.2 = true := wf_L_undo_0
theorem wd_L_restore (pc : Nat) : ∀ q ∈ cd_L_restore pc, wfE 185 q.1 q.2 = true := wf_L_restore_0
theorem wd_L_meanBits (pc : Nat) : ∀ q ∈ cd_L_meanBits pc, wfE 186 q.1 q.2 = true := wf_L_meanBits_0
theorem wd_L_append (pc : Nat) : ∀ q ∈ cd_L_append pc, wfE 187 q.1 q.2 = true := wf_L_append_0
theorem wd_L_write (pc : Nat) : ∀ q ∈ cd_L_write pc, wfE 188 q.1 q.2 = true := wf_L_write_0
theorem wd_L_act (pc : Nat) : ∀ q ∈ cd_L_act pc, wfE 189 q.1 q.2 = true := tB (P := fun q : List (Nat × Ent) => ∀ x ∈ q, wfE 189 x.1 x.2 = true) (tB (P := fun q : List (Nat × Ent) => ∀ x ∈ q, wfE 189 x.1 x.2 = true) (wf_L_act_0) (wf_L_act_1)) (tB (P := fun q : List (Nat × Ent) => ∀ x ∈ q, wfE 189 x.1 x.2 = true) (wf_L_act_2) (wf_L_act_3))
theorem wd_L_digest (pc : Nat) : ∀ q ∈ cd_L_digest pc, wfE 190 q.1 q.2 = true := tB (P := fun q : List (Nat × Ent) => ∀ x ∈ q, wfE 190 x.1 x.2 = true) (wf_L_digest_0) (tB (P := fun q : List (Nat × Ent) => ∀ x ∈ q, wfE 190 x.1 x.2 = true) (wf_L_digest_1) (wf_L_digest_2))
theorem wd_L_areBlocks (pc : Nat) : ∀ q ∈ cd_L_areBlocks pc, wfE 191 q.1 q.2 = true := tB (P := fun q : List (Nat × Ent) => ∀ x ∈ q, wfE 191 x.1 x.2 = true) (tB (P := fun q : List (Nat × Ent) => ∀ x ∈ q, wfE 191 x.1 x.2 = true) (wf_L_areBlocks_0) (tB (P := fun q : List (Nat × Ent) => ∀ x ∈ q, wfE 191 x.1 x.2 = true) (wf_L_areBlocks_1) (wf_L_areBlocks_2))) (tB (P := fun q : List (Nat × Ent) => ∀ x ∈ q, wfE 191 x.1 x.2 = true) (wf_L_areBlocks_3) (tB (P := fun q : List (Nat × Ent) => ∀ x ∈ q, wfE 191 x.1 x.2 = true) (wf_L_areBlocks_4) (wf_L_areBlocks_5)))
theorem wd_L_areLoads (pc : Nat) : ∀ q ∈ cd_L_areLoads pc, wfE 192 q.1 q.2 = true := tB (P := fun q : List (Nat × Ent) => ∀ x ∈ q, wfE 192 x.1 x.2 = true) (tB (P := fun q : List (Nat × Ent) => ∀ x ∈ q, wfE 192 x.1 x.2 = true) (wf_L_areLoads_0) (wf_L_areLoads_1)) (tB (P := fun q : List (Nat × Ent) => ∀ x ∈ q, wfE 192 x.1 x.2 = true) (wf_L_areLoads_2) (wf_L_areLoads_3))
theorem wd_L_areRooms (pc : Nat) : ∀ q ∈ cd_L_areRooms pc, wfE 193 q.1 q.2 = true := tB (P := fun q : List (Nat × Ent) => ∀ x ∈ q, wfE 193 x.1 x.2 = true) (wf_L_areRooms_0) (tB (P := fun q : List (Nat × Ent) => ∀ x ∈ q, wfE 193 x.1 x.2 = true) (wf_L_areRooms_1) (wf_L_areRooms_2))
theorem wd_L_isFit (pc : Nat) : ∀ q ∈ cd_L_isFit pc, wfE 194 q.1 q.2 = true := wf_L_isFit_0
theorem wd_L_isAhead (pc : Nat) : ∀ q ∈ cd_L_isAhead pc, wfE 195 q.1 q.2 = true := tB (P := fun q : List (Nat × Ent) => ∀ x ∈ q, wfE 195 x.1 x.2 = true) (wf_L_isAhead_0) (tB (P := fun q : List (Nat × Ent) => ∀ x ∈ q, wfE 195 x.1 x.2 = true) (wf_L_isAhead_1) (wf_L_isAhead_2))
theorem wd_L_isGone (pc : Nat) : ∀ q ∈ cd_L_isGone pc, wfE 196 q.1 q.2 = true := tB (P := fun q : List (Nat × Ent) => ∀ x ∈ q, wfE 196 x.1 x.2 = true) (wf_L_isGone_0) (wf_L_isGone_1)
theorem wd_L_isSafe (pc : Nat) : ∀ q ∈ cd_L_isSafe pc, wfE 197 q.1 q.2 = true := tB (P := fun q : List (Nat × Ent) => ∀ x ∈ q, wfE 197 x.1 x.2 = true) (wf_L_isSafe_0) (tB (P := fun q : List (Nat × Ent) => ∀ x ∈ q, wfE 197 x.1 x.2 = true) (wf_L_isSafe_1) (wf_L_isSafe_2))
def Pm (mi : Nat) (q : List (Nat × Ent)) : Prop := ∀ x ∈ q, wfE mi x.1 x.2 = true ∧ mi < nMeth
set_option maxRecDepth 100000 in
theorem cdS_wf (mi pc : Nat) (hL : ¬ mi = mL_law) : Pm mi (cdS mi pc) := by
  have hn : Pm mi [] := fun _ h => absurd h List.not_mem_nil
  unfold cdS
  exact tB (P := Pm mi) (tB (P := Pm mi) (tB (P := Pm mi) (tB (P := Pm mi) (tB (P := Pm mi) (tB (P := Pm mi) (tB (P := Pm mi) (tE (P := Pm mi) (fun h => by subst h; exact fun x hx => ⟨wd_X0_init pc x hx, by decide⟩) hn) (tB (P := Pm mi) (tE (P := Pm mi) (fun h => by subst h; exact fun x hx => ⟨wd_X0_hoursToFirstGone pc x hx, by decide⟩) hn) (tE (P := Pm mi) (fun h => by subst h; exact fun x hx => ⟨wd_X0_bitsOfMass pc x hx, by decide⟩) hn))) (tB (P := Pm mi) (tE (P := Pm mi) (fun h => by subst h; exact fun x hx => ⟨wd_X0_blocksOnWall pc x hx, by decide⟩) hn) (tB (P := Pm mi) (tE (P := Pm mi) (fun h => by subst h; exact fun x hx => ⟨wd_X0_isSafeFor pc x hx, by decide⟩) hn) (tE (P := Pm mi) (fun h => by subst h; exact fun x hx => ⟨wd_X1_isAllWell pc x hx, by decide⟩) hn)))) (tB (P := Pm mi) (tB (P := Pm mi) (tE (P := Pm mi) (fun h => by subst h; exact fun x hx => ⟨wd_X1_isSomewhere pc x hx, by decide⟩) hn) (tB (P := Pm mi) (tE (P := Pm mi) (fun h => by subst h; exact fun x hx => ⟨wd_X1_isFirm pc x hx, by decide⟩) hn) (tE (P := Pm mi) (fun h => by subst h; exact fun x hx => ⟨wd_X1_countIn pc x hx, by decide⟩) hn))) (tB (P := Pm mi) (tE (P := Pm mi) (fun h => by subst h; exact fun x hx => ⟨wd_X2_ofFloat pc x hx, by decide⟩) hn) (tB (P := Pm mi) (tE (P := Pm mi) (fun h => by subst h; exact fun x hx => ⟨wd_X2_ofDouble pc x hx, by decide⟩) hn) (tE (P := Pm mi) (fun h => by subst h; exact fun x hx => ⟨wd_X3_init pc x hx, by decide⟩) hn))))) (tB (P := Pm mi) (tB (P := Pm mi) (tB (P := Pm mi) (tE (P := Pm mi) (fun h => by subst h; exact fun x hx => ⟨wd_X3_number pc x hx, by decide⟩) hn) (tB (P := Pm mi) (tE (P := Pm mi) (fun h => by subst h; exact fun x hx => ⟨wd_X3_remember pc x hx, by decide⟩) hn) (tE (P := Pm mi) (fun h => by subst h; exact fun x hx => ⟨wd_X3_goBack pc x hx, by decide⟩) hn))) (tB (P := Pm mi) (tE (P := Pm mi) (fun h => by subst h; exact fun x hx => ⟨wd_X3_forget pc x hx, by decide⟩) hn) (tB (P := Pm mi) (tE (P := Pm mi) (fun h => by subst h; exact fun x hx => ⟨wd_X4_init pc x hx, by decide⟩) hn) (tE (P := Pm mi) (fun h => by subst h; exact fun x hx => ⟨wd_X4_letGoBy pc x hx, by decide⟩) hn)))) (tB (P := Pm mi) (tB (P := Pm mi) (tE (P := Pm mi) (fun h => by subst h; exact fun x hx => ⟨wd_X4_changeIce pc x hx, by decide⟩) hn) (tB (P := Pm mi) (tE (P := Pm mi) (fun h => by subst h; exact fun x hx => ⟨wd_X4_changeJoints pc x hx, by decide⟩) hn) (tE (P := Pm mi) (fun h => by subst h; exact fun x hx => ⟨wd_X4_melt pc x hx, by decide⟩) hn))) (tB (P := Pm mi) (tE (P := Pm mi) (fun h => by subst h; exact fun x hx => ⟨wd_X4_warm pc x hx, by decide⟩) hn) (tB (P := Pm mi) (tE (P := Pm mi) (fun h => by subst h; exact fun x hx => ⟨wd_X4_removeMelted pc x hx, by decide⟩) hn) (tE (P := Pm mi) (fun h => by subst h; exact fun x hx => ⟨wd_X4_dropUnsupported pc x hx, by decide⟩) hn)))))) (tB (P := Pm mi) (tB (P := Pm mi) (tB (P := Pm mi) (tB (P := Pm mi) (tE (P := Pm mi) (fun h => by subst h; exact fun x hx => ⟨wd_X4_breakOverloaded pc x hx, by decide⟩) hn) (tB (P := Pm mi) (tE (P := Pm mi) (fun h => by subst h; exact fun x hx => ⟨wd_X5_init pc x hx, by decide⟩) hn) (tE (P := Pm mi) (fun h => by subst h; exact fun x hx => ⟨wd_X5_loadOf pc x hx, by decide⟩) hn))) (tB (P := Pm mi) (tE (P := Pm mi) (fun h => by subst h; exact fun x hx => ⟨wd_X5_borneBy pc x hx, by decide⟩) hn) (tB (P := Pm mi) (tE (P := Pm mi) (fun h => by subst h; exact fun x hx => ⟨wd_X5_sumUp pc x hx, by decide⟩) hn) (tE (P := Pm mi) (fun h => by subst h; exact fun x hx => ⟨wd_X5_handDown pc x hx, by decide⟩) hn)))) (tB (P := Pm mi) (tB (P := Pm mi) (tE (P := Pm mi) (fun h => by subst h; exact fun x hx => ⟨wd_X5_loadFromAbove pc x hx, by decide⟩) hn) (tB (P := Pm mi) (tE (P := Pm mi) (fun h => by subst h; exact fun x hx => ⟨wd_X5_sumFromAbove pc x hx, by decide⟩) hn) (tE (P := Pm mi) (fun h => by subst h; exact fun x hx => ⟨wd_X5_firstOverloaded pc x hx, by decide⟩) hn))) (tB (P := Pm mi) (tE (P := Pm mi) (fun h => by subst h; exact fun x hx => ⟨wd_X5_mostBurdened pc x hx, by decide⟩) hn) (tB (P := Pm mi) (tE (P := Pm mi) (fun h => by subst h; exact fun x hx => ⟨wd_X6_init pc x hx, by decide⟩) hn) (tE (P := Pm mi) (fun h => by subst h; exact fun x hx => ⟨wd_X6_hasSpace pc x hx, by decide⟩) hn))))) (tB (P := Pm mi) (tB (P := Pm mi) (tB (P := Pm mi) (tE (P := Pm mi) (fun h => by subst h; exact fun x hx => ⟨wd_X6_add pc x hx, by decide⟩) hn) (tB (P := Pm mi) (tE (P := Pm mi) (fun h => by subst h; exact fun x hx => ⟨wd_X6_empty pc x hx, by decide⟩) hn) (tE (P := Pm mi) (fun h => by subst h; exact fun x hx => ⟨wd_X6_inputLength pc x hx, by decide⟩) hn))) (tB (P := Pm mi) (tE (P := Pm mi) (fun h => by subst h; exact fun x hx => ⟨wd_X6_errorOffset pc x hx, by decide⟩) hn) (tB (P := Pm mi) (tE (P := Pm mi) (fun h => by subst h; exact fun x hx => ⟨wd_X6_number pc x hx, by decide⟩) hn) (tE (P := Pm mi) (fun h => by subst h; exact fun x hx => ⟨wd_X6_signOf pc x hx, by decide⟩) hn)))) (tB (P := Pm mi) (tB (P := Pm mi) (tE (P := Pm mi) (fun h => by subst h; exact fun x hx => ⟨wd_X6_firstOf pc x hx, by decide⟩) hn) (tB (P := Pm mi) (tE (P := Pm mi) (fun h => by subst h; exact fun x hx => ⟨wd_X6_secondOf pc x hx, by decide⟩) hn) (tE (P := Pm mi) (fun h => by subst h; exact fun x hx => ⟨wd_X6_thirdOf pc x hx, by decide⟩) hn))) (tB (P := Pm mi) (tB (P := Pm mi) (tE (P := Pm mi) (fun h => by subst h; exact fun x hx => ⟨wd_X6_understand pc x hx, by decide⟩) hn) (tE (P := Pm mi) (fun h => by subst h; exact fun x hx => ⟨wd_X6_readOrder pc x hx, by decide⟩) hn)) (tB (P := Pm mi) (tE (P := Pm mi) (fun h => by subst h; exact fun x hx => ⟨wd_X6_readSawing pc x hx, by decide⟩) hn) (tE (P := Pm mi) (fun h => by subst h; exact fun x hx => ⟨wd_X6_readLaying pc x hx, by decide⟩) hn))))))) (tB (P := Pm mi) (tB (P := Pm mi) (tB (P := Pm mi) (tB (P := Pm mi) (tB (P := Pm mi) (tE (P := Pm mi) (fun h => by subst h; exact fun x hx => ⟨wd_X6_readNumber pc x hx, by decide⟩) hn) (tB (P := Pm mi) (tE (P := Pm mi) (fun h => by subst h; exact fun x hx => ⟨wd_X6_readTemperature pc x hx, by decide⟩) hn) (tE (P := Pm mi) (fun h => by subst h; exact fun x hx => ⟨wd_X6_note pc x hx, by decide⟩) hn))) (tB (P := Pm mi) (tE (P := Pm mi) (fun h => by subst h; exact fun x hx => ⟨wd_X6_goPast pc x hx, by decide⟩) hn) (tB (P := Pm mi) (tE (P := Pm mi) (fun h => by subst h; exact fun x hx => ⟨wd_X6_digits pc x hx, by decide⟩) hn) (tE (P := Pm mi) (fun h => by subst h; exact fun x hx => ⟨wd_X7_init pc x hx, by decide⟩) hn)))) (tB (P := Pm mi) (tB (P := Pm mi) (tE (P := Pm mi) (fun h => by subst h; exact fun x hx => ⟨wd_X7_heightOf pc x hx, by decide⟩) hn) (tB (P := Pm mi) (tE (P := Pm mi) (fun h => by subst h; exact fun x hx => ⟨wd_X7_measure pc x hx, by decide⟩) hn) (tE (P := Pm mi) (fun h => by subst h; exact fun x hx => ⟨wd_X7_isInShadow pc x hx, by decide⟩) hn))) (tB (P := Pm mi) (tE (P := Pm mi) (fun h => by subst h; exact fun x hx => ⟨wd_X7_isShadedFromLeft pc x hx, by decide⟩) hn) (tB (P := Pm mi) (tE (P := Pm mi) (fun h => by subst h; exact fun x hx => ⟨wd_X7_isShadedFromRight pc x hx, by decide⟩) hn) (tE (P := Pm mi) (fun h => by subst h; exact fun x hx => ⟨wd_X7_roomNumber pc x hx, by decide⟩) hn))))) (tB (P := Pm mi) (tB (P := Pm mi) (tB (P := Pm mi) (tE (P := Pm mi) (fun h => by subst h; exact fun x hx => ⟨wd_X8_init pc x hx, by decide⟩) hn) (tB (P := Pm mi) (tE (P := Pm mi) (fun h => by subst h; exact fun x hx => ⟨wd_X8_fill pc x hx, by decide⟩) hn) (tE (P := Pm mi) (fun h => by subst h; exact fun x hx => ⟨wd_X8_copyRow pc x hx, by decide⟩) hn))) (tB (P := Pm mi) (tE (P := Pm mi) (fun h => by subst h; exact fun x hx => ⟨wd_X8_copyFrom pc x hx, by decide⟩) hn) (tB (P := Pm mi) (tE (P := Pm mi) (fun h => by subst h; exact fun x hx => ⟨wd_X8_isColumn pc x hx, by decide⟩) hn) (tE (P := Pm mi) (fun h => by subst h; exact fun x hx => ⟨wd_X8_isCourse pc x hx, by decide⟩) hn)))) (tB (P := Pm mi) (tB (P := Pm mi) (tE (P := Pm mi) (fun h => by subst h; exact fun x hx => ⟨wd_X8_isHour pc x hx, by decide⟩) hn) (tB (P := Pm mi) (tE (P := Pm mi) (fun h => by subst h; exact fun x hx => ⟨wd_X8_isRack pc x hx, by decide⟩) hn) (tE (P := Pm mi) (fun h => by subst h; exact fun x hx => ⟨wd_X8_isSawn pc x hx, by decide⟩) hn))) (tB (P := Pm mi) (tB (P := Pm mi) (tE (P := Pm mi) (fun h => by subst h; exact fun x hx => ⟨wd_X8_isOnWall pc x hx, by decide⟩) hn) (tE (P := Pm mi) (fun h => by subst h; exact fun x hx => ⟨wd_X8_isInRack pc x hx, by decide⟩) hn)) (tB (P := Pm mi) (tE (P := Pm mi) (fun h => by subst h; exact fun x hx => ⟨wd_X8_isGone pc x hx, by decide⟩) hn) (tE (P := Pm mi) (fun h => by subst h; exact fun x hx => ⟨wd_X8_massOf pc x hx, by decide⟩) hn)))))) (tB (P := Pm mi) (tB (P := Pm mi) (tB (P := Pm mi) (tB (P := Pm mi) (tE (P := Pm mi) (fun h => by subst h; exact fun x hx => ⟨wd_X8_hourOfDay pc x hx, by decide⟩) hn) (tB (P := Pm mi) (tE (P := Pm mi) (fun h => by subst h; exact fun x hx => ⟨wd_X8_temperatureAt pc x hx, by decide⟩) hn) (tE (P := Pm mi) (fun h => by subst h; exact fun x hx => ⟨wd_X8_blockAt pc x hx, by decide⟩) hn))) (tB (P := Pm mi) (tE (P := Pm mi) (fun h => by subst h; exact fun x hx => ⟨wd_X8_blockInRack pc x hx, by decide⟩) hn) (tB (P := Pm mi) (tE (P := Pm mi) (fun h => by subst h; exact fun x hx => ⟨wd_X8_freePlace pc x hx, by decide⟩) hn) (tE (P := Pm mi) (fun h => by subst h; exact fun x hx => ⟨wd_X8_supportedColumns pc x hx, by decide⟩) hn)))) (tB (P := Pm mi) (tB (P := Pm mi) (tE (P := Pm mi) (fun h => by subst h; exact fun x hx => ⟨wd_X8_supportOf pc x hx, by decide⟩) hn) (tB (P := Pm mi) (tE (P := Pm mi) (fun h => by subst h; exact fun x hx => ⟨wd_X8_isSupported pc x hx, by decide⟩) hn) (tE (P := Pm mi) (fun h => by subst h; exact fun x hx => ⟨wd_X8_sharedColumns pc x hx, by decide⟩) hn))) (tB (P := Pm mi) (tE (P := Pm mi) (fun h => by subst h; exact fun x hx => ⟨wd_X8_addBlock pc x hx, by decide⟩) hn) (tB (P := Pm mi) (tE (P := Pm mi) (fun h => by subst h; exact fun x hx => ⟨wd_X8_putOnWall pc x hx, by decide⟩) hn) (tE (P := Pm mi) (fun h => by subst h; exact fun x hx => ⟨wd_X8_remove pc x hx, by decide⟩) hn))))) (tB (P := Pm mi) (tB (P := Pm mi) (tB (P := Pm mi) (tE (P := Pm mi) (fun h => by subst h; exact fun x hx => ⟨wd_X8_leaveRack pc x hx, by decide⟩) hn) (tB (P := Pm mi) (tE (P := Pm mi) (fun h => by subst h; exact fun x hx => ⟨wd_X8_markColumns pc x hx, by decide⟩) hn) (tE (P := Pm mi) (fun h => by subst h; exact fun x hx => ⟨wd_X8_numberOf pc x hx, by decide⟩) hn))) (tB (P := Pm mi) (tE (P := Pm mi) (fun h => by subst h; exact fun x hx => ⟨wd_X8_signOf pc x hx, by decide⟩) hn) (tB (P := Pm mi) (tE (P := Pm mi) (fun h => by subst h; exact fun x hx => ⟨wd_X8_accountOf pc x hx, by decide⟩) hn) (tE (P := Pm mi) (fun h => by subst h; exact fun x hx => ⟨wd_X8_countOnWall pc x hx, by decide⟩) hn)))) (tB (P := Pm mi) (tB (P := Pm mi) (tE (P := Pm mi) (fun h => by subst h; exact fun x hx => ⟨wd_X8_countStates pc x hx, by decide⟩) hn) (tB (P := Pm mi) (tE (P := Pm mi) (fun h => by subst h; exact fun x hx => ⟨wd_X8_countCauses pc x hx, by decide⟩) hn) (tE (P := Pm mi) (fun h => by subst h; exact fun x hx => ⟨wd_X8_countFilledColumns pc x hx, by decide⟩) hn))) (tB (P := Pm mi) (tB (P := Pm mi) (tE (P := Pm mi) (fun h => by subst h; exact fun x hx => ⟨wd_X8_sumOfMasses pc x hx, by decide⟩) hn) (tE (P := Pm mi) (fun h => by subst h; exact fun x hx => ⟨wd_X9_init pc x hx, by decide⟩) hn)) (tB (P := Pm mi) (tE (P := Pm mi) (fun h => by subst h; exact fun x hx => ⟨wd_X9_faultOf pc x hx, by decide⟩) hn) (tE (P := Pm mi) (fun h => by subst h; exact fun x hx => ⟨wd_X9_perform pc x hx, by decide⟩) hn)))))))) (tB (P := Pm mi) (tB (P := Pm mi) (tB (P := Pm mi) (tB (P := Pm mi) (tB (P := Pm mi) (tB (P := Pm mi) (tE (P := Pm mi) (fun h => by subst h; exact fun x hx => ⟨wd_X9_refuse pc x hx, by decide⟩) hn) (tB (P := Pm mi) (tE (P := Pm mi) (fun h => by subst h; exact fun x hx => ⟨wd_X9_faultOfTemperature pc x hx, by decide⟩) hn) (tE (P := Pm mi) (fun h => by subst h; exact fun x hx => ⟨wd_X9_setTemperature pc x hx, by decide⟩) hn))) (tB (P := Pm mi) (tE (P := Pm mi) (fun h => by subst h; exact fun x hx => ⟨wd_X9_setVisitors pc x hx, by decide⟩) hn) (tB (P := Pm mi) (tE (P := Pm mi) (fun h => by subst h; exact fun x hx => ⟨wd_X9_faultOfSawing pc x hx, by decide⟩) hn) (tE (P := Pm mi) (fun h => by subst h; exact fun x hx => ⟨wd_X9_faultOfLaying pc x hx, by decide⟩) hn)))) (tB (P := Pm mi) (tB (P := Pm mi) (tE (P := Pm mi) (fun h => by subst h; exact fun x hx => ⟨wd_X9_faultOfTaking pc x hx, by decide⟩) hn) (tB (P := Pm mi) (tE (P := Pm mi) (fun h => by subst h; exact fun x hx => ⟨wd_X10_init pc x hx, by decide⟩) hn) (tE (P := Pm mi) (fun h => by subst h; exact fun x hx => ⟨wd_X10_heat pc x hx, by decide⟩) hn))) (tB (P := Pm mi) (tE (P := Pm mi) (fun h => by subst h; exact fun x hx => ⟨wd_X10_visit pc x hx, by decide⟩) hn) (tB (P := Pm mi) (tE (P := Pm mi) (fun h => by subst h; exact fun x hx => ⟨wd_X10_saw pc x hx, by decide⟩) hn) (tE (P := Pm mi) (fun h => by subst h; exact fun x hx => ⟨wd_X10_lay pc x hx, by decide⟩) hn))))) (tB (P := Pm mi) (tB (P := Pm mi) (tB (P := Pm mi) (tE (P := Pm mi) (fun h => by subst h; exact fun x hx => ⟨wd_X10_take pc x hx, by decide⟩) hn) (tB (P := Pm mi) (tE (P := Pm mi) (fun h => by subst h; exact fun x hx => ⟨wd_X10_pass pc x hx, by decide⟩) hn) (tE (P := Pm mi) (fun h => by subst h; exact fun x hx => ⟨wd_X10_blockOf pc x hx, by decide⟩) hn))) (tB (P := Pm mi) (tE (P := Pm mi) (fun h => by subst h; exact fun x hx => ⟨wd_X10_mass pc x hx, by decide⟩) hn) (tB (P := Pm mi) (tE (P := Pm mi) (fun h => by subst h; exact fun x hx => ⟨wd_X10_load pc x hx, by decide⟩) hn) (tE (P := Pm mi) (fun h => by subst h; exact fun x hx => ⟨wd_X10_loadAgain pc x hx, by decide⟩) hn)))) (tB (P := Pm mi) (tB (P := Pm mi) (tE (P := Pm mi) (fun h => by subst h; exact fun x hx => ⟨wd_X10_at pc x hx, by decide⟩) hn) (tB (P := Pm mi) (tE (P := Pm mi) (fun h => by subst h; exact fun x hx => ⟨wd_X10_height pc x hx, by decide⟩) hn) (tE (P := Pm mi) (fun h => by subst h; exact fun x hx => ⟨wd_X10_isShady pc x hx, by decide⟩) hn))) (tB (P := Pm mi) (tB (P := Pm mi) (tE (P := Pm mi) (fun h => by subst h; exact fun x hx => ⟨wd_X10_sign pc x hx, by decide⟩) hn) (tE (P := Pm mi) (fun h => by subst h; exact fun x hx => ⟨wd_X10_rooms pc x hx, by decide⟩) hn)) (tB (P := Pm mi) (tE (P := Pm mi) (fun h => by subst h; exact fun x hx => ⟨wd_X10_inRack pc x hx, by decide⟩) hn) (tE (P := Pm mi) (fun h => by subst h; exact fun x hx => ⟨wd_X10_worst pc x hx, by decide⟩) hn)))))) (tB (P := Pm mi) (tB (P := Pm mi) (tB (P := Pm mi) (tB (P := Pm mi) (tE (P := Pm mi) (fun h => by subst h; exact fun x hx => ⟨wd_X10_goneIn pc x hx, by decide⟩) hn) (tB (P := Pm mi) (tE (P := Pm mi) (fun h => by subst h; exact fun x hx => ⟨wd_X10_massBits pc x hx, by decide⟩) hn) (tE (P := Pm mi) (fun h => by subst h; exact fun x hx => ⟨wd_X10_safe pc x hx, by decide⟩) hn))) (tB (P := Pm mi) (tE (P := Pm mi) (fun h => by subst h; exact fun x hx => ⟨wd_X10_left pc x hx, by decide⟩) hn) (tB (P := Pm mi) (tE (P := Pm mi) (fun h => by subst h; exact fun x hx => ⟨wd_X10_append pc x hx, by decide⟩) hn) (tE (P := Pm mi) (fun h => by subst h; exact fun x hx => ⟨wd_X10_read pc x hx, by decide⟩) hn)))) (tB (P := Pm mi) (tB (P := Pm mi) (tE (P := Pm mi) (fun h => by subst h; exact fun x hx => ⟨wd_X10_errorPosition pc x hx, by decide⟩) hn) (tB (P := Pm mi) (tE (P := Pm mi) (fun h => by subst h; exact fun x hx => ⟨wd_X10_account pc x hx, by decide⟩) hn) (tE (P := Pm mi) (fun h => by subst h; exact fun x hx => ⟨wd_X10_isWell pc x hx, by decide⟩) hn))) (tB (P := Pm mi) (tE (P := Pm mi) (fun h => by subst h; exact fun x hx => ⟨wd_X10_meanBits pc x hx, by decide⟩) hn) (tB (P := Pm mi) (tE (P := Pm mi) (fun h => by subst h; exact fun x hx => ⟨wd_X10_undo pc x hx, by decide⟩) hn) (tE (P := Pm mi) (fun h => by subst h; exact fun x hx => ⟨wd_X10_save pc x hx, by decide⟩) hn))))) (tB (P := Pm mi) (tB (P := Pm mi) (tB (P := Pm mi) (tE (P := Pm mi) (fun h => by subst h; exact fun x hx => ⟨wd_X10_restore pc x hx, by decide⟩) hn) (tB (P := Pm mi) (tE (P := Pm mi) (fun h => by subst h; exact fun x hx => ⟨wd_X10_permit pc x hx, by decide⟩) hn) (tE (P := Pm mi) (fun h => by subst h; exact fun x hx => ⟨wd_X10_requireSawn pc x hx, by decide⟩) hn))) (tB (P := Pm mi) (tE (P := Pm mi) (fun h => by subst h; exact fun x hx => ⟨wd_X10_requireOnWall pc x hx, by decide⟩) hn) (tB (P := Pm mi) (tE (P := Pm mi) (fun h => by subst h; exact fun x hx => ⟨wd_X10_requireHoursAhead pc x hx, by decide⟩) hn) (tE (P := Pm mi) (fun h => by subst h; exact fun x hx => ⟨wd_Jx00060_init_a7421 pc x hx, by decide⟩) hn)))) (tB (P := Pm mi) (tB (P := Pm mi) (tE (P := Pm mi) (fun h => by subst h; exact fun x hx => ⟨wd_J11_isValidCodePoint_9a6ad pc x hx, by decide⟩) hn) (tB (P := Pm mi) (tE (P := Pm mi) (fun h => by subst h; exact fun x hx => ⟨wd_J11_highSurrogate_5068e pc x hx, by decide⟩) hn) (tE (P := Pm mi) (fun h => by subst h; exact fun x hx => ⟨wd_J11_lowSurrogate_5068e pc x hx, by decide⟩) hn))) (tB (P := Pm mi) (tB (P := Pm mi) (tE (P := Pm mi) (fun h => by subst h; exact fun x hx => ⟨wd_Jxe99ae_isNaN_b9ae7 pc x hx, by decide⟩) hn) (tE (P := Pm mi) (fun h => by subst h; exact fun x hx => ⟨wd_Jxe99ae_doubleToLongBits_ccdee pc x hx, by decide⟩) hn)) (tB (P := Pm mi) (tE (P := Pm mi) (fun h => by subst h; exact fun x hx => ⟨wd_J9_floorMod_7cf53 pc x hx, by decide⟩) hn) (tE (P := Pm mi) (fun h => by subst h; exact fun x hx => ⟨wd_J9_max_7cf53 pc x hx, by decide⟩) hn))))))) (tB (P := Pm mi) (tB (P := Pm mi) (tB (P := Pm mi) (tB (P := Pm mi) (tB (P := Pm mi) (tE (P := Pm mi) (fun h => by subst h; exact fun x hx => ⟨wd_J9_min_7cf53 pc x hx, by decide⟩) hn) (tB (P := Pm mi) (tE (P := Pm mi) (fun h => by subst h; exact fun x hx => ⟨wd_J0_length_8abf5 pc x hx, by decide⟩) hn) (tE (P := Pm mi) (fun h => by subst h; exact fun x hx => ⟨wd_J0_charAt_5068e pc x hx, by decide⟩) hn))) (tB (P := Pm mi) (tE (P := Pm mi) (fun h => by subst h; exact fun x hx => ⟨wd_J0_indexOf_0f7a4 pc x hx, by decide⟩) hn) (tB (P := Pm mi) (tE (P := Pm mi) (fun h => by subst h; exact fun x hx => ⟨wd_J0_indexOf_7cf53 pc x hx, by decide⟩) hn) (tE (P := Pm mi) (fun h => by subst h; exact fun x hx => ⟨wd_J0_coder_7d493 pc x hx, by decide⟩) hn)))) (tB (P := Pm mi) (tB (P := Pm mi) (tE (P := Pm mi) (fun h => by subst h; exact fun x hx => ⟨wd_J0_isLatin1_aae02 pc x hx, by decide⟩) hn) (tB (P := Pm mi) (tE (P := Pm mi) (fun h => by subst h; exact fun x hx => ⟨wd_J0_checkIndex_df160 pc x hx, by decide⟩) hn) (tE (P := Pm mi) (fun h => by subst h; exact fun x hx => ⟨wd_J0_checkBoundsBeginEnd_23922 pc x hx, by decide⟩) hn))) (tB (P := Pm mi) (tE (P := Pm mi) (fun h => by subst h; exact fun x hx => ⟨wd_J1_charAt_3b067 pc x hx, by decide⟩) hn) (tB (P := Pm mi) (tE (P := Pm mi) (fun h => by subst h; exact fun x hx => ⟨wd_J1_canEncode_9a6ad pc x hx, by decide⟩) hn) (tE (P := Pm mi) (fun h => by subst h; exact fun x hx => ⟨wd_J1_indexOf_4cfef pc x hx, by decide⟩) hn))))) (tB (P := Pm mi) (tB (P := Pm mi) (tB (P := Pm mi) (tE (P := Pm mi) (fun h => by subst h; exact fun x hx => ⟨wd_J1_indexOfChar_4cfef pc x hx, by decide⟩) hn) (tB (P := Pm mi) (tE (P := Pm mi) (fun h => by subst h; exact fun x hx => ⟨wd_J2_getChar_3b067 pc x hx, by decide⟩) hn) (tE (P := Pm mi) (fun h => by subst h; exact fun x hx => ⟨wd_J2_length_9d52b pc x hx, by decide⟩) hn))) (tB (P := Pm mi) (tE (P := Pm mi) (fun h => by subst h; exact fun x hx => ⟨wd_J2_indexOf_4cfef pc x hx, by decide⟩) hn) (tB (P := Pm mi) (tE (P := Pm mi) (fun h => by subst h; exact fun x hx => ⟨wd_J2_indexOfChar_4cfef pc x hx, by decide⟩) hn) (tE (P := Pm mi) (fun h => by subst h; exact fun x hx => ⟨wd_J2_indexOfCharUnsafe_4cfef pc x hx, by decide⟩) hn)))) (tB (P := Pm mi) (tB (P := Pm mi) (tE (P := Pm mi) (fun h => by subst h; exact fun x hx => ⟨wd_J2_indexOfSupplementary_4cfef pc x hx, by decide⟩) hn) (tB (P := Pm mi) (tE (P := Pm mi) (fun h => by subst h; exact fun x hx => ⟨wd_J2_charAt_3b067 pc x hx, by decide⟩) hn) (tE (P := Pm mi) (fun h => by subst h; exact fun x hx => ⟨wd_J2_checkIndex_2214a pc x hx, by decide⟩) hn))) (tB (P := Pm mi) (tB (P := Pm mi) (tE (P := Pm mi) (fun h => by subst h; exact fun x hx => ⟨wd_J2_checkBoundsBeginEnd_d044e pc x hx, by decide⟩) hn) (tE (P := Pm mi) (fun h => by subst h; exact fun x hx => ⟨wd_J3_checkIndex_8e157 pc x hx, by decide⟩) hn)) (tB (P := Pm mi) (tE (P := Pm mi) (fun h => by subst h; exact fun x hx => ⟨wd_J3_checkFromToIndex_8c36e pc x hx, by decide⟩) hn) (tE (P := Pm mi) (fun h => by subst h; exact fun x hx => ⟨wd_L_cell pc x hx, by decide⟩) hn)))))) (tB (P := Pm mi) (tB (P := Pm mi) (tB (P := Pm mi) (tB (P := Pm mi) (tE (P := Pm mi) (fun h => by subst h; exact fun x hx => ⟨wd_L_heat pc x hx, by decide⟩) hn) (tB (P := Pm mi) (tE (P := Pm mi) (fun h => by subst h; exact fun x hx => ⟨wd_L_visit pc x hx, by decide⟩) hn) (tE (P := Pm mi) (fun h => by subst h; exact fun x hx => ⟨wd_L_saw pc x hx, by decide⟩) hn))) (tB (P := Pm mi) (tE (P := Pm mi) (fun h => by subst h; exact fun x hx => ⟨wd_L_lay pc x hx, by decide⟩) hn) (tB (P := Pm mi) (tE (P := Pm mi) (fun h => by subst h; exact fun x hx => ⟨wd_L_take pc x hx, by decide⟩) hn) (tE (P := Pm mi) (fun h => by subst h; exact fun x hx => ⟨wd_L_pass pc x hx, by decide⟩) hn)))) (tB (P := Pm mi) (tB (P := Pm mi) (tE (P := Pm mi) (fun h => by subst h; exact fun x hx => ⟨wd_L_goneIn pc x hx, by decide⟩) hn) (tB (P := Pm mi) (tE (P := Pm mi) (fun h => by subst h; exact fun x hx => ⟨wd_L_safe pc x hx, by decide⟩) hn) (tE (P := Pm mi) (fun h => by subst h; exact fun x hx => ⟨wd_L_worst pc x hx, by decide⟩) hn))) (tB (P := Pm mi) (tE (P := Pm mi) (fun h => by subst h; exact fun x hx => ⟨wd_L_read pc x hx, by decide⟩) hn) (tB (P := Pm mi) (tE (P := Pm mi) (fun h => by subst h; exact fun x hx => ⟨wd_L_undo pc x hx, by decide⟩) hn) (tE (P := Pm mi) (fun h => by subst h; exact fun x hx => ⟨wd_L_restore pc x hx, by decide⟩) hn))))) (tB (P := Pm mi) (tB (P := Pm mi) (tB (P := Pm mi) (tE (P := Pm mi) (fun h => by subst h; exact fun x hx => ⟨wd_L_meanBits pc x hx, by decide⟩) hn) (tB (P := Pm mi) (tE (P := Pm mi) (fun h => by subst h; exact fun x hx => ⟨wd_L_append pc x hx, by decide⟩) hn) (tE (P := Pm mi) (fun h => by subst h; exact fun x hx => ⟨wd_L_write pc x hx, by decide⟩) hn))) (tB (P := Pm mi) (tE (P := Pm mi) (fun h => by subst h; exact fun x hx => ⟨wd_L_act pc x hx, by decide⟩) hn) (tB (P := Pm mi) (tE (P := Pm mi) (fun h => by subst h; exact fun x hx => ⟨wd_L_digest pc x hx, by decide⟩) hn) (tE (P := Pm mi) (fun h => by subst h; exact fun x hx => ⟨wd_L_areBlocks pc x hx, by decide⟩) hn)))) (tB (P := Pm mi) (tB (P := Pm mi) (tE (P := Pm mi) (fun h => by subst h; exact fun x hx => ⟨wd_L_areLoads pc x hx, by decide⟩) hn) (tB (P := Pm mi) (tE (P := Pm mi) (fun h => by subst h; exact fun x hx => ⟨wd_L_areRooms pc x hx, by decide⟩) hn) (tE (P := Pm mi) (fun h => by subst h; exact fun x hx => ⟨wd_L_isFit pc x hx, by decide⟩) hn))) (tB (P := Pm mi) (tB (P := Pm mi) (tE (P := Pm mi) (fun h => by subst h; exact fun x hx => ⟨wd_L_isAhead pc x hx, by decide⟩) hn) (tE (P := Pm mi) (fun h => by subst h; exact fun x hx => ⟨wd_L_isGone pc x hx, by decide⟩) hn)) (tB (P := Pm mi) (tE (P := Pm mi) (fun h => by subst h; exact fun x hx => ⟨wd_L_isSafe pc x hx, by decide⟩) hn) (tE (P := Pm mi) (fun h => absurd h hL) hn))))))))
theorem cdT_wf {mi pc : Nat} {e : Ent} (hL : ¬ mi = mL_law) (h : cdT mi pc = some e) : wfE mi pc e = true ∧ mi < nMeth := by
  unfold cdT at h
  have h1 : (pc, e) ∈ cdS mi pc := lk_mem (cdS mi pc) pc e h
  have h2 := cdS_wf mi pc hL
  unfold Pm at h2
  exact h2 (pc, e) h1
def wfY (y : Lay) : Bool := match y with
  | (0, ci, sl) => Nat.blt ci 9 && Nat.beq sl.length (cN ci) && (List.range sl.length).all (fun j => (match sl.getD j 0 with | 0 => decide (cTy ci j = .int) | 1 => decide (cTy ci j = .boolean) | 2 => decide (cTy ci j = .char) | t + 3 => Nat.blt t NC))
  | (7, n, ts) => Nat.beq ts.length n && ts.all (fun t => Nat.blt t NC)
  | (8, n, ts) => Nat.beq ts.length n && ts.all (fun t => Nat.blt t NC)
  | (9, n, ts) => Nat.beq ts.length n && ts.all (fun t => Nat.blt t NC)
  | (t, _, _) => Nat.blt t 7
def Py (k : Nat) (y : Lay) : Prop := y = (99, 0, []) ∨ ((31 ≤ k ∧ k < 212) ∧ wfY y = true)
set_option maxRecDepth 100000 in
theorem layAt_wf (k : Nat) : Py k (layAt k) := by
  unfold layAt
  exact tB (P := Py k) (tB (P := Py k) (tB (P := Py k) (tB (P := Py k) (tB (P := Py k) (tB (P := Py k) (tB (P := Py k) (tE (P := Py k) (fun h => by subst h; exact Or.inr ⟨by decide, by decide +kernel⟩) (Or.inl rfl)) (tE (P := Py k) (fun h => by subst h; exact Or.inr ⟨by decide, by decide +kernel⟩) (Or.inl rfl))) (tB (P := Py k) (tE (P := Py k) (fun h => by subst h; exact Or.inr ⟨by decide, by decide +kernel⟩) (Or.inl rfl)) (tB (P := Py k) (tE (P := Py k) (fun h => by subst h; exact Or.inr ⟨by decide, by decide +kernel⟩) (Or.inl rfl)) (tE (P := Py k) (fun h => by subst h; exact Or.inr ⟨by decide, by decide +kernel⟩) (Or.inl rfl))))) (tB (P := Py k) (tB (P := Py k) (tE (P := Py k) (fun h => by subst h; exact Or.inr ⟨by decide, by decide +kernel⟩) (Or.inl rfl)) (tB (P := Py k) (tE (P := Py k) (fun h => by subst h; exact Or.inr ⟨by decide, by decide +kernel⟩) (Or.inl rfl)) (tE (P := Py k) (fun h => by subst h; exact Or.inr ⟨by decide, by decide +kernel⟩) (Or.inl rfl)))) (tB (P := Py k) (tE (P := Py k) (fun h => by subst h; exact Or.inr ⟨by decide, by decide +kernel⟩) (Or.inl rfl)) (tB (P := Py k) (tE (P := Py k) (fun h => by subst h; exact Or.inr ⟨by decide, by decide +kernel⟩) (Or.inl rfl)) (tE (P := Py k) (fun h => by subst h; exact Or.inr ⟨by decide, by decide +kernel⟩) (Or.inl rfl)))))) (tB (P := Py k) (tB (P := Py k) (tB (P := Py k) (tE (P := Py k) (fun h => by subst h; exact Or.inr ⟨by decide, by decide +kernel⟩) (Or.inl rfl)) (tE (P := Py k) (fun h => by subst h; exact Or.inr ⟨by decide, by decide +kernel⟩) (Or.inl rfl))) (tB (P := Py k) (tE (P := Py k) (fun h => by subst h; exact Or.inr ⟨by decide, by decide +kernel⟩) (Or.inl rfl)) (tB (P := Py k) (tE (P := Py k) (fun h => by subst h; exact Or.inr ⟨by decide, by decide +kernel⟩) (Or.inl rfl)) (tE (P := Py k) (fun h => by subst h; exact Or.inr ⟨by decide, by decide +kernel⟩) (Or.inl rfl))))) (tB (P := Py k) (tB (P := Py k) (tE (P := Py k) (fun h => by subst h; exact Or.inr ⟨by decide, by decide +kernel⟩) (Or.inl rfl)) (tB (P := Py k) (tE (P := Py k) (fun h => by subst h; exact Or.inr ⟨by decide, by decide +kernel⟩) (Or.inl rfl)) (tE (P := Py k) (fun h => by subst h; exact Or.inr ⟨by decide, by decide +kernel⟩) (Or.inl rfl)))) (tB (P := Py k) (tE (P := Py k) (fun h => by subst h; exact Or.inr ⟨by decide, by decide +kernel⟩) (Or.inl rfl)) (tB (P := Py k) (tE (P := Py k) (fun h => by subst h; exact Or.inr ⟨by decide, by decide +kernel⟩) (Or.inl rfl)) (tE (P := Py k) (fun h => by subst h; exact Or.inr ⟨by decide, by decide +kernel⟩) (Or.inl rfl))))))) (tB (P := Py k) (tB (P := Py k) (tB (P := Py k) (tB (P := Py k) (tE (P := Py k) (fun h => by subst h; exact Or.inr ⟨by decide, by decide +kernel⟩) (Or.inl rfl)) (tE (P := Py k) (fun h => by subst h; exact Or.inr ⟨by decide, by decide +kernel⟩) (Or.inl rfl))) (tB (P := Py k) (tE (P := Py k) (fun h => by subst h; exact Or.inr ⟨by decide, by decide +kernel⟩) (Or.inl rfl)) (tB (P := Py k) (tE (P := Py k) (fun h => by subst h; exact Or.inr ⟨by decide, by decide +kernel⟩) (Or.inl rfl)) (tE (P := Py k) (fun h => by subst h; exact Or.inr ⟨by decide, by decide +kernel⟩) (Or.inl rfl))))) (tB (P := Py k) (tB (P := Py k) (tE (P := Py k) (fun h => by subst h; exact Or.inr ⟨by decide, by decide +kernel⟩) (Or.inl rfl)) (tB (P := Py k) (tE (P := Py k) (fun h => by subst h; exact Or.inr ⟨by decide, by decide +kernel⟩) (Or.inl rfl)) (tE (P := Py k) (fun h => by subst h; exact Or.inr ⟨by decide, by decide +kernel⟩) (Or.inl rfl)))) (tB (P := Py k) (tE (P := Py k) (fun h => by subst h; exact Or.inr ⟨by decide, by decide +kernel⟩) (Or.inl rfl)) (tB (P := Py k) (tE (P := Py k) (fun h => by subst h; exact Or.inr ⟨by decide, by decide +kernel⟩) (Or.inl rfl)) (tE (P := Py k) (fun h => by subst h; exact Or.inr ⟨by decide, by decide +kernel⟩) (Or.inl rfl)))))) (tB (P := Py k) (tB (P := Py k) (tB (P := Py k) (tE (P := Py k) (fun h => by subst h; exact Or.inr ⟨by decide, by decide +kernel⟩) (Or.inl rfl)) (tB (P := Py k) (tE (P := Py k) (fun h => by subst h; exact Or.inr ⟨by decide, by decide +kernel⟩) (Or.inl rfl)) (tE (P := Py k) (fun h => by subst h; exact Or.inr ⟨by decide, by decide +kernel⟩) (Or.inl rfl)))) (tB (P := Py k) (tE (P := Py k) (fun h => by subst h; exact Or.inr ⟨by decide, by decide +kernel⟩) (Or.inl rfl)) (tB (P := Py k) (tE (P := Py k) (fun h => by subst h; exact Or.inr ⟨by decide, by decide +kernel⟩) (Or.inl rfl)) (tE (P := Py k) (fun h => by subst h; exact Or.inr ⟨by decide, by decide +kernel⟩) (Or.inl rfl))))) (tB (P := Py k) (tB (P := Py k) (tE (P := Py k) (fun h => by subst h; exact Or.inr ⟨by decide, by decide +kernel⟩) (Or.inl rfl)) (tB (P := Py k) (tE (P := Py k) (fun h => by subst h; exact Or.inr ⟨by decide, by decide +kernel⟩) (Or.inl rfl)) (tE (P := Py k) (fun h => by subst h; exact Or.inr ⟨by decide, by decide +kernel⟩) (Or.inl rfl)))) (tB (P := Py k) (tE (P := Py k) (fun h => by subst h; exact Or.inr ⟨by decide, by decide +kernel⟩) (Or.inl rfl)) (tB (P := Py k) (tE (P := Py k) (fun h => by subst h; exact Or.inr ⟨by decide, by decide +kernel⟩) (Or.inl rfl)) (tE (P := Py k) (fun h => by subst h; exact Or.inr ⟨by decide, by decide +kernel⟩) (Or.inl rfl)))))))) (tB (P := Py k) (tB (P := Py k) (tB (P := Py k) (tB (P := Py k) (tB (P := Py k) (tE (P := Py k) (fun h => by subst h; exact Or.inr ⟨by decide, by decide +kernel⟩) (Or.inl rfl)) (tE (P := Py k) (fun h => by subst h; exact Or.inr ⟨by decide, by decide +kernel⟩) (Or.inl rfl))) (tB (P := Py k) (tE (P := Py k) (fun h => by subst h; exact Or.inr ⟨by decide, by decide +kernel⟩) (Or.inl rfl)) (tB (P := Py k) (tE (P := Py k) (fun h => by subst h; exact Or.inr ⟨by decide, by decide +kernel⟩) (Or.inl rfl)) (tE (P := Py k) (fun h => by subst h; exact Or.inr ⟨by decide, by decide +kernel⟩) (Or.inl rfl))))) (tB (P := Py k) (tB (P := Py k) (tE (P := Py k) (fun h => by subst h; exact Or.inr ⟨by decide, by decide +kernel⟩) (Or.inl rfl)) (tB (P := Py k) (tE (P := Py k) (fun h => by subst h; exact Or.inr ⟨by decide, by decide +kernel⟩) (Or.inl rfl)) (tE (P := Py k) (fun h => by subst h; exact Or.inr ⟨by decide, by decide +kernel⟩) (Or.inl rfl)))) (tB (P := Py k) (tE (P := Py k) (fun h => by subst h; exact Or.inr ⟨by decide, by decide +kernel⟩) (Or.inl rfl)) (tB (P := Py k) (tE (P := Py k) (fun h => by subst h; exact Or.inr ⟨by decide, by decide +kernel⟩) (Or.inl rfl)) (tE (P := Py k) (fun h => by subst h; exact Or.inr ⟨by decide, by decide +kernel⟩) (Or.inl rfl)))))) (tB (P := Py k) (tB (P := Py k) (tB (P := Py k) (tE (P := Py k) (fun h => by subst h; exact Or.inr ⟨by decide, by decide +kernel⟩) (Or.inl rfl)) (tE (P := Py k) (fun h => by subst h; exact Or.inr ⟨by decide, by decide +kernel⟩) (Or.inl rfl))) (tB (P := Py k) (tE (P := Py k) (fun h => by subst h; exact Or.inr ⟨by decide, by decide +kernel⟩) (Or.inl rfl)) (tB (P := Py k) (tE (P := Py k) (fun h => by subst h; exact Or.inr ⟨by decide, by decide +kernel⟩) (Or.inl rfl)) (tE (P := Py k) (fun h => by subst h; exact Or.inr ⟨by decide, by decide +kernel⟩) (Or.inl rfl))))) (tB (P := Py k) (tB (P := Py k) (tE (P := Py k) (fun h => by subst h; exact Or.inr ⟨by decide, by decide +kernel⟩) (Or.inl rfl)) (tB (P := Py k) (tE (P := Py k) (fun h => by subst h; exact Or.inr ⟨by decide, by decide +kernel⟩) (Or.inl rfl)) (tE (P := Py k) (fun h => by subst h; exact Or.inr ⟨by decide, by decide +kernel⟩) (Or.inl rfl)))) (tB (P := Py k) (tE (P := Py k) (fun h => by subst h; exact Or.inr ⟨by decide, by decide +kernel⟩) (Or.inl rfl)) (tB (P := Py k) (tE (P := Py k) (fun h => by subst h; exact Or.inr ⟨by decide, by decide +kernel⟩) (Or.inl rfl)) (tE (P := Py k) (fun h => by subst h; exact Or.inr ⟨by decide, by decide +kernel⟩) (Or.inl rfl))))))) (tB (P := Py k) (tB (P := Py k) (tB (P := Py k) (tB (P := Py k) (tE (P := Py k) (fun h => by subst h; exact Or.inr ⟨by decide, by decide +kernel⟩) (Or.inl rfl)) (tE (P := Py k) (fun h => by subst h; exact Or.inr ⟨by decide, by decide +kernel⟩) (Or.inl rfl))) (tB (P := Py k) (tE (P := Py k) (fun h => by subst h; exact Or.inr ⟨by decide, by decide +kernel⟩) (Or.inl rfl)) (tB (P := Py k) (tE (P := Py k) (fun h => by subst h; exact Or.inr ⟨by decide, by decide +kernel⟩) (Or.inl rfl)) (tE (P := Py k) (fun h => by subst h; exact Or.inr ⟨by decide, by decide +kernel⟩) (Or.inl rfl))))) (tB (P := Py k) (tB (P := Py k) (tE (P := Py k) (fun h => by subst h; exact Or.inr ⟨by decide, by decide +kernel⟩) (Or.inl rfl)) (tB (P := Py k) (tE (P := Py k) (fun h => by subst h; exact Or.inr ⟨by decide, by decide +kernel⟩) (Or.inl rfl)) (tE (P := Py k) (fun h => by subst h; exact Or.inr ⟨by decide, by decide +kernel⟩) (Or.inl rfl)))) (tB (P := Py k) (tE (P := Py k) (fun h => by subst h; exact Or.inr ⟨by decide, by decide +kernel⟩) (Or.inl rfl)) (tB (P := Py k) (tE (P := Py k) (fun h => by subst h; exact Or.inr ⟨by decide, by decide +kernel⟩) (Or.inl rfl)) (tE (P := Py k) (fun h => by subst h; exact Or.inr ⟨by decide, by decide +kernel⟩) (Or.inl rfl)))))) (tB (P := Py k) (tB (P := Py k) (tB (P := Py k) (tE (P := Py k) (fun h => by subst h; exact Or.inr ⟨by decide, by decide +kernel⟩) (Or.inl rfl)) (tB (P := Py k) (tE (P := Py k) (fun h => by subst h; exact Or.inr ⟨by decide, by decide +kernel⟩) (Or.inl rfl)) (tE (P := Py k) (fun h => by subst h; exact Or.inr ⟨by decide, by decide +kernel⟩) (Or.inl rfl)))) (tB (P := Py k) (tE (P := Py k) (fun h => by subst h; exact Or.inr ⟨by decide, by decide +kernel⟩) (Or.inl rfl)) (tB (P := Py k) (tE (P := Py k) (fun h => by subst h; exact Or.inr ⟨by decide, by decide +kernel⟩) (Or.inl rfl)) (tE (P := Py k) (fun h => by subst h; exact Or.inr ⟨by decide, by decide +kernel⟩) (Or.inl rfl))))) (tB (P := Py k) (tB (P := Py k) (tE (P := Py k) (fun h => by subst h; exact Or.inr ⟨by decide, by decide +kernel⟩) (Or.inl rfl)) (tB (P := Py k) (tE (P := Py k) (fun h => by subst h; exact Or.inr ⟨by decide, by decide +kernel⟩) (Or.inl rfl)) (tE (P := Py k) (fun h => by subst h; exact Or.inr ⟨by decide, by decide +kernel⟩) (Or.inl rfl)))) (tB (P := Py k) (tE (P := Py k) (fun h => by subst h; exact Or.inr ⟨by decide, by decide +kernel⟩) (Or.inl rfl)) (tB (P := Py k) (tE (P := Py k) (fun h => by subst h; exact Or.inr ⟨by decide, by decide +kernel⟩) (Or.inl rfl)) (tE (P := Py k) (fun h => by subst h; exact Or.inr ⟨by decide, by decide +kernel⟩) (Or.inl rfl))))))))) (tB (P := Py k) (tB (P := Py k) (tB (P := Py k) (tB (P := Py k) (tB (P := Py k) (tB (P := Py k) (tE (P := Py k) (fun h => by subst h; exact Or.inr ⟨by decide, by decide +kernel⟩) (Or.inl rfl)) (tE (P := Py k) (fun h => by subst h; exact Or.inr ⟨by decide, by decide +kernel⟩) (Or.inl rfl))) (tB (P := Py k) (tE (P := Py k) (fun h => by subst h; exact Or.inr ⟨by decide, by decide +kernel⟩) (Or.inl rfl)) (tB (P := Py k) (tE (P := Py k) (fun h => by subst h; exact Or.inr ⟨by decide, by decide +kernel⟩) (Or.inl rfl)) (tE (P := Py k) (fun h => by subst h; exact Or.inr ⟨by decide, by decide +kernel⟩) (Or.inl rfl))))) (tB (P := Py k) (tB (P := Py k) (tE (P := Py k) (fun h => by subst h; exact Or.inr ⟨by decide, by decide +kernel⟩) (Or.inl rfl)) (tB (P := Py k) (tE (P := Py k) (fun h => by subst h; exact Or.inr ⟨by decide, by decide +kernel⟩) (Or.inl rfl)) (tE (P := Py k) (fun h => by subst h; exact Or.inr ⟨by decide, by decide +kernel⟩) (Or.inl rfl)))) (tB (P := Py k) (tE (P := Py k) (fun h => by subst h; exact Or.inr ⟨by decide, by decide +kernel⟩) (Or.inl rfl)) (tB (P := Py k) (tE (P := Py k) (fun h => by subst h; exact Or.inr ⟨by decide, by decide +kernel⟩) (Or.inl rfl)) (tE (P := Py k) (fun h => by subst h; exact Or.inr ⟨by decide, by decide +kernel⟩) (Or.inl rfl)))))) (tB (P := Py k) (tB (P := Py k) (tB (P := Py k) (tE (P := Py k) (fun h => by subst h; exact Or.inr ⟨by decide, by decide +kernel⟩) (Or.inl rfl)) (tE (P := Py k) (fun h => by subst h; exact Or.inr ⟨by decide, by decide +kernel⟩) (Or.inl rfl))) (tB (P := Py k) (tE (P := Py k) (fun h => by subst h; exact Or.inr ⟨by decide, by decide +kernel⟩) (Or.inl rfl)) (tB (P := Py k) (tE (P := Py k) (fun h => by subst h; exact Or.inr ⟨by decide, by decide +kernel⟩) (Or.inl rfl)) (tE (P := Py k) (fun h => by subst h; exact Or.inr ⟨by decide, by decide +kernel⟩) (Or.inl rfl))))) (tB (P := Py k) (tB (P := Py k) (tE (P := Py k) (fun h => by subst h; exact Or.inr ⟨by decide, by decide +kernel⟩) (Or.inl rfl)) (tB (P := Py k) (tE (P := Py k) (fun h => by subst h; exact Or.inr ⟨by decide, by decide +kernel⟩) (Or.inl rfl)) (tE (P := Py k) (fun h => by subst h; exact Or.inr ⟨by decide, by decide +kernel⟩) (Or.inl rfl)))) (tB (P := Py k) (tE (P := Py k) (fun h => by subst h; exact Or.inr ⟨by decide, by decide +kernel⟩) (Or.inl rfl)) (tB (P := Py k) (tE (P := Py k) (fun h => by subst h; exact Or.inr ⟨by decide, by decide +kernel⟩) (Or.inl rfl)) (tE (P := Py k) (fun h => by subst h; exact Or.inr ⟨by decide, by decide +kernel⟩) (Or.inl rfl))))))) (tB (P := Py k) (tB (P := Py k) (tB (P := Py k) (tB (P := Py k) (tE (P := Py k) (fun h => by subst h; exact Or.inr ⟨by decide, by decide +kernel⟩) (Or.inl rfl)) (tE (P := Py k) (fun h => by subst h; exact Or.inr ⟨by decide, by decide +kernel⟩) (Or.inl rfl))) (tB (P := Py k) (tE (P := Py k) (fun h => by subst h; exact Or.inr ⟨by decide, by decide +kernel⟩) (Or.inl rfl)) (tB (P := Py k) (tE (P := Py k) (fun h => by subst h; exact Or.inr ⟨by decide, by decide +kernel⟩) (Or.inl rfl)) (tE (P := Py k) (fun h => by subst h; exact Or.inr ⟨by decide, by decide +kernel⟩) (Or.inl rfl))))) (tB (P := Py k) (tB (P := Py k) (tE (P := Py k) (fun h => by subst h; exact Or.inr ⟨by decide, by decide +kernel⟩) (Or.inl rfl)) (tB (P := Py k) (tE (P := Py k) (fun h => by subst h; exact Or.inr ⟨by decide, by decide +kernel⟩) (Or.inl rfl)) (tE (P := Py k) (fun h => by subst h; exact Or.inr ⟨by decide, by decide +kernel⟩) (Or.inl rfl)))) (tB (P := Py k) (tE (P := Py k) (fun h => by subst h; exact Or.inr ⟨by decide, by decide +kernel⟩) (Or.inl rfl)) (tB (P := Py k) (tE (P := Py k) (fun h => by subst h; exact Or.inr ⟨by decide, by decide +kernel⟩) (Or.inl rfl)) (tE (P := Py k) (fun h => by subst h; exact Or.inr ⟨by decide, by decide +kernel⟩) (Or.inl rfl)))))) (tB (P := Py k) (tB (P := Py k) (tB (P := Py k) (tE (P := Py k) (fun h => by subst h; exact Or.inr ⟨by decide, by decide +kernel⟩) (Or.inl rfl)) (tB (P := Py k) (tE (P := Py k) (fun h => by subst h; exact Or.inr ⟨by decide, by decide +kernel⟩) (Or.inl rfl)) (tE (P := Py k) (fun h => by subst h; exact Or.inr ⟨by decide, by decide +kernel⟩) (Or.inl rfl)))) (tB (P := Py k) (tE (P := Py k) (fun h => by subst h; exact Or.inr ⟨by decide, by decide +kernel⟩) (Or.inl rfl)) (tB (P := Py k) (tE (P := Py k) (fun h => by subst h; exact Or.inr ⟨by decide, by decide +kernel⟩) (Or.inl rfl)) (tE (P := Py k) (fun h => by subst h; exact Or.inr ⟨by decide, by decide +kernel⟩) (Or.inl rfl))))) (tB (P := Py k) (tB (P := Py k) (tE (P := Py k) (fun h => by subst h; exact Or.inr ⟨by decide, by decide +kernel⟩) (Or.inl rfl)) (tB (P := Py k) (tE (P := Py k) (fun h => by subst h; exact Or.inr ⟨by decide, by decide +kernel⟩) (Or.inl rfl)) (tE (P := Py k) (fun h => by subst h; exact Or.inr ⟨by decide, by decide +kernel⟩) (Or.inl rfl)))) (tB (P := Py k) (tE (P := Py k) (fun h => by subst h; exact Or.inr ⟨by decide, by decide +kernel⟩) (Or.inl rfl)) (tB (P := Py k) (tE (P := Py k) (fun h => by subst h; exact Or.inr ⟨by decide, by decide +kernel⟩) (Or.inl rfl)) (tE (P := Py k) (fun h => by subst h; exact Or.inr ⟨by decide, by decide +kernel⟩) (Or.inl rfl)))))))) (tB (P := Py k) (tB (P := Py k) (tB (P := Py k) (tB (P := Py k) (tB (P := Py k) (tE (P := Py k) (fun h => by subst h; exact Or.inr ⟨by decide, by decide +kernel⟩) (Or.inl rfl)) (tE (P := Py k) (fun h => by subst h; exact Or.inr ⟨by decide, by decide +kernel⟩) (Or.inl rfl))) (tB (P := Py k) (tE (P := Py k) (fun h => by subst h; exact Or.inr ⟨by decide, by decide +kernel⟩) (Or.inl rfl)) (tB (P := Py k) (tE (P := Py k) (fun h => by subst h; exact Or.inr ⟨by decide, by decide +kernel⟩) (Or.inl rfl)) (tE (P := Py k) (fun h => by subst h; exact Or.inr ⟨by decide, by decide +kernel⟩) (Or.inl rfl))))) (tB (P := Py k) (tB (P := Py k) (tE (P := Py k) (fun h => by subst h; exact Or.inr ⟨by decide, by decide +kernel⟩) (Or.inl rfl)) (tB (P := Py k) (tE (P := Py k) (fun h => by subst h; exact Or.inr ⟨by decide, by decide +kernel⟩) (Or.inl rfl)) (tE (P := Py k) (fun h => by subst h; exact Or.inr ⟨by decide, by decide +kernel⟩) (Or.inl rfl)))) (tB (P := Py k) (tE (P := Py k) (fun h => by subst h; exact Or.inr ⟨by decide, by decide +kernel⟩) (Or.inl rfl)) (tB (P := Py k) (tE (P := Py k) (fun h => by subst h; exact Or.inr ⟨by decide, by decide +kernel⟩) (Or.inl rfl)) (tE (P := Py k) (fun h => by subst h; exact Or.inr ⟨by decide, by decide +kernel⟩) (Or.inl rfl)))))) (tB (P := Py k) (tB (P := Py k) (tB (P := Py k) (tE (P := Py k) (fun h => by subst h; exact Or.inr ⟨by decide, by decide +kernel⟩) (Or.inl rfl)) (tB (P := Py k) (tE (P := Py k) (fun h => by subst h; exact Or.inr ⟨by decide, by decide +kernel⟩) (Or.inl rfl)) (tE (P := Py k) (fun h => by subst h; exact Or.inr ⟨by decide, by decide +kernel⟩) (Or.inl rfl)))) (tB (P := Py k) (tE (P := Py k) (fun h => by subst h; exact Or.inr ⟨by decide, by decide +kernel⟩) (Or.inl rfl)) (tB (P := Py k) (tE (P := Py k) (fun h => by subst h; exact Or.inr ⟨by decide, by decide +kernel⟩) (Or.inl rfl)) (tE (P := Py k) (fun h => by subst h; exact Or.inr ⟨by decide, by decide +kernel⟩) (Or.inl rfl))))) (tB (P := Py k) (tB (P := Py k) (tE (P := Py k) (fun h => by subst h; exact Or.inr ⟨by decide, by decide +kernel⟩) (Or.inl rfl)) (tB (P := Py k) (tE (P := Py k) (fun h => by subst h; exact Or.inr ⟨by decide, by decide +kernel⟩) (Or.inl rfl)) (tE (P := Py k) (fun h => by subst h; exact Or.inr ⟨by decide, by decide +kernel⟩) (Or.inl rfl)))) (tB (P := Py k) (tE (P := Py k) (fun h => by subst h; exact Or.inr ⟨by decide, by decide +kernel⟩) (Or.inl rfl)) (tB (P := Py k) (tE (P := Py k) (fun h => by subst h; exact Or.inr ⟨by decide, by decide +kernel⟩) (Or.inl rfl)) (tE (P := Py k) (fun h => by subst h; exact Or.inr ⟨by decide, by decide +kernel⟩) (Or.inl rfl))))))) (tB (P := Py k) (tB (P := Py k) (tB (P := Py k) (tB (P := Py k) (tE (P := Py k) (fun h => by subst h; exact Or.inr ⟨by decide, by decide +kernel⟩) (Or.inl rfl)) (tE (P := Py k) (fun h => by subst h; exact Or.inr ⟨by decide, by decide +kernel⟩) (Or.inl rfl))) (tB (P := Py k) (tE (P := Py k) (fun h => by subst h; exact Or.inr ⟨by decide, by decide +kernel⟩) (Or.inl rfl)) (tB (P := Py k) (tE (P := Py k) (fun h => by subst h; exact Or.inr ⟨by decide, by decide +kernel⟩) (Or.inl rfl)) (tE (P := Py k) (fun h => by subst h; exact Or.inr ⟨by decide, by decide +kernel⟩) (Or.inl rfl))))) (tB (P := Py k) (tB (P := Py k) (tE (P := Py k) (fun h => by subst h; exact Or.inr ⟨by decide, by decide +kernel⟩) (Or.inl rfl)) (tB (P := Py k) (tE (P := Py k) (fun h => by subst h; exact Or.inr ⟨by decide, by decide +kernel⟩) (Or.inl rfl)) (tE (P := Py k) (fun h => by subst h; exact Or.inr ⟨by decide, by decide +kernel⟩) (Or.inl rfl)))) (tB (P := Py k) (tE (P := Py k) (fun h => by subst h; exact Or.inr ⟨by decide, by decide +kernel⟩) (Or.inl rfl)) (tB (P := Py k) (tE (P := Py k) (fun h => by subst h; exact Or.inr ⟨by decide, by decide +kernel⟩) (Or.inl rfl)) (tE (P := Py k) (fun h => by subst h; exact Or.inr ⟨by decide, by decide +kernel⟩) (Or.inl rfl)))))) (tB (P := Py k) (tB (P := Py k) (tB (P := Py k) (tE (P := Py k) (fun h => by subst h; exact Or.inr ⟨by decide, by decide +kernel⟩) (Or.inl rfl)) (tB (P := Py k) (tE (P := Py k) (fun h => by subst h; exact Or.inr ⟨by decide, by decide +kernel⟩) (Or.inl rfl)) (tE (P := Py k) (fun h => by subst h; exact Or.inr ⟨by decide, by decide +kernel⟩) (Or.inl rfl)))) (tB (P := Py k) (tE (P := Py k) (fun h => by subst h; exact Or.inr ⟨by decide, by decide +kernel⟩) (Or.inl rfl)) (tB (P := Py k) (tE (P := Py k) (fun h => by subst h; exact Or.inr ⟨by decide, by decide +kernel⟩) (Or.inl rfl)) (tE (P := Py k) (fun h => by subst h; exact Or.inr ⟨by decide, by decide +kernel⟩) (Or.inl rfl))))) (tB (P := Py k) (tB (P := Py k) (tE (P := Py k) (fun h => by subst h; exact Or.inr ⟨by decide, by decide +kernel⟩) (Or.inl rfl)) (tB (P := Py k) (tE (P := Py k) (fun h => by subst h; exact Or.inr ⟨by decide, by decide +kernel⟩) (Or.inl rfl)) (tE (P := Py k) (fun h => by subst h; exact Or.inr ⟨by decide, by decide +kernel⟩) (Or.inl rfl)))) (tB (P := Py k) (tE (P := Py k) (fun h => by subst h; exact Or.inr ⟨by decide, by decide +kernel⟩) (Or.inl rfl)) (tB (P := Py k) (tE (P := Py k) (fun h => by subst h; exact Or.inr ⟨by decide, by decide +kernel⟩) (Or.inl rfl)) (tE (P := Py k) (fun h => by subst h; exact Or.inr ⟨by decide, by decide +kernel⟩) (Or.inl rfl)))))))))
end
