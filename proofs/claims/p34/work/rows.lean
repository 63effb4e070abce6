section
-- ===== PART A: goes FIRST, ahead of the names: the tables' words, and 'selects' of the private methods out of them =====
/-- a private method of a class that the tables say can be made, by its rows of tables_1 -/
def lw_okq (q : MethodName × Nat) : Prop := (q.1.cls ≠ "java/lang/invoke/MethodHandle" ∧ q.1.cls ≠ "java/lang/invoke/VarHandle") ∧ Cond.instantiable q.1.cls q.2 ∈ tables_1 ∧ Cond.privateMethod q.1 ∈ tables_1 ∧ Cond.instanceMethod q.1 ∈ tables_1
theorem lw_p0 : lw_okq (⟨"SawnIce$Works", "faultOfTemperature", "(II)I"⟩, 3) := ⟨⟨by decide +kernel, by decide +kernel⟩, List.mem_of_getElem? (i := 134) (by decide +kernel), List.mem_of_getElem? (i := 331) (by decide +kernel), List.mem_of_getElem? (i := 332) (by decide +kernel)⟩
theorem lw_p1 : lw_okq (⟨"SawnIce$Works", "faultOfSawing", "(LSawnIce$Palace;III)I"⟩, 3) := ⟨⟨by decide +kernel, by decide +kernel⟩, List.mem_of_getElem? (i := 134) (by decide +kernel), List.mem_of_getElem? (i := 338) (by decide +kernel), List.mem_of_getElem? (i := 339) (by decide +kernel)⟩
theorem lw_p2 : lw_okq (⟨"SawnIce$Works", "refuse", "(II)I"⟩, 3) := ⟨⟨by decide +kernel, by decide +kernel⟩, List.mem_of_getElem? (i := 134) (by decide +kernel), List.mem_of_getElem? (i := 345) (by decide +kernel), List.mem_of_getElem? (i := 346) (by decide +kernel)⟩
theorem lw_p3 : lw_okq (⟨"SawnIce$Works", "faultOfLaying", "(LSawnIce$Palace;III)I"⟩, 3) := ⟨⟨by decide +kernel, by decide +kernel⟩, List.mem_of_getElem? (i := 134) (by decide +kernel), List.mem_of_getElem? (i := 354) (by decide +kernel), List.mem_of_getElem? (i := 355) (by decide +kernel)⟩
theorem lw_p4 : lw_okq (⟨"SawnIce$Works", "faultOfTaking", "(LSawnIce$Palace;I)I"⟩, 3) := ⟨⟨by decide +kernel, by decide +kernel⟩, List.mem_of_getElem? (i := 134) (by decide +kernel), List.mem_of_getElem? (i := 381) (by decide +kernel), List.mem_of_getElem? (i := 382) (by decide +kernel)⟩
theorem lw_p5 : lw_okq (⟨"SawnIce", "permit", "(I)V"⟩, 10) := ⟨⟨by decide +kernel, by decide +kernel⟩, List.mem_of_getElem? (i := 33) (by decide +kernel), List.mem_of_getElem? (i := 385) (by decide +kernel), List.mem_of_getElem? (i := 386) (by decide +kernel)⟩
theorem lw_p6 : lw_okq (⟨"java/lang/Throwable", "fillInStackTrace", "(I)Ljava/lang/Throwable;"⟩, 6) := ⟨⟨by decide +kernel, by decide +kernel⟩, List.mem_of_getElem? (i := 431) (by decide +kernel), List.mem_of_getElem? (i := 429) (by decide +kernel), List.mem_of_getElem? (i := 430) (by decide +kernel)⟩
theorem lw_p7 : lw_okq (⟨"SawnIce$Works", "setTemperature", "(LSawnIce$Palace;II)I"⟩, 3) := ⟨⟨by decide +kernel, by decide +kernel⟩, List.mem_of_getElem? (i := 134) (by decide +kernel), List.mem_of_getElem? (i := 497) (by decide +kernel), List.mem_of_getElem? (i := 498) (by decide +kernel)⟩
theorem lw_p8 : lw_okq (⟨"SawnIce$Works", "setVisitors", "(LSawnIce$Palace;I)I"⟩, 3) := ⟨⟨by decide +kernel, by decide +kernel⟩, List.mem_of_getElem? (i := 134) (by decide +kernel), List.mem_of_getElem? (i := 506) (by decide +kernel), List.mem_of_getElem? (i := 507) (by decide +kernel)⟩
theorem lw_p9 : lw_okq (⟨"SawnIce$Palace", "leaveRack", "(I)V"⟩, 17) := ⟨⟨by decide +kernel, by decide +kernel⟩, List.mem_of_getElem? (i := 41) (by decide +kernel), List.mem_of_getElem? (i := 521) (by decide +kernel), List.mem_of_getElem? (i := 522) (by decide +kernel)⟩
theorem lw_p10 : lw_okq (⟨"SawnIce$Palace", "markColumns", "(II)V"⟩, 17) := ⟨⟨by decide +kernel, by decide +kernel⟩, List.mem_of_getElem? (i := 41) (by decide +kernel), List.mem_of_getElem? (i := 525) (by decide +kernel), List.mem_of_getElem? (i := 526) (by decide +kernel)⟩
theorem lw_p11 : lw_okq (⟨"SawnIce$Palace", "countStates", "(I)I"⟩, 17) := ⟨⟨by decide +kernel, by decide +kernel⟩, List.mem_of_getElem? (i := 41) (by decide +kernel), List.mem_of_getElem? (i := 557) (by decide +kernel), List.mem_of_getElem? (i := 558) (by decide +kernel)⟩
theorem lw_p12 : lw_okq (⟨"SawnIce$Hours", "changeIce", "(LSawnIce$Palace;I)V"⟩, 2) := ⟨⟨by decide +kernel, by decide +kernel⟩, List.mem_of_getElem? (i := 140) (by decide +kernel), List.mem_of_getElem? (i := 569) (by decide +kernel), List.mem_of_getElem? (i := 570) (by decide +kernel)⟩
theorem lw_p13 : lw_okq (⟨"SawnIce$Hours", "changeJoints", "(LSawnIce$Palace;I)V"⟩, 2) := ⟨⟨by decide +kernel, by decide +kernel⟩, List.mem_of_getElem? (i := 140) (by decide +kernel), List.mem_of_getElem? (i := 577) (by decide +kernel), List.mem_of_getElem? (i := 578) (by decide +kernel)⟩
theorem lw_p14 : lw_okq (⟨"SawnIce$Hours", "melt", "(LSawnIce$Palace;II)V"⟩, 2) := ⟨⟨by decide +kernel, by decide +kernel⟩, List.mem_of_getElem? (i := 140) (by decide +kernel), List.mem_of_getElem? (i := 582) (by decide +kernel), List.mem_of_getElem? (i := 583) (by decide +kernel)⟩
theorem lw_p15 : lw_okq (⟨"SawnIce$Outline", "isShadedFromLeft", "(II)Z"⟩, 1) := ⟨⟨by decide +kernel, by decide +kernel⟩, List.mem_of_getElem? (i := 156) (by decide +kernel), List.mem_of_getElem? (i := 599) (by decide +kernel), List.mem_of_getElem? (i := 600) (by decide +kernel)⟩
def lw_privs_1 : List (MethodName × Nat) := [(⟨"SawnIce$Works", "faultOfTemperature", "(II)I"⟩, 3), (⟨"SawnIce$Works", "faultOfSawing", "(LSawnIce$Palace;III)I"⟩, 3), (⟨"SawnIce$Works", "refuse", "(II)I"⟩, 3), (⟨"SawnIce$Works", "faultOfLaying", "(LSawnIce$Palace;III)I"⟩, 3), (⟨"SawnIce$Works", "faultOfTaking", "(LSawnIce$Palace;I)I"⟩, 3), (⟨"SawnIce", "permit", "(I)V"⟩, 10), (⟨"java/lang/Throwable", "fillInStackTrace", "(I)Ljava/lang/Throwable;"⟩, 6), (⟨"SawnIce$Works", "setTemperature", "(LSawnIce$Palace;II)I"⟩, 3), (⟨"SawnIce$Works", "setVisitors", "(LSawnIce$Palace;I)I"⟩, 3), (⟨"SawnIce$Palace", "leaveRack", "(I)V"⟩, 17), (⟨"SawnIce$Palace", "markColumns", "(II)V"⟩, 17), (⟨"SawnIce$Palace", "countStates", "(I)I"⟩, 17), (⟨"SawnIce$Hours", "changeIce", "(LSawnIce$Palace;I)V"⟩, 2), (⟨"SawnIce$Hours", "changeJoints", "(LSawnIce$Palace;I)V"⟩, 2), (⟨"SawnIce$Hours", "melt", "(LSawnIce$Palace;II)V"⟩, 2), (⟨"SawnIce$Outline", "isShadedFromLeft", "(II)Z"⟩, 1)]
theorem lw_r1 : ∀ q ∈ lw_privs_1, lw_okq q := List.forall_mem_cons.mpr ⟨lw_p0, List.forall_mem_cons.mpr ⟨lw_p1, List.forall_mem_cons.mpr ⟨lw_p2, List.forall_mem_cons.mpr ⟨lw_p3, List.forall_mem_cons.mpr ⟨lw_p4, List.forall_mem_cons.mpr ⟨lw_p5, List.forall_mem_cons.mpr ⟨lw_p6, List.forall_mem_cons.mpr ⟨lw_p7, List.forall_mem_cons.mpr ⟨lw_p8, List.forall_mem_cons.mpr ⟨lw_p9, List.forall_mem_cons.mpr ⟨lw_p10, List.forall_mem_cons.mpr ⟨lw_p11, List.forall_mem_cons.mpr ⟨lw_p12, List.forall_mem_cons.mpr ⟨lw_p13, List.forall_mem_cons.mpr ⟨lw_p14, List.forall_mem_cons.mpr ⟨lw_p15, fun _ h => absurd h List.not_mem_nil⟩⟩⟩⟩⟩⟩⟩⟩⟩⟩⟩⟩⟩⟩⟩⟩
theorem lw_p16 : lw_okq (⟨"SawnIce$Outline", "isShadedFromRight", "(II)Z"⟩, 1) := ⟨⟨by decide +kernel, by decide +kernel⟩, List.mem_of_getElem? (i := 156) (by decide +kernel), List.mem_of_getElem? (i := 603) (by decide +kernel), List.mem_of_getElem? (i := 604) (by decide +kernel)⟩
theorem lw_p17 : lw_okq (⟨"SawnIce$Hours", "warm", "(LSawnIce$Palace;)V"⟩, 2) := ⟨⟨by decide +kernel, by decide +kernel⟩, List.mem_of_getElem? (i := 140) (by decide +kernel), List.mem_of_getElem? (i := 609) (by decide +kernel), List.mem_of_getElem? (i := 610) (by decide +kernel)⟩
theorem lw_p18 : lw_okq (⟨"SawnIce$Hours", "removeMelted", "(LSawnIce$Palace;)V"⟩, 2) := ⟨⟨by decide +kernel, by decide +kernel⟩, List.mem_of_getElem? (i := 140) (by decide +kernel), List.mem_of_getElem? (i := 614) (by decide +kernel), List.mem_of_getElem? (i := 615) (by decide +kernel)⟩
theorem lw_p19 : lw_okq (⟨"SawnIce$Hours", "dropUnsupported", "(LSawnIce$Palace;)V"⟩, 2) := ⟨⟨by decide +kernel, by decide +kernel⟩, List.mem_of_getElem? (i := 140) (by decide +kernel), List.mem_of_getElem? (i := 619) (by decide +kernel), List.mem_of_getElem? (i := 620) (by decide +kernel)⟩
theorem lw_p20 : lw_okq (⟨"SawnIce$Hours", "breakOverloaded", "(LSawnIce$Palace;)V"⟩, 2) := ⟨⟨by decide +kernel, by decide +kernel⟩, List.mem_of_getElem? (i := 140) (by decide +kernel), List.mem_of_getElem? (i := 627) (by decide +kernel), List.mem_of_getElem? (i := 628) (by decide +kernel)⟩
theorem lw_p21 : lw_okq (⟨"SawnIce$Loads", "handDown", "(LSawnIce$Palace;I)V"⟩, 1) := ⟨⟨by decide +kernel, by decide +kernel⟩, List.mem_of_getElem? (i := 146) (by decide +kernel), List.mem_of_getElem? (i := 635) (by decide +kernel), List.mem_of_getElem? (i := 636) (by decide +kernel)⟩
theorem lw_p22 : lw_okq (⟨"SawnIce$Orders", "readOrder", "()Z"⟩, 9) := ⟨⟨by decide +kernel, by decide +kernel⟩, List.mem_of_getElem? (i := 223) (by decide +kernel), List.mem_of_getElem? (i := 722) (by decide +kernel), List.mem_of_getElem? (i := 723) (by decide +kernel)⟩
theorem lw_p23 : lw_okq (⟨"SawnIce$Orders", "goPast", "(C)Z"⟩, 9) := ⟨⟨by decide +kernel, by decide +kernel⟩, List.mem_of_getElem? (i := 223) (by decide +kernel), List.mem_of_getElem? (i := 726) (by decide +kernel), List.mem_of_getElem? (i := 727) (by decide +kernel)⟩
theorem lw_p24 : lw_okq (⟨"SawnIce$Orders", "readSawing", "()Z"⟩, 9) := ⟨⟨by decide +kernel, by decide +kernel⟩, List.mem_of_getElem? (i := 223) (by decide +kernel), List.mem_of_getElem? (i := 730) (by decide +kernel), List.mem_of_getElem? (i := 731) (by decide +kernel)⟩
theorem lw_p25 : lw_okq (⟨"SawnIce$Orders", "digits", "(I)I"⟩, 9) := ⟨⟨by decide +kernel, by decide +kernel⟩, List.mem_of_getElem? (i := 223) (by decide +kernel), List.mem_of_getElem? (i := 734) (by decide +kernel), List.mem_of_getElem? (i := 735) (by decide +kernel)⟩
theorem lw_p26 : lw_okq (⟨"SawnIce$Orders", "note", "(CIII)Z"⟩, 9) := ⟨⟨by decide +kernel, by decide +kernel⟩, List.mem_of_getElem? (i := 223) (by decide +kernel), List.mem_of_getElem? (i := 739) (by decide +kernel), List.mem_of_getElem? (i := 740) (by decide +kernel)⟩
theorem lw_p27 : lw_okq (⟨"SawnIce$Orders", "readLaying", "()Z"⟩, 9) := ⟨⟨by decide +kernel, by decide +kernel⟩, List.mem_of_getElem? (i := 223) (by decide +kernel), List.mem_of_getElem? (i := 743) (by decide +kernel), List.mem_of_getElem? (i := 744) (by decide +kernel)⟩
theorem lw_p28 : lw_okq (⟨"SawnIce$Orders", "readNumber", "(C)Z"⟩, 9) := ⟨⟨by decide +kernel, by decide +kernel⟩, List.mem_of_getElem? (i := 223) (by decide +kernel), List.mem_of_getElem? (i := 747) (by decide +kernel), List.mem_of_getElem? (i := 748) (by decide +kernel)⟩
theorem lw_p29 : lw_okq (⟨"SawnIce$Orders", "readTemperature", "()Z"⟩, 9) := ⟨⟨by decide +kernel, by decide +kernel⟩, List.mem_of_getElem? (i := 223) (by decide +kernel), List.mem_of_getElem? (i := 751) (by decide +kernel), List.mem_of_getElem? (i := 752) (by decide +kernel)⟩
theorem lw_p30 : lw_okq (⟨"SawnIce$Palace", "countFilledColumns", "()I"⟩, 17) := ⟨⟨by decide +kernel, by decide +kernel⟩, List.mem_of_getElem? (i := 41) (by decide +kernel), List.mem_of_getElem? (i := 931) (by decide +kernel), List.mem_of_getElem? (i := 932) (by decide +kernel)⟩
theorem lw_p31 : lw_okq (⟨"SawnIce$Palace", "countCauses", "(I)I"⟩, 17) := ⟨⟨by decide +kernel, by decide +kernel⟩, List.mem_of_getElem? (i := 41) (by decide +kernel), List.mem_of_getElem? (i := 937) (by decide +kernel), List.mem_of_getElem? (i := 938) (by decide +kernel)⟩
def lw_privs_2 : List (MethodName × Nat) := [(⟨"SawnIce$Outline", "isShadedFromRight", "(II)Z"⟩, 1), (⟨"SawnIce$Hours", "warm", "(LSawnIce$Palace;)V"⟩, 2), (⟨"SawnIce$Hours", "removeMelted", "(LSawnIce$Palace;)V"⟩, 2), (⟨"SawnIce$Hours", "dropUnsupported", "(LSawnIce$Palace;)V"⟩, 2), (⟨"SawnIce$Hours", "breakOverloaded", "(LSawnIce$Palace;)V"⟩, 2), (⟨"SawnIce$Loads", "handDown", "(LSawnIce$Palace;I)V"⟩, 1), (⟨"SawnIce$Orders", "readOrder", "()Z"⟩, 9), (⟨"SawnIce$Orders", "goPast", "(C)Z"⟩, 9), (⟨"SawnIce$Orders", "readSawing", "()Z"⟩, 9), (⟨"SawnIce$Orders", "digits", "(I)I"⟩, 9), (⟨"SawnIce$Orders", "note", "(CIII)Z"⟩, 9), (⟨"SawnIce$Orders", "readLaying", "()Z"⟩, 9), (⟨"SawnIce$Orders", "readNumber", "(C)Z"⟩, 9), (⟨"SawnIce$Orders", "readTemperature", "()Z"⟩, 9), (⟨"SawnIce$Palace", "countFilledColumns", "()I"⟩, 17), (⟨"SawnIce$Palace", "countCauses", "(I)I"⟩, 17)]
theorem lw_r2 : ∀ q ∈ lw_privs_2, lw_okq q := List.forall_mem_cons.mpr ⟨lw_p16, List.forall_mem_cons.mpr ⟨lw_p17, List.forall_mem_cons.mpr ⟨lw_p18, List.forall_mem_cons.mpr ⟨lw_p19, List.forall_mem_cons.mpr ⟨lw_p20, List.forall_mem_cons.mpr ⟨lw_p21, List.forall_mem_cons.mpr ⟨lw_p22, List.forall_mem_cons.mpr ⟨lw_p23, List.forall_mem_cons.mpr ⟨lw_p24, List.forall_mem_cons.mpr ⟨lw_p25, List.forall_mem_cons.mpr ⟨lw_p26, List.forall_mem_cons.mpr ⟨lw_p27, List.forall_mem_cons.mpr ⟨lw_p28, List.forall_mem_cons.mpr ⟨lw_p29, List.forall_mem_cons.mpr ⟨lw_p30, List.forall_mem_cons.mpr ⟨lw_p31, fun _ h => absurd h List.not_mem_nil⟩⟩⟩⟩⟩⟩⟩⟩⟩⟩⟩⟩⟩⟩⟩⟩
theorem lw_p32 : lw_okq (⟨"SawnIce", "requireSawn", "(I)V"⟩, 10) := ⟨⟨by decide +kernel, by decide +kernel⟩, List.mem_of_getElem? (i := 33) (by decide +kernel), List.mem_of_getElem? (i := 945) (by decide +kernel), List.mem_of_getElem? (i := 946) (by decide +kernel)⟩
theorem lw_p33 : lw_okq (⟨"SawnIce", "requireHoursAhead", "(I)V"⟩, 10) := ⟨⟨by decide +kernel, by decide +kernel⟩, List.mem_of_getElem? (i := 33) (by decide +kernel), List.mem_of_getElem? (i := 955) (by decide +kernel), List.mem_of_getElem? (i := 956) (by decide +kernel)⟩
theorem lw_p34 : lw_okq (⟨"SawnIce", "requireOnWall", "(I)V"⟩, 10) := ⟨⟨by decide +kernel, by decide +kernel⟩, List.mem_of_getElem? (i := 33) (by decide +kernel), List.mem_of_getElem? (i := 1131) (by decide +kernel), List.mem_of_getElem? (i := 1132) (by decide +kernel)⟩
def lw_privs_3 : List (MethodName × Nat) := [(⟨"SawnIce", "requireSawn", "(I)V"⟩, 10), (⟨"SawnIce", "requireHoursAhead", "(I)V"⟩, 10), (⟨"SawnIce", "requireOnWall", "(I)V"⟩, 10)]
theorem lw_r3 : ∀ q ∈ lw_privs_3, lw_okq q := List.forall_mem_cons.mpr ⟨lw_p32, List.forall_mem_cons.mpr ⟨lw_p33, List.forall_mem_cons.mpr ⟨lw_p34, fun _ h => absurd h List.not_mem_nil⟩⟩⟩
def lw_privs : List (MethodName × Nat) := lw_privs_1 ++ (lw_privs_2 ++ (lw_privs_3))
def lw_tbl : List Cond := k2_sels lw_privs ++ tables_1
theorem lw_privs_ok : ∀ q ∈ lw_privs, lw_okq q := by
  show ∀ q ∈ lw_privs_1 ++ (lw_privs_2 ++ (lw_privs_3)), lw_okq q
  exact List.forall_mem_append.mpr ⟨lw_r1, List.forall_mem_append.mpr ⟨lw_r2, lw_r3⟩⟩
/-- the streams that the claim lets the run draw from -/
abbrev lw_cs : List Choice := [Jvm.Choice.named "NaN.bits", Jvm.Choice.named "NaN.copy"]
theorem lw_bits : nanBits ∈ lw_cs := by first | decide | exact List.mem_cons_self | simp [lw_cs, nanBits]
-- ===== end of PART A; then your names; then what follows =====
end
section
noncomputable section
def RX0 : String := "SawnIce$Ahead"
def RX1 : String := "SawnIce$Audit"
def RX2 : String := "SawnIce$Bits"
def RX3 : String := "SawnIce$History"
def RX4 : String := "SawnIce$Hours"
def RX5 : String := "SawnIce$Loads"
def RX6 : String := "SawnIce$Orders"
def RX7 : String := "SawnIce$Outline"
def RX8 : String := "SawnIce$Palace"
def RX9 : String := "SawnIce$Works"
def RX10 : String := "SawnIce"
def RX11 : String := "SawnIceModel"
def RJx145de : String := "java/io/Serializable"
def RJx00060 : String := "java/lang/ArrayIndexOutOfBoundsException"
def RJx9f9b0 : String := "java/lang/CharSequence"
def RJ11 : String := "java/lang/Character"
def RJxb160c : String := "java/lang/Comparable"
def RJxe99ae : String := "java/lang/Double"
def RJxf58ca : String := "java/lang/Float"
def RJ9 : String := "java/lang/Math"
def RJxd2413 : String := "java/lang/Number"
def RJ0 : String := "java/lang/String"
def RJ1 : String := "java/lang/StringLatin1"
def RJ2 : String := "java/lang/StringUTF16"
def RJ10 : String := "java/lang/System"
def RJxfd54e : String := "java/lang/constant/Constable"
def RJx3cf43 : String := "java/lang/constant/ConstantDesc"
def RJ3 : String := "jdk/internal/util/Preconditions"
def RL : String := "SawnIceLaw"
def TX0 : u_T := fun k => match k with
  | 0 => ("SawnIce$Ahead", "later", "LSawnIce$Palace;", true)
  | _ => ("SawnIce$Ahead", "hours", "LSawnIce$Hours;", true)
def tyX0 : Nat → FieldType := fun k => match k with
  | 0 => .object "SawnIce$Palace"
  | _ => .object "SawnIce$Hours"
abbrev wsX00 : List Cond := u_ws RX0 TX0 2
theorem nmX0 : ∀ a, a < 2 → ∀ b, b < 2 → a ≠ b → (TX0 a).2.1 ≠ (TX0 b).2.1 := by decide +kernel
theorem tyX0_ok : ∀ k, k < 2 → parseFieldDescriptor (TX0 k).2.2.1 = some (tyX0 k) := by decide +kernel
def TX1 : u_T := fun k => match k with
  | _ => ("", "", "", false)
def tyX1 : Nat → FieldType := fun k => match k with
  | _ => .int
abbrev wsX10 : List Cond := u_ws RX1 TX1 0
theorem nmX1 : ∀ a, a < 0 → ∀ b, b < 0 → a ≠ b → (TX1 a).2.1 ≠ (TX1 b).2.1 := by decide +kernel
theorem tyX1_ok : ∀ k, k < 0 → parseFieldDescriptor (TX1 k).2.2.1 = some (tyX1 k) := by decide +kernel
def TX2 : u_T := fun k => match k with
  | _ => ("", "", "", false)
def tyX2 : Nat → FieldType := fun k => match k with
  | _ => .int
abbrev wsX20 : List Cond := u_ws RX2 TX2 0
theorem nmX2 : ∀ a, a < 0 → ∀ b, b < 0 → a ≠ b → (TX2 a).2.1 ≠ (TX2 b).2.1 := by decide +kernel
theorem tyX2_ok : ∀ k, k < 0 → parseFieldDescriptor (TX2 k).2.2.1 = some (tyX2 k) := by decide +kernel
def TX3 : u_T := fun k => match k with
  | 0 => ("SawnIce$History", "ring", "[LSawnIce$Palace;", true)
  | 1 => ("SawnIce$History", "next", "I", false)
  | _ => ("SawnIce$History", "kept", "I", false)
def tyX3 : Nat → FieldType := fun k => match k with
  | 0 => .array (.object "SawnIce$Palace")
  | 1 => .int
  | _ => .int
abbrev wsX30 : List Cond := u_ws RX3 TX3 3
theorem nmX3 : ∀ a, a < 3 → ∀ b, b < 3 → a ≠ b → (TX3 a).2.1 ≠ (TX3 b).2.1 := by decide +kernel
theorem tyX3_ok : ∀ k, k < 3 → parseFieldDescriptor (TX3 k).2.2.1 = some (tyX3 k) := by decide +kernel
def TX4 : u_T := fun k => match k with
  | 0 => ("SawnIce$Hours", "loads", "LSawnIce$Loads;", true)
  | _ => ("SawnIce$Hours", "outline", "LSawnIce$Outline;", true)
def tyX4 : Nat → FieldType := fun k => match k with
  | 0 => .object "SawnIce$Loads"
  | _ => .object "SawnIce$Outline"
abbrev wsX40 : List Cond := u_ws RX4 TX4 2
theorem nmX4 : ∀ a, a < 2 → ∀ b, b < 2 → a ≠ b → (TX4 a).2.1 ≠ (TX4 b).2.1 := by decide +kernel
theorem tyX4_ok : ∀ k, k < 2 → parseFieldDescriptor (TX4 k).2.2.1 = some (tyX4 k) := by decide +kernel
def TX5 : u_T := fun k => match k with
  | _ => ("SawnIce$Loads", "row", "[F", true)
def tyX5 : Nat → FieldType := fun k => match k with
  | _ => .array .float
abbrev wsX50 : List Cond := u_ws RX5 TX5 1
theorem nmX5 : ∀ a, a < 1 → ∀ b, b < 1 → a ≠ b → (TX5 a).2.1 ≠ (TX5 b).2.1 := by decide +kernel
theorem tyX5_ok : ∀ k, k < 1 → parseFieldDescriptor (TX5 k).2.2.1 = some (tyX5 k) := by decide +kernel
def TX6 : u_T := fun k => match k with
  | 0 => ("SawnIce$Orders", "input", "[C", true)
  | 1 => ("SawnIce$Orders", "signs", "[C", true)
  | 2 => ("SawnIce$Orders", "firsts", "[I", true)
  | 3 => ("SawnIce$Orders", "seconds", "[I", true)
  | 4 => ("SawnIce$Orders", "thirds", "[I", true)
  | 5 => ("SawnIce$Orders", "length", "I", false)
  | 6 => ("SawnIce$Orders", "cursor", "I", false)
  | 7 => ("SawnIce$Orders", "orders", "I", false)
  | _ => ("SawnIce$Orders", "error", "I", false)
def tyX6 : Nat → FieldType := fun k => match k with
  | 0 => .array .char
  | 1 => .array .char
  | 2 => .array .int
  | 3 => .array .int
  | 4 => .array .int
  | 5 => .int
  | 6 => .int
  | 7 => .int
  | _ => .int
abbrev wsX60 : List Cond := u_ws RX6 TX6 9
theorem nmX6 : ∀ a, a < 9 → ∀ b, b < 9 → a ≠ b → (TX6 a).2.1 ≠ (TX6 b).2.1 := by decide +kernel
theorem tyX6_ok : ∀ k, k < 9 → parseFieldDescriptor (TX6 k).2.2.1 = some (tyX6 k) := by decide +kernel
def TX7 : u_T := fun k => match k with
  | _ => ("SawnIce$Outline", "heights", "[I", true)
def tyX7 : Nat → FieldType := fun k => match k with
  | _ => .array .int
abbrev wsX70 : List Cond := u_ws RX7 TX7 1
theorem nmX7 : ∀ a, a < 1 → ∀ b, b < 1 → a ≠ b → (TX7 a).2.1 ≠ (TX7 b).2.1 := by decide +kernel
theorem tyX7_ok : ∀ k, k < 1 → parseFieldDescriptor (TX7 k).2.2.1 = some (tyX7 k) := by decide +kernel
def TX8 : u_T := fun k => match k with
  | 0 => ("SawnIce$Palace", "clock", "I", false)
  | 1 => ("SawnIce$Palace", "thickness", "I", false)
  | 2 => ("SawnIce$Palace", "pondLeft", "I", false)
  | 3 => ("SawnIce$Palace", "visitors", "I", false)
  | 4 => ("SawnIce$Palace", "sawn", "I", false)
  | 5 => ("SawnIce$Palace", "temperatures", "[I", true)
  | 6 => ("SawnIce$Palace", "kinds", "[I", true)
  | 7 => ("SawnIce$Palace", "lengths", "[I", true)
  | 8 => ("SawnIce$Palace", "masses", "[F", true)
  | 9 => ("SawnIce$Palace", "states", "[I", true)
  | 10 => ("SawnIce$Palace", "columns", "[I", true)
  | 11 => ("SawnIce$Palace", "courses", "[I", true)
  | 12 => ("SawnIce$Palace", "joints", "[I", true)
  | 13 => ("SawnIce$Palace", "places", "[I", true)
  | 14 => ("SawnIce$Palace", "causes", "[I", true)
  | 15 => ("SawnIce$Palace", "wall", "[I", true)
  | _ => ("SawnIce$Palace", "racks", "[I", true)
def tyX8 : Nat → FieldType := fun k => match k with
  | 0 => .int
  | 1 => .int
  | 2 => .int
  | 3 => .int
  | 4 => .int
  | 5 => .array .int
  | 6 => .array .int
  | 7 => .array .int
  | 8 => .array .float
  | 9 => .array .int
  | 10 => .array .int
  | 11 => .array .int
  | 12 => .array .int
  | 13 => .array .int
  | 14 => .array .int
  | 15 => .array .int
  | _ => .array .int
abbrev wsX80 : List Cond := u_ws RX8 TX8 17
theorem nmX8 : ∀ a, a < 17 → ∀ b, b < 17 → a ≠ b → (TX8 a).2.1 ≠ (TX8 b).2.1 := by decide +kernel
theorem tyX8_ok : ∀ k, k < 17 → parseFieldDescriptor (TX8 k).2.2.1 = some (tyX8 k) := by decide +kernel
def TX9 : u_T := fun k => match k with
  | 0 => ("SawnIce$Works", "hours", "LSawnIce$Hours;", true)
  | 1 => ("SawnIce$Works", "reason", "I", false)
  | _ => ("SawnIce$Works", "detail", "I", false)
def tyX9 : Nat → FieldType := fun k => match k with
  | 0 => .object "SawnIce$Hours"
  | 1 => .int
  | _ => .int
abbrev wsX90 : List Cond := u_ws RX9 TX9 3
theorem nmX9 : ∀ a, a < 3 → ∀ b, b < 3 → a ≠ b → (TX9 a).2.1 ≠ (TX9 b).2.1 := by decide +kernel
theorem tyX9_ok : ∀ k, k < 3 → parseFieldDescriptor (TX9 k).2.2.1 = some (tyX9 k) := by decide +kernel
def TX10 : u_T := fun k => match k with
  | 0 => ("SawnIce", "palace", "LSawnIce$Palace;", true)
  | 1 => ("SawnIce", "before", "LSawnIce$Palace;", true)
  | 2 => ("SawnIce", "snapshot", "LSawnIce$Palace;", true)
  | 3 => ("SawnIce", "works", "LSawnIce$Works;", true)
  | 4 => ("SawnIce", "ahead", "LSawnIce$Ahead;", true)
  | 5 => ("SawnIce", "loads", "LSawnIce$Loads;", true)
  | 6 => ("SawnIce", "outline", "LSawnIce$Outline;", true)
  | 7 => ("SawnIce", "history", "LSawnIce$History;", true)
  | 8 => ("SawnIce", "orders", "LSawnIce$Orders;", true)
  | _ => ("SawnIce", "hasSnapshot", "Z", false)
def tyX10 : Nat → FieldType := fun k => match k with
  | 0 => .object "SawnIce$Palace"
  | 1 => .object "SawnIce$Palace"
  | 2 => .object "SawnIce$Palace"
  | 3 => .object "SawnIce$Works"
  | 4 => .object "SawnIce$Ahead"
  | 5 => .object "SawnIce$Loads"
  | 6 => .object "SawnIce$Outline"
  | 7 => .object "SawnIce$History"
  | 8 => .object "SawnIce$Orders"
  | _ => .boolean
abbrev wsX100 : List Cond := u_ws RX10 TX10 10
theorem nmX10 : ∀ a, a < 10 → ∀ b, b < 10 → a ≠ b → (TX10 a).2.1 ≠ (TX10 b).2.1 := by decide +kernel
theorem tyX10_ok : ∀ k, k < 10 → parseFieldDescriptor (TX10 k).2.2.1 = some (tyX10 k) := by decide +kernel
def TX11 : u_T := fun k => match k with
  | _ => ("", "", "", false)
def tyX11 : Nat → FieldType := fun k => match k with
  | _ => .int
abbrev wsX110 : List Cond := u_ws RX11 TX11 0
theorem nmX11 : ∀ a, a < 0 → ∀ b, b < 0 → a ≠ b → (TX11 a).2.1 ≠ (TX11 b).2.1 := by decide +kernel
theorem tyX11_ok : ∀ k, k < 0 → parseFieldDescriptor (TX11 k).2.2.1 = some (tyX11 k) := by decide +kernel
def TJ0 : u_T := fun k => match k with
  | 0 => ("java/lang/String", "value", "[B", true)
  | _ => ("java/lang/String", "coder", "B", true)
def tyJ0 : Nat → FieldType := fun k => match k with
  | 0 => .array .byte
  | _ => .byte
abbrev wsJ00 : List Cond := u_ws RJ0 TJ0 2
theorem nmJ0 : ∀ a, a < 2 → ∀ b, b < 2 → a ≠ b → (TJ0 a).2.1 ≠ (TJ0 b).2.1 := by decide +kernel
theorem tyJ0_ok : ∀ k, k < 2 → parseFieldDescriptor (TJ0 k).2.2.1 = some (tyJ0 k) := by decide +kernel
abbrev cX0_init : ByteArray := prog_2_method_1_code
def yX0_init : MethodName := ⟨RX0, "<init>", "()V"⟩
abbrev cX0_hoursToFirstGone : ByteArray := prog_2_method_2_code
def yX0_hoursToFirstGone : MethodName := ⟨RX0, "hoursToFirstGone", "(LSawnIce$Palace;)I"⟩
abbrev cX0_bitsOfMass : ByteArray := prog_2_method_3_code
def yX0_bitsOfMass : MethodName := ⟨RX0, "bitsOfMass", "(LSawnIce$Palace;II)I"⟩
abbrev cX0_blocksOnWall : ByteArray := prog_2_method_4_code
def yX0_blocksOnWall : MethodName := ⟨RX0, "blocksOnWall", "(LSawnIce$Palace;I)I"⟩
abbrev cX0_isSafeFor : ByteArray := prog_2_method_5_code
def yX0_isSafeFor : MethodName := ⟨RX0, "isSafeFor", "(LSawnIce$Palace;I)Z"⟩
abbrev cX1_isAllWell : ByteArray := prog_3_method_2_code
def yX1_isAllWell : MethodName := ⟨RX1, "isAllWell", "(LSawnIce$Palace;LSawnIce$Loads;)Z"⟩
abbrev cX1_isSomewhere : ByteArray := prog_3_method_3_code
def yX1_isSomewhere : MethodName := ⟨RX1, "isSomewhere", "(LSawnIce$Palace;I)Z"⟩
abbrev cX1_isFirm : ByteArray := prog_3_method_4_code
def yX1_isFirm : MethodName := ⟨RX1, "isFirm", "(LSawnIce$Palace;LSawnIce$Loads;I)Z"⟩
abbrev cX1_countIn : ByteArray := prog_3_method_5_code
def yX1_countIn : MethodName := ⟨RX1, "countIn", "([II)I"⟩
abbrev cX2_ofFloat : ByteArray := prog_4_method_2_code
def yX2_ofFloat : MethodName := ⟨RX2, "ofFloat", "(F)I"⟩
abbrev cX2_ofDouble : ByteArray := prog_4_method_3_code
def yX2_ofDouble : MethodName := ⟨RX2, "ofDouble", "(D)J"⟩
abbrev cX3_init : ByteArray := prog_5_method_1_code
def yX3_init : MethodName := ⟨RX3, "<init>", "()V"⟩
abbrev cX3_number : ByteArray := prog_5_method_2_code
def yX3_number : MethodName := ⟨RX3, "number", "()I"⟩
abbrev cX3_remember : ByteArray := prog_5_method_3_code
def yX3_remember : MethodName := ⟨RX3, "remember", "(LSawnIce$Palace;)V"⟩
abbrev cX3_goBack : ByteArray := prog_5_method_4_code
def yX3_goBack : MethodName := ⟨RX3, "goBack", "(LSawnIce$Palace;)V"⟩
abbrev cX3_forget : ByteArray := prog_5_method_5_code
def yX3_forget : MethodName := ⟨RX3, "forget", "()V"⟩
abbrev cX4_init : ByteArray := prog_6_method_1_code
def yX4_init : MethodName := ⟨RX4, "<init>", "()V"⟩
abbrev cX4_letGoBy : ByteArray := prog_6_method_2_code
def yX4_letGoBy : MethodName := ⟨RX4, "letGoBy", "(LSawnIce$Palace;I)I"⟩
abbrev cX4_changeIce : ByteArray := prog_6_method_3_code
def yX4_changeIce : MethodName := ⟨RX4, "changeIce", "(LSawnIce$Palace;I)V"⟩
abbrev cX4_changeJoints : ByteArray := prog_6_method_4_code
def yX4_changeJoints : MethodName := ⟨RX4, "changeJoints", "(LSawnIce$Palace;I)V"⟩
abbrev cX4_melt : ByteArray := prog_6_method_5_code
def yX4_melt : MethodName := ⟨RX4, "melt", "(LSawnIce$Palace;II)V"⟩
abbrev cX4_warm : ByteArray := prog_6_method_6_code
def yX4_warm : MethodName := ⟨RX4, "warm", "(LSawnIce$Palace;)V"⟩
abbrev cX4_removeMelted : ByteArray := prog_6_method_7_code
def yX4_removeMelted : MethodName := ⟨RX4, "removeMelted", "(LSawnIce$Palace;)V"⟩
abbrev cX4_dropUnsupported : ByteArray := prog_6_method_8_code
def yX4_dropUnsupported : MethodName := ⟨RX4, "dropUnsupported", "(LSawnIce$Palace;)V"⟩
abbrev cX4_breakOverloaded : ByteArray := prog_6_method_9_code
def yX4_breakOverloaded : MethodName := ⟨RX4, "breakOverloaded", "(LSawnIce$Palace;)V"⟩
abbrev cX5_init : ByteArray := prog_7_method_1_code
def yX5_init : MethodName := ⟨RX5, "<init>", "()V"⟩
abbrev cX5_loadOf : ByteArray := prog_7_method_2_code
def yX5_loadOf : MethodName := ⟨RX5, "loadOf", "(I)F"⟩
abbrev cX5_borneBy : ByteArray := prog_7_method_3_code
def yX5_borneBy : MethodName := ⟨RX5, "borneBy", "(LSawnIce$Palace;I)F"⟩
abbrev cX5_sumUp : ByteArray := prog_7_method_4_code
def yX5_sumUp : MethodName := ⟨RX5, "sumUp", "(LSawnIce$Palace;)V"⟩
abbrev cX5_handDown : ByteArray := prog_7_method_5_code
def yX5_handDown : MethodName := ⟨RX5, "handDown", "(LSawnIce$Palace;I)V"⟩
abbrev cX5_loadFromAbove : ByteArray := prog_7_method_6_code
def yX5_loadFromAbove : MethodName := ⟨RX5, "loadFromAbove", "(LSawnIce$Palace;I)F"⟩
abbrev cX5_sumFromAbove : ByteArray := prog_7_method_7_code
def yX5_sumFromAbove : MethodName := ⟨RX5, "sumFromAbove", "(LSawnIce$Palace;II)F"⟩
abbrev cX5_firstOverloaded : ByteArray := prog_7_method_8_code
def yX5_firstOverloaded : MethodName := ⟨RX5, "firstOverloaded", "(LSawnIce$Palace;)I"⟩
abbrev cX5_mostBurdened : ByteArray := prog_7_method_9_code
def yX5_mostBurdened : MethodName := ⟨RX5, "mostBurdened", "(LSawnIce$Palace;)I"⟩
abbrev cX6_init : ByteArray := prog_8_method_1_code
def yX6_init : MethodName := ⟨RX6, "<init>", "()V"⟩
abbrev cX6_hasSpace : ByteArray := prog_8_method_2_code
def yX6_hasSpace : MethodName := ⟨RX6, "hasSpace", "()Z"⟩
abbrev cX6_add : ByteArray := prog_8_method_3_code
def yX6_add : MethodName := ⟨RX6, "add", "(C)V"⟩
abbrev cX6_empty : ByteArray := prog_8_method_4_code
def yX6_empty : MethodName := ⟨RX6, "empty", "()V"⟩
abbrev cX6_inputLength : ByteArray := prog_8_method_5_code
def yX6_inputLength : MethodName := ⟨RX6, "inputLength", "()I"⟩
abbrev cX6_errorOffset : ByteArray := prog_8_method_6_code
def yX6_errorOffset : MethodName := ⟨RX6, "errorOffset", "()I"⟩
abbrev cX6_number : ByteArray := prog_8_method_7_code
def yX6_number : MethodName := ⟨RX6, "number", "()I"⟩
abbrev cX6_signOf : ByteArray := prog_8_method_8_code
def yX6_signOf : MethodName := ⟨RX6, "signOf", "(I)C"⟩
abbrev cX6_firstOf : ByteArray := prog_8_method_9_code
def yX6_firstOf : MethodName := ⟨RX6, "firstOf", "(I)I"⟩
abbrev cX6_secondOf : ByteArray := prog_8_method_10_code
def yX6_secondOf : MethodName := ⟨RX6, "secondOf", "(I)I"⟩
abbrev cX6_thirdOf : ByteArray := prog_8_method_11_code
def yX6_thirdOf : MethodName := ⟨RX6, "thirdOf", "(I)I"⟩
abbrev cX6_understand : ByteArray := prog_8_method_12_code
def yX6_understand : MethodName := ⟨RX6, "understand", "()Z"⟩
abbrev cX6_readOrder : ByteArray := prog_8_method_13_code
def yX6_readOrder : MethodName := ⟨RX6, "readOrder", "()Z"⟩
abbrev cX6_readSawing : ByteArray := prog_8_method_14_code
def yX6_readSawing : MethodName := ⟨RX6, "readSawing", "()Z"⟩
abbrev cX6_readLaying : ByteArray := prog_8_method_15_code
def yX6_readLaying : MethodName := ⟨RX6, "readLaying", "()Z"⟩
abbrev cX6_readNumber : ByteArray := prog_8_method_16_code
def yX6_readNumber : MethodName := ⟨RX6, "readNumber", "(C)Z"⟩
abbrev cX6_readTemperature : ByteArray := prog_8_method_17_code
def yX6_readTemperature : MethodName := ⟨RX6, "readTemperature", "()Z"⟩
abbrev cX6_note : ByteArray := prog_8_method_18_code
def yX6_note : MethodName := ⟨RX6, "note", "(CIII)Z"⟩
abbrev cX6_goPast : ByteArray := prog_8_method_19_code
def yX6_goPast : MethodName := ⟨RX6, "goPast", "(C)Z"⟩
abbrev cX6_digits : ByteArray := prog_8_method_20_code
def yX6_digits : MethodName := ⟨RX6, "digits", "(I)I"⟩
abbrev cX7_init : ByteArray := prog_9_method_1_code
def yX7_init : MethodName := ⟨RX7, "<init>", "()V"⟩
abbrev cX7_heightOf : ByteArray := prog_9_method_2_code
def yX7_heightOf : MethodName := ⟨RX7, "heightOf", "(LSawnIce$Palace;I)I"⟩
abbrev cX7_measure : ByteArray := prog_9_method_3_code
def yX7_measure : MethodName := ⟨RX7, "measure", "(LSawnIce$Palace;)V"⟩
abbrev cX7_isInShadow : ByteArray := prog_9_method_4_code
def yX7_isInShadow : MethodName := ⟨RX7, "isInShadow", "(LSawnIce$Palace;II)Z"⟩
abbrev cX7_isShadedFromLeft : ByteArray := prog_9_method_5_code
def yX7_isShadedFromLeft : MethodName := ⟨RX7, "isShadedFromLeft", "(II)Z"⟩
abbrev cX7_isShadedFromRight : ByteArray := prog_9_method_6_code
def yX7_isShadedFromRight : MethodName := ⟨RX7, "isShadedFromRight", "(II)Z"⟩
abbrev cX7_roomNumber : ByteArray := prog_9_method_7_code
def yX7_roomNumber : MethodName := ⟨RX7, "roomNumber", "(LSawnIce$Palace;II)I"⟩
abbrev cX8_init : ByteArray := prog_10_method_1_code
def yX8_init : MethodName := ⟨RX8, "<init>", "()V"⟩
abbrev cX8_fill : ByteArray := prog_10_method_2_code
def yX8_fill : MethodName := ⟨RX8, "fill", "([II)V"⟩
abbrev cX8_copyRow : ByteArray := prog_10_method_3_code
def yX8_copyRow : MethodName := ⟨RX8, "copyRow", "([I[I)V"⟩
abbrev cX8_copyFrom : ByteArray := prog_10_method_4_code
def yX8_copyFrom : MethodName := ⟨RX8, "copyFrom", "(LSawnIce$Palace;)V"⟩
abbrev cX8_isColumn : ByteArray := prog_10_method_5_code
def yX8_isColumn : MethodName := ⟨RX8, "isColumn", "(I)Z"⟩
abbrev cX8_isCourse : ByteArray := prog_10_method_6_code
def yX8_isCourse : MethodName := ⟨RX8, "isCourse", "(I)Z"⟩
abbrev cX8_isHour : ByteArray := prog_10_method_7_code
def yX8_isHour : MethodName := ⟨RX8, "isHour", "(I)Z"⟩
abbrev cX8_isRack : ByteArray := prog_10_method_8_code
def yX8_isRack : MethodName := ⟨RX8, "isRack", "(I)Z"⟩
abbrev cX8_isSawn : ByteArray := prog_10_method_9_code
def yX8_isSawn : MethodName := ⟨RX8, "isSawn", "(I)Z"⟩
abbrev cX8_isOnWall : ByteArray := prog_10_method_10_code
def yX8_isOnWall : MethodName := ⟨RX8, "isOnWall", "(I)Z"⟩
abbrev cX8_isInRack : ByteArray := prog_10_method_11_code
def yX8_isInRack : MethodName := ⟨RX8, "isInRack", "(I)Z"⟩
abbrev cX8_isGone : ByteArray := prog_10_method_12_code
def yX8_isGone : MethodName := ⟨RX8, "isGone", "(I)Z"⟩
abbrev cX8_massOf : ByteArray := prog_10_method_13_code
def yX8_massOf : MethodName := ⟨RX8, "massOf", "(I)F"⟩
abbrev cX8_hourOfDay : ByteArray := prog_10_method_14_code
def yX8_hourOfDay : MethodName := ⟨RX8, "hourOfDay", "()I"⟩
abbrev cX8_temperatureAt : ByteArray := prog_10_method_15_code
def yX8_temperatureAt : MethodName := ⟨RX8, "temperatureAt", "(I)I"⟩
abbrev cX8_blockAt : ByteArray := prog_10_method_16_code
def yX8_blockAt : MethodName := ⟨RX8, "blockAt", "(II)I"⟩
abbrev cX8_blockInRack : ByteArray := prog_10_method_17_code
def yX8_blockInRack : MethodName := ⟨RX8, "blockInRack", "(II)I"⟩
abbrev cX8_freePlace : ByteArray := prog_10_method_18_code
def yX8_freePlace : MethodName := ⟨RX8, "freePlace", "(I)I"⟩
abbrev cX8_supportedColumns : ByteArray := prog_10_method_19_code
def yX8_supportedColumns : MethodName := ⟨RX8, "supportedColumns", "(III)I"⟩
abbrev cX8_supportOf : ByteArray := prog_10_method_20_code
def yX8_supportOf : MethodName := ⟨RX8, "supportOf", "(I)I"⟩
abbrev cX8_isSupported : ByteArray := prog_10_method_21_code
def yX8_isSupported : MethodName := ⟨RX8, "isSupported", "(I)Z"⟩
abbrev cX8_sharedColumns : ByteArray := prog_10_method_22_code
def yX8_sharedColumns : MethodName := ⟨RX8, "sharedColumns", "(II)I"⟩
abbrev cX8_addBlock : ByteArray := prog_10_method_23_code
def yX8_addBlock : MethodName := ⟨RX8, "addBlock", "(III)I"⟩
abbrev cX8_putOnWall : ByteArray := prog_10_method_24_code
def yX8_putOnWall : MethodName := ⟨RX8, "putOnWall", "(III)V"⟩
abbrev cX8_remove : ByteArray := prog_10_method_25_code
def yX8_remove : MethodName := ⟨RX8, "remove", "(II)V"⟩
abbrev cX8_leaveRack : ByteArray := prog_10_method_26_code
def yX8_leaveRack : MethodName := ⟨RX8, "leaveRack", "(I)V"⟩
abbrev cX8_markColumns : ByteArray := prog_10_method_27_code
def yX8_markColumns : MethodName := ⟨RX8, "markColumns", "(II)V"⟩
abbrev cX8_numberOf : ByteArray := prog_10_method_28_code
def yX8_numberOf : MethodName := ⟨RX8, "numberOf", "(II)I"⟩
abbrev cX8_signOf : ByteArray := prog_10_method_29_code
def yX8_signOf : MethodName := ⟨RX8, "signOf", "(I)C"⟩
abbrev cX8_accountOf : ByteArray := prog_10_method_30_code
def yX8_accountOf : MethodName := ⟨RX8, "accountOf", "(I)I"⟩
abbrev cX8_countOnWall : ByteArray := prog_10_method_31_code
def yX8_countOnWall : MethodName := ⟨RX8, "countOnWall", "()I"⟩
abbrev cX8_countStates : ByteArray := prog_10_method_32_code
def yX8_countStates : MethodName := ⟨RX8, "countStates", "(I)I"⟩
abbrev cX8_countCauses : ByteArray := prog_10_method_33_code
def yX8_countCauses : MethodName := ⟨RX8, "countCauses", "(I)I"⟩
abbrev cX8_countFilledColumns : ByteArray := prog_10_method_34_code
def yX8_countFilledColumns : MethodName := ⟨RX8, "countFilledColumns", "()I"⟩
abbrev cX8_sumOfMasses : ByteArray := prog_10_method_35_code
def yX8_sumOfMasses : MethodName := ⟨RX8, "sumOfMasses", "()D"⟩
abbrev cX9_init : ByteArray := prog_11_method_1_code
def yX9_init : MethodName := ⟨RX9, "<init>", "()V"⟩
abbrev cX9_faultOf : ByteArray := prog_11_method_2_code
def yX9_faultOf : MethodName := ⟨RX9, "faultOf", "(LSawnIce$Palace;CIII)I"⟩
abbrev cX9_perform : ByteArray := prog_11_method_3_code
def yX9_perform : MethodName := ⟨RX9, "perform", "(LSawnIce$Palace;CIII)I"⟩
abbrev cX9_refuse : ByteArray := prog_11_method_4_code
def yX9_refuse : MethodName := ⟨RX9, "refuse", "(II)I"⟩
abbrev cX9_faultOfTemperature : ByteArray := prog_11_method_5_code
def yX9_faultOfTemperature : MethodName := ⟨RX9, "faultOfTemperature", "(II)I"⟩
abbrev cX9_setTemperature : ByteArray := prog_11_method_6_code
def yX9_setTemperature : MethodName := ⟨RX9, "setTemperature", "(LSawnIce$Palace;II)I"⟩
abbrev cX9_setVisitors : ByteArray := prog_11_method_7_code
def yX9_setVisitors : MethodName := ⟨RX9, "setVisitors", "(LSawnIce$Palace;I)I"⟩
abbrev cX9_faultOfSawing : ByteArray := prog_11_method_8_code
def yX9_faultOfSawing : MethodName := ⟨RX9, "faultOfSawing", "(LSawnIce$Palace;III)I"⟩
abbrev cX9_faultOfLaying : ByteArray := prog_11_method_9_code
def yX9_faultOfLaying : MethodName := ⟨RX9, "faultOfLaying", "(LSawnIce$Palace;III)I"⟩
abbrev cX9_faultOfTaking : ByteArray := prog_11_method_10_code
def yX9_faultOfTaking : MethodName := ⟨RX9, "faultOfTaking", "(LSawnIce$Palace;I)I"⟩
abbrev cX10_init : ByteArray := prog_1_method_1_code
def yX10_init : MethodName := ⟨RX10, "<init>", "()V"⟩
abbrev cX10_heat : ByteArray := prog_1_method_2_code
def yX10_heat : MethodName := ⟨RX10, "heat", "(II)I"⟩
abbrev cX10_visit : ByteArray := prog_1_method_3_code
def yX10_visit : MethodName := ⟨RX10, "visit", "(I)I"⟩
abbrev cX10_saw : ByteArray := prog_1_method_4_code
def yX10_saw : MethodName := ⟨RX10, "saw", "(III)I"⟩
abbrev cX10_lay : ByteArray := prog_1_method_5_code
def yX10_lay : MethodName := ⟨RX10, "lay", "(III)I"⟩
abbrev cX10_take : ByteArray := prog_1_method_6_code
def yX10_take : MethodName := ⟨RX10, "take", "(I)I"⟩
abbrev cX10_pass : ByteArray := prog_1_method_7_code
def yX10_pass : MethodName := ⟨RX10, "pass", "(I)I"⟩
abbrev cX10_blockOf : ByteArray := prog_1_method_8_code
def yX10_blockOf : MethodName := ⟨RX10, "blockOf", "(II)I"⟩
abbrev cX10_mass : ByteArray := prog_1_method_9_code
def yX10_mass : MethodName := ⟨RX10, "mass", "(I)F"⟩
abbrev cX10_load : ByteArray := prog_1_method_10_code
def yX10_load : MethodName := ⟨RX10, "load", "(IZ)I"⟩
abbrev cX10_loadAgain : ByteArray := prog_1_method_11_code
def yX10_loadAgain : MethodName := ⟨RX10, "loadAgain", "(I)I"⟩
abbrev cX10_at : ByteArray := prog_1_method_12_code
def yX10_at : MethodName := ⟨RX10, "at", "(II)I"⟩
abbrev cX10_height : ByteArray := prog_1_method_13_code
def yX10_height : MethodName := ⟨RX10, "height", "(I)I"⟩
abbrev cX10_isShady : ByteArray := prog_1_method_14_code
def yX10_isShady : MethodName := ⟨RX10, "isShady", "(II)Z"⟩
abbrev cX10_sign : ByteArray := prog_1_method_15_code
def yX10_sign : MethodName := ⟨RX10, "sign", "(I)C"⟩
abbrev cX10_rooms : ByteArray := prog_1_method_16_code
def yX10_rooms : MethodName := ⟨RX10, "rooms", "(II)I"⟩
abbrev cX10_inRack : ByteArray := prog_1_method_17_code
def yX10_inRack : MethodName := ⟨RX10, "inRack", "(II)I"⟩
abbrev cX10_worst : ByteArray := prog_1_method_18_code
def yX10_worst : MethodName := ⟨RX10, "worst", "()I"⟩
abbrev cX10_goneIn : ByteArray := prog_1_method_19_code
def yX10_goneIn : MethodName := ⟨RX10, "goneIn", "()I"⟩
abbrev cX10_massBits : ByteArray := prog_1_method_20_code
def yX10_massBits : MethodName := ⟨RX10, "massBits", "(II)I"⟩
abbrev cX10_safe : ByteArray := prog_1_method_21_code
def yX10_safe : MethodName := ⟨RX10, "safe", "()I"⟩
abbrev cX10_left : ByteArray := prog_1_method_22_code
def yX10_left : MethodName := ⟨RX10, "left", "(I)I"⟩
abbrev cX10_append : ByteArray := prog_1_method_23_code
def yX10_append : MethodName := ⟨RX10, "append", "(C)I"⟩
abbrev cX10_read : ByteArray := prog_1_method_24_code
def yX10_read : MethodName := ⟨RX10, "read", "()I"⟩
abbrev cX10_errorPosition : ByteArray := prog_1_method_25_code
def yX10_errorPosition : MethodName := ⟨RX10, "errorPosition", "()I"⟩
abbrev cX10_account : ByteArray := prog_1_method_27_code
def yX10_account : MethodName := ⟨RX10, "account", "(I)I"⟩
abbrev cX10_isWell : ByteArray := prog_1_method_28_code
def yX10_isWell : MethodName := ⟨RX10, "isWell", "()Z"⟩
abbrev cX10_meanBits : ByteArray := prog_1_method_29_code
def yX10_meanBits : MethodName := ⟨RX10, "meanBits", "()J"⟩
abbrev cX10_undo : ByteArray := prog_1_method_30_code
def yX10_undo : MethodName := ⟨RX10, "undo", "()I"⟩
abbrev cX10_save : ByteArray := prog_1_method_31_code
def yX10_save : MethodName := ⟨RX10, "save", "()I"⟩
abbrev cX10_restore : ByteArray := prog_1_method_32_code
def yX10_restore : MethodName := ⟨RX10, "restore", "()I"⟩
abbrev cX10_permit : ByteArray := prog_1_method_33_code
def yX10_permit : MethodName := ⟨RX10, "permit", "(I)V"⟩
abbrev cX10_requireSawn : ByteArray := prog_1_method_34_code
def yX10_requireSawn : MethodName := ⟨RX10, "requireSawn", "(I)V"⟩
abbrev cX10_requireOnWall : ByteArray := prog_1_method_35_code
def yX10_requireOnWall : MethodName := ⟨RX10, "requireOnWall", "(I)V"⟩
abbrev cX10_requireHoursAhead : ByteArray := prog_1_method_36_code
def yX10_requireHoursAhead : MethodName := ⟨RX10, "requireHoursAhead", "(I)V"⟩
abbrev cJx00060_init_a7421 : ByteArray := prog_16_method_2_code
def yJx00060_init_a7421 : MethodName := ⟨RJx00060, "<init>", "(Ljava/lang/String;)V"⟩
abbrev cJ11_isValidCodePoint_9a6ad : ByteArray := prog_18_method_11_code
def yJ11_isValidCodePoint_9a6ad : MethodName := ⟨RJ11, "isValidCodePoint", "(I)Z"⟩
abbrev cJ11_highSurrogate_5068e : ByteArray := prog_18_method_28_code
def yJ11_highSurrogate_5068e : MethodName := ⟨RJ11, "highSurrogate", "(I)C"⟩
abbrev cJ11_lowSurrogate_5068e : ByteArray := prog_18_method_29_code
def yJ11_lowSurrogate_5068e : MethodName := ⟨RJ11, "lowSurrogate", "(I)C"⟩
abbrev cJxe99ae_isNaN_b9ae7 : ByteArray := prog_20_method_6_code
def yJxe99ae_isNaN_b9ae7 : MethodName := ⟨RJxe99ae, "isNaN", "(D)Z"⟩
abbrev cJxe99ae_doubleToLongBits_ccdee : ByteArray := prog_20_method_23_code
def yJxe99ae_doubleToLongBits_ccdee : MethodName := ⟨RJxe99ae, "doubleToLongBits", "(D)J"⟩
abbrev cJ9_floorMod_7cf53 : ByteArray := prog_26_method_50_code
def yJ9_floorMod_7cf53 : MethodName := ⟨RJ9, "floorMod", "(II)I"⟩
abbrev cJ9_max_7cf53 : ByteArray := prog_26_method_65_code
def yJ9_max_7cf53 : MethodName := ⟨RJ9, "max", "(II)I"⟩
abbrev cJ9_min_7cf53 : ByteArray := prog_26_method_69_code
def yJ9_min_7cf53 : MethodName := ⟨RJ9, "min", "(II)I"⟩
abbrev cJ0_length_8abf5 : ByteArray := prog_29_method_54_code
def yJ0_length_8abf5 : MethodName := ⟨RJ0, "length", "()I"⟩
abbrev cJ0_charAt_5068e : ByteArray := prog_29_method_56_code
def yJ0_charAt_5068e : MethodName := ⟨RJ0, "charAt", "(I)C"⟩
abbrev cJ0_indexOf_0f7a4 : ByteArray := prog_29_method_79_code
def yJ0_indexOf_0f7a4 : MethodName := ⟨RJ0, "indexOf", "(I)I"⟩
abbrev cJ0_indexOf_7cf53 : ByteArray := prog_29_method_80_code
def yJ0_indexOf_7cf53 : MethodName := ⟨RJ0, "indexOf", "(II)I"⟩
abbrev cJ0_coder_7d493 : ByteArray := prog_29_method_152_code
def yJ0_coder_7d493 : MethodName := ⟨RJ0, "coder", "()B"⟩
abbrev cJ0_isLatin1_aae02 : ByteArray := prog_29_method_154_code
def yJ0_isLatin1_aae02 : MethodName := ⟨RJ0, "isLatin1", "()Z"⟩
abbrev cJ0_checkIndex_df160 : ByteArray := prog_29_method_155_code
def yJ0_checkIndex_df160 : MethodName := ⟨RJ0, "checkIndex", "(II)V"⟩
abbrev cJ0_checkBoundsBeginEnd_23922 : ByteArray := prog_29_method_158_code
def yJ0_checkBoundsBeginEnd_23922 : MethodName := ⟨RJ0, "checkBoundsBeginEnd", "(III)V"⟩
abbrev cJ1_charAt_3b067 : ByteArray := prog_30_method_2_code
def yJ1_charAt_3b067 : MethodName := ⟨RJ1, "charAt", "([BI)C"⟩
abbrev cJ1_canEncode_9a6ad : ByteArray := prog_30_method_4_code
def yJ1_canEncode_9a6ad : MethodName := ⟨RJ1, "canEncode", "(I)Z"⟩
abbrev cJ1_indexOf_4cfef : ByteArray := prog_30_method_22_code
def yJ1_indexOf_4cfef : MethodName := ⟨RJ1, "indexOf", "([BIII)I"⟩
abbrev cJ1_indexOfChar_4cfef : ByteArray := prog_30_method_23_code
def yJ1_indexOfChar_4cfef : MethodName := ⟨RJ1, "indexOfChar", "([BIII)I"⟩
abbrev cJ2_getChar_3b067 : ByteArray := prog_31_method_5_code
def yJ2_getChar_3b067 : MethodName := ⟨RJ2, "getChar", "([BI)C"⟩
abbrev cJ2_length_9d52b : ByteArray := prog_31_method_6_code
def yJ2_length_9d52b : MethodName := ⟨RJ2, "length", "([B)I"⟩
abbrev cJ2_indexOf_4cfef : ByteArray := prog_31_method_40_code
def yJ2_indexOf_4cfef : MethodName := ⟨RJ2, "indexOf", "([BIII)I"⟩
abbrev cJ2_indexOfChar_4cfef : ByteArray := prog_31_method_47_code
def yJ2_indexOfChar_4cfef : MethodName := ⟨RJ2, "indexOfChar", "([BIII)I"⟩
abbrev cJ2_indexOfCharUnsafe_4cfef : ByteArray := prog_31_method_48_code
def yJ2_indexOfCharUnsafe_4cfef : MethodName := ⟨RJ2, "indexOfCharUnsafe", "([BIII)I"⟩
abbrev cJ2_indexOfSupplementary_4cfef : ByteArray := prog_31_method_49_code
def yJ2_indexOfSupplementary_4cfef : MethodName := ⟨RJ2, "indexOfSupplementary", "([BIII)I"⟩
abbrev cJ2_charAt_3b067 : ByteArray := prog_31_method_83_code
def yJ2_charAt_3b067 : MethodName := ⟨RJ2, "charAt", "([BI)C"⟩
abbrev cJ2_checkIndex_2214a : ByteArray := prog_31_method_91_code
def yJ2_checkIndex_2214a : MethodName := ⟨RJ2, "checkIndex", "(I[B)V"⟩
abbrev cJ2_checkBoundsBeginEnd_d044e : ByteArray := prog_31_method_93_code
def yJ2_checkBoundsBeginEnd_d044e : MethodName := ⟨RJ2, "checkBoundsBeginEnd", "(II[B)V"⟩
abbrev cJ3_checkIndex_8e157 : ByteArray := prog_38_method_11_code
def yJ3_checkIndex_8e157 : MethodName := ⟨RJ3, "checkIndex", "(IILjava/util/function/BiFunction;)I"⟩
abbrev cJ3_checkFromToIndex_8c36e : ByteArray := prog_38_method_12_code
def yJ3_checkFromToIndex_8c36e : MethodName := ⟨RJ3, "checkFromToIndex", "(IIILjava/util/function/BiFunction;)I"⟩
abbrev cL_cell : ByteArray := method_2_code
def yL_cell : MethodName := ⟨RL, "cell", "([II)I"⟩
abbrev cL_heat : ByteArray := method_3_code
def yL_heat : MethodName := ⟨RL, "heat", "(LSawnIce;II)I"⟩
abbrev cL_visit : ByteArray := method_4_code
def yL_visit : MethodName := ⟨RL, "visit", "(LSawnIce;I)I"⟩
abbrev cL_saw : ByteArray := method_5_code
def yL_saw : MethodName := ⟨RL, "saw", "(LSawnIce;III)I"⟩
abbrev cL_lay : ByteArray := method_6_code
def yL_lay : MethodName := ⟨RL, "lay", "(LSawnIce;III)I"⟩
abbrev cL_take : ByteArray := method_7_code
def yL_take : MethodName := ⟨RL, "take", "(LSawnIce;I)I"⟩
abbrev cL_pass : ByteArray := method_8_code
def yL_pass : MethodName := ⟨RL, "pass", "(LSawnIce;I)I"⟩
abbrev cL_goneIn : ByteArray := method_9_code
def yL_goneIn : MethodName := ⟨RL, "goneIn", "(LSawnIce;)I"⟩
abbrev cL_safe : ByteArray := method_10_code
def yL_safe : MethodName := ⟨RL, "safe", "(LSawnIce;)I"⟩
abbrev cL_worst : ByteArray := method_11_code
def yL_worst : MethodName := ⟨RL, "worst", "(LSawnIce;)I"⟩
abbrev cL_read : ByteArray := method_12_code
def yL_read : MethodName := ⟨RL, "read", "(LSawnIce;)I"⟩
abbrev cL_undo : ByteArray := method_14_code
def yL_undo : MethodName := ⟨RL, "undo", "(LSawnIce;)I"⟩
abbrev cL_restore : ByteArray := method_15_code
def yL_restore : MethodName := ⟨RL, "restore", "(LSawnIce;)I"⟩
abbrev cL_meanBits : ByteArray := method_16_code
def yL_meanBits : MethodName := ⟨RL, "meanBits", "(LSawnIce;)J"⟩
abbrev cL_append : ByteArray := method_17_code
def yL_append : MethodName := ⟨RL, "append", "(LSawnIce;C)Z"⟩
abbrev cL_write : ByteArray := method_18_code
def yL_write : MethodName := ⟨RL, "write", "(LSawnIce;Ljava/lang/String;)LSawnIce;"⟩
abbrev cL_act : ByteArray := method_19_code
def yL_act : MethodName := ⟨RL, "act", "(LSawnIce;I)I"⟩
abbrev cL_digest : ByteArray := method_20_code
def yL_digest : MethodName := ⟨RL, "digest", "(LSawnIce;)J"⟩
abbrev cL_areBlocks : ByteArray := method_21_code
def yL_areBlocks : MethodName := ⟨RL, "areBlocks", "(LSawnIce;)Z"⟩
abbrev cL_areLoads : ByteArray := method_22_code
def yL_areLoads : MethodName := ⟨RL, "areLoads", "(LSawnIce;)Z"⟩
abbrev cL_areRooms : ByteArray := method_23_code
def yL_areRooms : MethodName := ⟨RL, "areRooms", "(LSawnIce;I)Z"⟩
abbrev cL_isFit : ByteArray := method_24_code
def yL_isFit : MethodName := ⟨RL, "isFit", "(LSawnIce;)Z"⟩
abbrev cL_isAhead : ByteArray := method_25_code
def yL_isAhead : MethodName := ⟨RL, "isAhead", "(LSawnIce;I)Z"⟩
abbrev cL_isGone : ByteArray := method_26_code
def yL_isGone : MethodName := ⟨RL, "isGone", "(LSawnIce;)Z"⟩
abbrev cL_isSafe : ByteArray := method_27_code
def yL_isSafe : MethodName := ⟨RL, "isSafe", "(LSawnIce;)Z"⟩
abbrev cL_law : ByteArray := code
def yL_law : MethodName := ⟨RL, "law", "([I)Z"⟩
abbrev Ent : Type := Nat × Instr × Nat × Nat × Nat × Nat × Value
def e0 (i : Instr) (nx : Nat) : Ent := (0, i, nx, 0, 0, 0, .null)
def e1 (i : Instr) (nx : Nat) : Ent := (1, i, nx, 0, 0, 0, .null)
def ev (k : Nat) (i : Instr) (nx : Nat) (v : Value) : Ent := (k, i, nx, 0, 0, 0, v)
def er (k : Nat) (i : Instr) (nx a b c : Nat) : Ent := (k, i, nx, a, b, c, .null)
def lk : List (Nat × Ent) → Nat → Option Ent
  | [], _ => none
  | (p, e) :: t, pc => match Nat.beq p pc with | true => some e | false => lk t pc
def cl_X0_init_0 : List (Nat × Ent) := [(0, e1 (.aload_n 0) 1), (1, ev 7 (.invokespecial 3) 4 .null), (4, e1 (.aload_n 0) 5), (5, ev 7 (.new 9) 8 .null), (8, e0 .dup 9), (9, ev 7 (.invokespecial 11) 12 .null), (12, ev 7 (.putfield 12) 15 .null), (15, e1 (.aload_n 0) 16), (16, ev 7 (.new 18) 19 .null), (19, e0 .dup 20), (20, ev 7 (.invokespecial 20) 23 .null), (23, er 7 (.putfield 21) 26 0 1 0), (26, ev 9 .return_ 27 .null)]
def cd_X0_init (pc : Nat) : List (Nat × Ent) := cl_X0_init_0
def ca_X0_init : List (Nat × Ent) := cl_X0_init_0
def cl_X0_hoursToFirstGone_0 : List (Nat × Ent) := [(0, e1 (.aload_n 0) 1), (1, ev 3 (.getfield 12) 4 .null), (4, e1 (.aload_n 1) 5), (5, er 4 (.invokevirtual 25) 8 64 1 0), (8, ev 0 (.iconst 1) 9 (.int 1)), (9, e1 (.istore_n 2) 10), (10, e1 (.iload_n 2) 11), (11, ev 0 (.bipush 96) 13 (.int 96)), (13, er 2 (.if_icmp .gt 26) 16 39 0 0), (16, e1 (.aload_n 0) 17), (17, er 3 (.getfield 21) 20 0 1 0), (20, e1 (.aload_n 0) 21), (21, ev 3 (.getfield 12) 24 .null), (24, ev 0 (.iconst 1) 25 (.int 1)), (25, er 4 (.invokevirtual 29) 28 17 2 0), (28, er 2 (.ifCond .le 5) 31 33 0 0), (31, e1 (.iload_n 2) 32), (32, ev 9 .ireturn 33 .null), (33, ev 1 (.iinc 2 1) 36 (.int 1)), (36, er 2 (.goto (-26)) 39 10 0 0), (39, ev 0 (.iconst 0) 40 (.int 0)), (40, ev 9 .ireturn 41 .null)]
def cd_X0_hoursToFirstGone (pc : Nat) : List (Nat × Ent) := cl_X0_hoursToFirstGone_0
def ca_X0_hoursToFirstGone : List (Nat × Ent) := cl_X0_hoursToFirstGone_0
def cl_X0_bitsOfMass_0 : List (Nat × Ent) := [(0, e1 (.aload_n 0) 1), (1, ev 3 (.getfield 12) 4 .null), (4, e1 (.aload_n 1) 5), (5, er 4 (.invokevirtual 25) 8 64 1 0), (8, e1 (.aload_n 0) 9), (9, er 3 (.getfield 21) 12 0 1 0), (12, e1 (.aload_n 0) 13), (13, ev 3 (.getfield 12) 16 .null), (16, e1 (.iload_n 3) 17), (17, er 4 (.invokevirtual 29) 20 17 2 0), (20, e0 .pop 21), (21, e1 (.aload_n 0) 22), (22, ev 3 (.getfield 12) 25 .null), (25, e1 (.iload_n 2) 26), (26, er 4 (.invokevirtual 33) 29 72 1 0), (29, er 2 (.ifCond .eq 7) 32 36 0 0), (32, ev 0 (.iconst (-1)) 33 (.int (-1))), (33, er 2 (.goto 14) 36 47 0 0), (36, e1 (.aload_n 0) 37), (37, ev 3 (.getfield 12) 40 .null), (40, e1 (.iload_n 2) 41), (41, er 4 (.invokevirtual 37) 44 73 1 0), (44, er 4 (.invokestatic 41) 47 9 1 1), (47, ev 9 .ireturn 48 .null)]
def cd_X0_bitsOfMass (pc : Nat) : List (Nat × Ent) := cl_X0_bitsOfMass_0
def ca_X0_bitsOfMass : List (Nat × Ent) := cl_X0_bitsOfMass_0
def cl_X0_blocksOnWall_0 : List (Nat × Ent) := [(0, e1 (.aload_n 0) 1), (1, ev 3 (.getfield 12) 4 .null), (4, e1 (.aload_n 1) 5), (5, er 4 (.invokevirtual 25) 8 64 1 0), (8, e1 (.aload_n 0) 9), (9, er 3 (.getfield 21) 12 0 1 0), (12, e1 (.aload_n 0) 13), (13, ev 3 (.getfield 12) 16 .null), (16, e1 (.iload_n 2) 17), (17, er 4 (.invokevirtual 29) 20 17 2 0), (20, e0 .pop 21), (21, e1 (.aload_n 0) 22), (22, ev 3 (.getfield 12) 25 .null), (25, er 4 (.invokevirtual 47) 28 91 0 0), (28, ev 9 .ireturn 29 .null)]
def cd_X0_blocksOnWall (pc : Nat) : List (Nat × Ent) := cl_X0_blocksOnWall_0
def ca_X0_blocksOnWall : List (Nat × Ent) := cl_X0_blocksOnWall_0
def cl_X0_isSafeFor_0 : List (Nat × Ent) := [(0, e1 (.aload_n 0) 1), (1, ev 3 (.getfield 12) 4 .null), (4, e1 (.aload_n 1) 5), (5, er 4 (.invokevirtual 25) 8 64 1 0), (8, e1 (.aload_n 0) 9), (9, ev 3 (.getfield 12) 12 .null), (12, e1 (.iload_n 2) 13), (13, er 3 (.putfield 51) 16 6 3 0), (16, ev 0 (.bipush 12) 18 (.int 12)), (18, e1 (.aload_n 1) 19), (19, er 4 (.invokevirtual 55) 22 74 0 0), (22, e0 .isub 23), (23, ev 0 (.bipush 24) 25 (.int 24)), (25, er 4 (.invokestatic 58) 28 147 2 1), (28, ev 0 (.iconst 1) 29 (.int 1)), (29, e0 .iadd 30), (30, e1 (.istore_n 3) 31), (31, ev 0 (.iconst 0) 32 (.int 0)), (32, e1 (.istore 4) 34), (34, e1 (.iload 4) 36), (36, e1 (.iload_n 3) 37), (37, er 2 (.if_icmp .ge 33) 40 70 0 0), (40, e1 (.iload 4) 42), (42, ev 0 (.bipush 24) 44 (.int 24)), (44, er 2 (.if_icmp .ge 26) 47 70 0 0), (47, e1 (.aload_n 0) 48), (48, er 3 (.getfield 21) 51 0 1 0), (51, e1 (.aload_n 0) 52), (52, ev 3 (.getfield 12) 55 .null), (55, ev 0 (.iconst 1) 56 (.int 1)), (56, er 4 (.invokevirtual 29) 59 17 2 0), (59, er 2 (.ifCond .le 5) 62 64 0 0), (62, ev 0 (.iconst 0) 63 (.int 0)), (63, ev 9 .ireturn 64 .null), (64, ev 1 (.iinc 4 1) 67 (.int 1)), (67, er 2 (.goto (-33)) 70 34 0 0), (70, ev 0 (.iconst 1) 71 (.int 1)), (71, ev 9 .ireturn 72 .null)]
def cd_X0_isSafeFor (pc : Nat) : List (Nat × Ent) := cl_X0_isSafeFor_0
def ca_X0_isSafeFor : List (Nat × Ent) := cl_X0_isSafeFor_0
def cl_X1_isAllWell_0 : List (Nat × Ent) := [(0, e1 (.aload_n 0) 1), (1, er 3 (.getfield 9) 4 6 2 0), (4, e1 (.istore_n 2) 5), (5, ev 0 (.iconst 0) 6 (.int 0)), (6, e1 (.istore_n 3) 7), (7, e1 (.iload_n 3) 8), (8, ev 0 (.bipush 40) 10 (.int 40)), (10, er 2 (.if_icmp .ge 45) 13 55 0 0), (13, e1 (.iload_n 3) 14), (14, e1 (.aload_n 0) 15), (15, er 3 (.getfield 15) 18 6 4 0), (18, er 2 (.if_icmp .ge 37) 21 55 0 0), (21, e1 (.iload_n 2) 22), (22, e1 (.aload_n 0) 23), (23, er 3 (.getfield 18) 26 6 7 0), (26, e1 (.iload_n 3) 27), (27, ev 3 .iaload 28 .null), (28, e0 .iadd 29), (29, e1 (.istore_n 2) 30), (30, e1 (.aload_n 0) 31), (31, e1 (.iload_n 3) 32), (32, er 4 (.invokestatic 22) 35 6 2 1), (35, er 2 (.ifCond .eq 12) 38 47 0 0), (38, e1 (.aload_n 0) 39), (39, e1 (.aload_n 1) 40), (40, e1 (.iload_n 3) 41), (41, er 4 (.invokestatic 28) 44 7 3 1), (44, er 2 (.ifCond .ne 5) 47 49 0 0), (47, ev 0 (.iconst 0) 48 (.int 0)), (48, ev 9 .ireturn 49 .null), (49, ev 1 (.iinc 3 1) 52 (.int 1)), (52, er 2 (.goto (-45)) 55 7 0 0), (55, e1 (.iload_n 2) 56), (56, ev 0 (.sipush 200) 59 (.int 200)), (59, er 2 (.if_icmp .ne 7) 62 66 0 0), (62, ev 0 (.iconst 1) 63 (.int 1)), (63, er 2 (.goto 4) 66 67 0 0), (66, ev 0 (.iconst 0) 67 (.int 0)), (67, ev 9 .ireturn 68 .null)]
def cd_X1_isAllWell (pc : Nat) : List (Nat × Ent) := cl_X1_isAllWell_0
def ca_X1_isAllWell : List (Nat × Ent) := cl_X1_isAllWell_0
def cl_X1_isSomewhere_0 : List (Nat × Ent) := [(0, e1 (.aload_n 0) 1), (1, er 3 (.getfield 32) 4 6 16 0), (4, e1 (.iload_n 1) 5), (5, er 4 (.invokestatic 35) 8 8 2 1), (8, e1 (.istore_n 2) 9), (9, e1 (.aload_n 0) 10), (10, er 3 (.getfield 39) 13 6 15 0), (13, e1 (.iload_n 1) 14), (14, er 4 (.invokestatic 35) 17 8 2 1), (17, e1 (.istore_n 3) 18), (18, e1 (.aload_n 0) 19), (19, e1 (.iload_n 1) 20), (20, er 4 (.invokevirtual 42) 23 71 1 0), (23, er 2 (.ifCond .eq 18) 26 41 0 0), (26, e1 (.iload_n 2) 27), (27, ev 0 (.iconst 1) 28 (.int 1)), (28, er 2 (.if_icmp .ne 11) 31 39 0 0), (31, e1 (.iload_n 3) 32), (32, er 2 (.ifCond .ne 7) 35 39 0 0), (35, ev 0 (.iconst 1) 36 (.int 1)), (36, er 2 (.goto 4) 39 40 0 0), (39, ev 0 (.iconst 0) 40 (.int 0)), (40, ev 9 .ireturn 41 .null), (41, e1 (.aload_n 0) 42), (42, e1 (.iload_n 1) 43), (43, er 4 (.invokevirtual 46) 46 70 1 0), (46, er 2 (.ifCond .eq 23) 49 69 0 0), (49, e1 (.iload_n 2) 50), (50, er 2 (.ifCond .ne 17) 53 67 0 0), (53, e1 (.iload_n 3) 54), (54, e1 (.aload_n 0) 55), (55, e1 (.iload_n 1) 56), (56, ev 0 (.iconst 1) 57 (.int 1)), (57, er 4 (.invokevirtual 49) 60 88 2 0), (60, er 2 (.if_icmp .ne 7) 63 67 0 0), (63, ev 0 (.iconst 1) 64 (.int 1)), (64, er 2 (.goto 4) 67 68 0 0), (67, ev 0 (.iconst 0) 68 (.int 0)), (68, ev 9 .ireturn 69 .null), (69, e1 (.aload_n 0) 70)]
def cl_X1_isSomewhere_1 : List (Nat × Ent) := [(70, e1 (.iload_n 1) 71), (71, er 4 (.invokevirtual 53) 74 72 1 0), (74, er 2 (.ifCond .eq 15) 77 89 0 0), (77, e1 (.iload_n 2) 78), (78, er 2 (.ifCond .ne 11) 81 89 0 0), (81, e1 (.iload_n 3) 82), (82, er 2 (.ifCond .ne 7) 85 89 0 0), (85, ev 0 (.iconst 1) 86 (.int 1)), (86, er 2 (.goto 4) 89 90 0 0), (89, ev 0 (.iconst 0) 90 (.int 0)), (90, ev 9 .ireturn 91 .null)]
def cd_X1_isSomewhere (pc : Nat) : List (Nat × Ent) := bif Nat.blt pc 70 then (cl_X1_isSomewhere_0) else (cl_X1_isSomewhere_1)
def ca_X1_isSomewhere : List (Nat × Ent) := cl_X1_isSomewhere_0 ++ cl_X1_isSomewhere_1
def cl_X1_isFirm_0 : List (Nat × Ent) := [(0, e1 (.aload_n 0) 1), (1, e1 (.iload_n 2) 2), (2, er 4 (.invokevirtual 46) 5 70 1 0), (5, er 2 (.ifCond .ne 5) 8 10 0 0), (8, ev 0 (.iconst 1) 9 (.int 1)), (9, ev 9 .ireturn 10 .null), (10, e1 (.aload_n 0) 11), (11, e1 (.iload_n 2) 12), (12, er 4 (.invokevirtual 56) 15 81 1 0), (15, er 2 (.ifCond .eq 21) 18 36 0 0), (18, e1 (.aload_n 1) 19), (19, e1 (.iload_n 2) 20), (20, er 4 (.invokevirtual 59) 23 26 1 0), (23, e1 (.aload_n 0) 24), (24, e1 (.iload_n 2) 25), (25, er 4 (.invokestatic 65) 28 30 2 1), (28, e0 (.fcmp .l) 29), (29, er 2 (.ifCond .ne 7) 32 36 0 0), (32, ev 0 (.iconst 1) 33 (.int 1)), (33, er 2 (.goto 4) 36 37 0 0), (36, ev 0 (.iconst 0) 37 (.int 0)), (37, ev 9 .ireturn 38 .null)]
def cd_X1_isFirm (pc : Nat) : List (Nat × Ent) := cl_X1_isFirm_0
def ca_X1_isFirm : List (Nat × Ent) := cl_X1_isFirm_0
def cl_X1_countIn_0 : List (Nat × Ent) := [(0, ev 0 (.iconst 0) 1 (.int 0)), (1, e1 (.istore_n 2) 2), (2, ev 0 (.iconst 0) 3 (.int 0)), (3, e1 (.istore_n 3) 4), (4, e1 (.iload_n 3) 5), (5, e1 (.aload_n 0) 6), (6, ev 3 .arraylength 7 .null), (7, er 2 (.if_icmp .ge 19) 10 26 0 0), (10, e1 (.aload_n 0) 11), (11, e1 (.iload_n 3) 12), (12, ev 3 .iaload 13 .null), (13, e1 (.iload_n 1) 14), (14, er 2 (.if_icmp .ne 6) 17 20 0 0), (17, ev 1 (.iinc 2 1) 20 (.int 1)), (20, ev 1 (.iinc 3 1) 23 (.int 1)), (23, er 2 (.goto (-19)) 26 4 0 0), (26, e1 (.iload_n 2) 27), (27, ev 9 .ireturn 28 .null)]
def cd_X1_countIn (pc : Nat) : List (Nat × Ent) := cl_X1_countIn_0
def ca_X1_countIn : List (Nat × Ent) := cl_X1_countIn_0
def cl_X2_ofFloat_0 : List (Nat × Ent) := [(0, e1 (.fload_n 0) 1), (1, ev 0 (.fconst 0) 2 (.float 0)), (2, e0 (.fcmp .l) 3), (3, er 2 (.ifCond .gt 5) 6 8 0 0), (6, ev 0 (.iconst 0) 7 (.int 0)), (7, ev 9 .ireturn 8 .null), (8, e1 (.fload_n 0) 9), (9, e1 (.fstore_n 1) 10), (10, ev 0 (.bipush 127) 12 (.int 127)), (12, e1 (.istore_n 2) 13), (13, ev 0 (.iconst 0) 14 (.int 0)), (14, e1 (.istore_n 3) 15), (15, e1 (.iload_n 3) 16), (16, ev 0 (.bipush 127) 18 (.int 127)), (18, er 2 (.if_icmp .ge 23) 21 41 0 0), (21, e1 (.fload_n 1) 22), (22, ev 0 (.fconst 2) 23 (.float 1073741824)), (23, e0 (.fcmp .l) 24), (24, er 2 (.ifCond .lt 17) 27 41 0 0), (27, e1 (.fload_n 1) 28), (28, ev 0 (.ldc 7) 30 (.float 1056964608)), (30, e0 .fmul 31), (31, e1 (.fstore_n 1) 32), (32, ev 1 (.iinc 2 1) 35 (.int 1)), (35, ev 1 (.iinc 3 1) 38 (.int 1)), (38, er 2 (.goto (-23)) 41 15 0 0), (41, ev 0 (.iconst 0) 42 (.int 0)), (42, e1 (.istore_n 3) 43), (43, e1 (.iload_n 3) 44), (44, ev 0 (.bipush 126) 46 (.int 126)), (46, er 2 (.if_icmp .ge 22) 49 68 0 0), (49, e1 (.fload_n 1) 50), (50, ev 0 (.fconst 1) 51 (.float 1065353216)), (51, e0 (.fcmp .g) 52), (52, er 2 (.ifCond .ge 16) 55 68 0 0), (55, e1 (.fload_n 1) 56), (56, ev 0 (.fconst 2) 57 (.float 1073741824)), (57, e0 .fmul 58), (58, e1 (.fstore_n 1) 59), (59, ev 1 (.iinc 2 (-1)) 62 (.int (-1)))]
def cl_X2_ofFloat_1 : List (Nat × Ent) := [(62, ev 1 (.iinc 3 1) 65 (.int 1)), (65, er 2 (.goto (-22)) 68 43 0 0), (68, e1 (.iload_n 2) 69), (69, ev 0 (.bipush 23) 71 (.int 23)), (71, e0 .ishl 72), (72, e1 (.fload_n 1) 73), (73, ev 0 (.fconst 1) 74 (.float 1065353216)), (74, e0 .fsub 75), (75, ev 0 (.ldc 8) 77 (.float 1258291200)), (77, e0 .fmul 78), (78, e0 .f2i 79), (79, e0 .ior 80), (80, ev 9 .ireturn 81 .null)]
def cd_X2_ofFloat (pc : Nat) : List (Nat × Ent) := bif Nat.blt pc 62 then (cl_X2_ofFloat_0) else (cl_X2_ofFloat_1)
def ca_X2_ofFloat : List (Nat × Ent) := cl_X2_ofFloat_0 ++ cl_X2_ofFloat_1
def cl_X2_ofDouble_0 : List (Nat × Ent) := [(0, e1 (.dload_n 0) 1), (1, ev 0 (.dconst 1) 2 (.double 4607182418800017408)), (2, e0 (.dcmp .l) 3), (3, er 2 (.ifCond .ge 5) 6 8 0 0), (6, ev 0 (.lconst 0) 7 (.long 0)), (7, ev 9 .lreturn 8 .null), (8, e1 (.dload_n 0) 9), (9, e1 (.dstore_n 2) 10), (10, ev 0 (.ldc2_w 9) 13 (.long 1023)), (13, e1 (.lstore 4) 15), (15, ev 0 (.iconst 0) 16 (.int 0)), (16, e1 (.istore 6) 18), (18, e1 (.iload 6) 20), (20, ev 0 (.sipush 1023) 23 (.int 1023)), (23, er 2 (.if_icmp .ge 29) 26 52 0 0), (26, e1 (.dload_n 2) 27), (27, ev 0 (.ldc2_w 11) 30 (.double 4611686018427387904)), (30, e0 (.dcmp .l) 31), (31, er 2 (.ifCond .lt 21) 34 52 0 0), (34, e1 (.dload_n 2) 35), (35, ev 0 (.ldc2_w 13) 38 (.double 4602678819172646912)), (38, e0 .dmul 39), (39, e1 (.dstore_n 2) 40), (40, e1 (.lload 4) 42), (42, ev 0 (.lconst 1) 43 (.long 1)), (43, e0 .ladd 44), (44, e1 (.lstore 4) 46), (46, ev 1 (.iinc 6 1) 49 (.int 1)), (49, er 2 (.goto (-31)) 52 18 0 0), (52, e1 (.lload 4) 54), (54, ev 0 (.bipush 52) 56 (.int 52)), (56, e0 .lshl 57), (57, e1 (.dload_n 2) 58), (58, ev 0 (.dconst 1) 59 (.double 4607182418800017408)), (59, e0 .dsub 60), (60, ev 0 (.ldc2_w 15) 63 (.double 4841369599423283200)), (63, e0 .dmul 64), (64, e0 .d2l 65), (65, e0 .lor 66), (66, ev 9 .lreturn 67 .null)]
def cd_X2_ofDouble (pc : Nat) : List (Nat × Ent) := cl_X2_ofDouble_0
def ca_X2_ofDouble : List (Nat × Ent) := cl_X2_ofDouble_0
def cl_X3_init_0 : List (Nat × Ent) := [(0, e1 (.aload_n 0) 1), (1, ev 7 (.invokespecial 3) 4 .null), (4, e1 (.aload_n 0) 5), (5, ev 0 (.bipush 8) 7 (.int 8)), (7, ev 7 (.anewarray 9) 10 .null), (10, er 7 (.putfield 11) 13 1 0 0), (13, e1 (.aload_n 0) 14), (14, ev 0 (.iconst 0) 15 (.int 0)), (15, er 3 (.putfield 17) 18 1 1 0), (18, e1 (.aload_n 0) 19), (19, ev 0 (.iconst 0) 20 (.int 0)), (20, er 3 (.putfield 21) 23 1 2 0), (23, ev 0 (.iconst 0) 24 (.int 0)), (24, e1 (.istore_n 1) 25), (25, e1 (.iload_n 1) 26), (26, ev 0 (.bipush 8) 28 (.int 8)), (28, er 2 (.if_icmp .ge 22) 31 50 0 0), (31, e1 (.aload_n 0) 32), (32, er 3 (.getfield 11) 35 1 0 0), (35, e1 (.iload_n 1) 36), (36, ev 7 (.new 9) 39 .null), (39, e0 .dup 40), (40, ev 7 (.invokespecial 24) 43 .null), (43, ev 7 .aastore 44 .null), (44, ev 1 (.iinc 1 1) 47 (.int 1)), (47, er 2 (.goto (-22)) 50 25 0 0), (50, ev 9 .return_ 51 .null)]
def cd_X3_init (pc : Nat) : List (Nat × Ent) := cl_X3_init_0
def ca_X3_init : List (Nat × Ent) := cl_X3_init_0
def cl_X3_number_0 : List (Nat × Ent) := [(0, e1 (.aload_n 0) 1), (1, er 3 (.getfield 21) 4 1 2 0), (4, ev 9 .ireturn 5 .null)]
def cd_X3_number (pc : Nat) : List (Nat × Ent) := cl_X3_number_0
def ca_X3_number : List (Nat × Ent) := cl_X3_number_0
def cl_X3_remember_0 : List (Nat × Ent) := [(0, e1 (.aload_n 0) 1), (1, er 3 (.getfield 17) 4 1 1 0), (4, er 2 (.ifCond .lt 24) 7 28 0 0), (7, e1 (.aload_n 0) 8), (8, er 3 (.getfield 17) 11 1 1 0), (11, ev 0 (.bipush 8) 13 (.int 8)), (13, er 2 (.if_icmp .ge 15) 16 28 0 0), (16, e1 (.aload_n 0) 17), (17, er 3 (.getfield 11) 20 1 0 0), (20, e1 (.aload_n 0) 21), (21, er 3 (.getfield 17) 24 1 1 0), (24, ev 3 .aaload 25 .null), (25, er 2 (.ifnonnull 4) 28 29 0 0), (28, ev 9 .return_ 29 .null), (29, e1 (.aload_n 0) 30), (30, er 3 (.getfield 11) 33 1 0 0), (33, e1 (.aload_n 0) 34), (34, er 3 (.getfield 17) 37 1 1 0), (37, ev 3 .aaload 38 .null), (38, e1 (.aload_n 1) 39), (39, er 4 (.invokevirtual 25) 42 64 1 0), (42, e1 (.aload_n 0) 43), (43, e1 (.aload_n 0) 44), (44, er 3 (.getfield 17) 47 1 1 0), (47, ev 0 (.iconst 1) 48 (.int 1)), (48, e0 .iadd 49), (49, ev 0 (.bipush 8) 51 (.int 8)), (51, e0 .irem 52), (52, er 3 (.putfield 17) 55 1 1 0), (55, e1 (.aload_n 0) 56), (56, e1 (.aload_n 0) 57), (57, er 3 (.getfield 21) 60 1 2 0), (60, ev 0 (.iconst 1) 61 (.int 1)), (61, e0 .iadd 62), (62, ev 0 (.bipush 8) 64 (.int 8)), (64, er 5 (.invokestatic 29) 67 0 2 3), (67, er 3 (.putfield 21) 70 1 2 0), (70, ev 9 .return_ 71 .null)]
def cd_X3_remember (pc : Nat) : List (Nat × Ent) := cl_X3_remember_0
def ca_X3_remember : List (Nat × Ent) := cl_X3_remember_0
def cl_X3_goBack_0 : List (Nat × Ent) := [(0, e1 (.aload_n 0) 1), (1, e1 (.aload_n 0) 2), (2, er 3 (.getfield 17) 5 1 1 0), (5, ev 0 (.bipush 8) 7 (.int 8)), (7, e0 .iadd 8), (8, ev 0 (.iconst 1) 9 (.int 1)), (9, e0 .isub 10), (10, ev 0 (.bipush 8) 12 (.int 8)), (12, e0 .irem 13), (13, er 3 (.putfield 17) 16 1 1 0), (16, e1 (.aload_n 0) 17), (17, er 3 (.getfield 17) 20 1 1 0), (20, er 2 (.ifCond .lt 37) 23 57 0 0), (23, e1 (.aload_n 0) 24), (24, er 3 (.getfield 17) 27 1 1 0), (27, ev 0 (.bipush 8) 29 (.int 8)), (29, er 2 (.if_icmp .ge 28) 32 57 0 0), (32, e1 (.aload_n 0) 33), (33, er 3 (.getfield 11) 36 1 0 0), (36, e1 (.aload_n 0) 37), (37, er 3 (.getfield 17) 40 1 1 0), (40, ev 3 .aaload 41 .null), (41, er 2 (.ifnull 16) 44 57 0 0), (44, e1 (.aload_n 1) 45), (45, e1 (.aload_n 0) 46), (46, er 3 (.getfield 11) 49 1 0 0), (49, e1 (.aload_n 0) 50), (50, er 3 (.getfield 17) 53 1 1 0), (53, ev 3 .aaload 54 .null), (54, er 4 (.invokevirtual 25) 57 64 1 0), (57, e1 (.aload_n 0) 58), (58, e1 (.aload_n 0) 59), (59, er 3 (.getfield 21) 62 1 2 0), (62, ev 0 (.iconst 1) 63 (.int 1)), (63, e0 .isub 64), (64, ev 0 (.iconst 0) 65 (.int 0)), (65, er 5 (.invokestatic 35) 68 0 2 2), (68, er 3 (.putfield 21) 71 1 2 0), (71, ev 9 .return_ 72 .null)]
def cd_X3_goBack (pc : Nat) : List (Nat × Ent) := cl_X3_goBack_0
def ca_X3_goBack : List (Nat × Ent) := cl_X3_goBack_0
def cl_X3_forget_0 : List (Nat × Ent) := [(0, e1 (.aload_n 0) 1), (1, ev 0 (.iconst 0) 2 (.int 0)), (2, er 3 (.putfield 21) 5 1 2 0), (5, ev 9 .return_ 6 .null)]
def cd_X3_forget (pc : Nat) : List (Nat × Ent) := cl_X3_forget_0
def ca_X3_forget : List (Nat × Ent) := cl_X3_forget_0
def cl_X4_init_0 : List (Nat × Ent) := [(0, e1 (.aload_n 0) 1), (1, ev 7 (.invokespecial 3) 4 .null), (4, e1 (.aload_n 0) 5), (5, ev 7 (.new 9) 8 .null), (8, e0 .dup 9), (9, ev 7 (.invokespecial 11) 12 .null), (12, er 7 (.putfield 12) 15 2 0 0), (15, e1 (.aload_n 0) 16), (16, ev 7 (.new 18) 19 .null), (19, e0 .dup 20), (20, ev 7 (.invokespecial 20) 23 .null), (23, er 7 (.putfield 21) 26 2 1 0), (26, ev 9 .return_ 27 .null)]
def cd_X4_init (pc : Nat) : List (Nat × Ent) := cl_X4_init_0
def ca_X4_init : List (Nat × Ent) := cl_X4_init_0
def cl_X4_letGoBy_0 : List (Nat × Ent) := [(0, e1 (.aload_n 1) 1), (1, er 4 (.invokevirtual 25) 4 91 0 0), (4, e1 (.istore_n 3) 5), (5, ev 0 (.iconst 0) 6 (.int 0)), (6, e1 (.istore 4) 8), (8, e1 (.iload 4) 10), (10, e1 (.iload_n 2) 11), (11, er 2 (.if_icmp .ge 88) 14 99 0 0), (14, e1 (.iload 4) 16), (16, ev 0 (.bipush 96) 18 (.int 96)), (18, er 2 (.if_icmp .ge 81) 21 99 0 0), (21, e1 (.aload_n 1) 22), (22, er 4 (.invokevirtual 31) 25 74 0 0), (25, e1 (.istore 5) 27), (27, e1 (.aload_n 1) 28), (28, e1 (.iload 5) 30), (30, er 4 (.invokevirtual 34) 33 75 1 0), (33, e1 (.istore 6) 35), (35, e1 (.aload_n 0) 36), (36, e1 (.aload_n 1) 37), (37, e1 (.iload 6) 39), (39, er 4 (.invokevirtual 38) 42 18 2 0), (42, e1 (.aload_n 0) 43), (43, e1 (.aload_n 1) 44), (44, e1 (.iload 6) 46), (46, er 4 (.invokevirtual 42) 49 19 2 0), (49, e1 (.iload 6) 51), (51, er 2 (.ifCond .le 12) 54 63 0 0), (54, e1 (.aload_n 0) 55), (55, e1 (.aload_n 1) 56), (56, e1 (.iload 5) 58), (58, e1 (.iload 6) 60), (60, er 4 (.invokevirtual 45) 63 20 3 0), (63, e1 (.aload_n 0) 64), (64, e1 (.aload_n 1) 65), (65, er 4 (.invokevirtual 49) 68 21 1 0), (68, e1 (.aload_n 0) 69), (69, e1 (.aload_n 1) 70), (70, er 4 (.invokevirtual 53) 73 22 1 0), (73, e1 (.aload_n 0) 74)]
def cl_X4_letGoBy_1 : List (Nat × Ent) := [(74, e1 (.aload_n 1) 75), (75, er 4 (.invokevirtual 56) 78 23 1 0), (78, e1 (.aload_n 0) 79), (79, e1 (.aload_n 1) 80), (80, er 4 (.invokevirtual 59) 83 24 1 0), (83, e1 (.aload_n 1) 84), (84, e0 .dup 85), (85, er 3 (.getfield 62) 88 6 0 0), (88, ev 0 (.iconst 1) 89 (.int 1)), (89, e0 .iadd 90), (90, er 3 (.putfield 62) 93 6 0 0), (93, ev 1 (.iinc 4 1) 96 (.int 1)), (96, er 2 (.goto (-88)) 99 8 0 0), (99, e1 (.iload_n 3) 100), (100, e1 (.aload_n 1) 101), (101, er 4 (.invokevirtual 25) 104 91 0 0), (104, e0 .isub 105), (105, ev 9 .ireturn 106 .null)]
def cd_X4_letGoBy (pc : Nat) : List (Nat × Ent) := bif Nat.blt pc 74 then (cl_X4_letGoBy_0) else (cl_X4_letGoBy_1)
def ca_X4_letGoBy : List (Nat × Ent) := cl_X4_letGoBy_0 ++ cl_X4_letGoBy_1
def cl_X4_changeIce_0 : List (Nat × Ent) := [(0, e1 (.aload_n 1) 1), (1, er 3 (.getfield 66) 4 6 1 0), (4, e1 (.istore_n 3) 5), (5, e1 (.iload_n 2) 6), (6, er 2 (.ifCond .ge 13) 9 19 0 0), (9, e1 (.iload_n 3) 10), (10, e1 (.iload_n 2) 11), (11, e0 .ineg 12), (12, ev 0 (.iconst 5) 13 (.int 5)), (13, e0 .idiv 14), (14, e0 .iadd 15), (15, e1 (.istore_n 3) 16), (16, er 2 (.goto 9) 19 25 0 0), (19, e1 (.iload_n 3) 20), (20, e1 (.iload_n 2) 21), (21, ev 0 (.iconst 5) 22 (.int 5)), (22, e0 .idiv 23), (23, e0 .isub 24), (24, e1 (.istore_n 3) 25), (25, e1 (.aload_n 1) 26), (26, ev 0 (.iconst 0) 27 (.int 0)), (27, ev 0 (.bipush 60) 29 (.int 60)), (29, e1 (.iload_n 3) 30), (30, er 5 (.invokestatic 69) 33 0 2 3), (33, er 5 (.invokestatic 75) 36 0 2 2), (36, er 3 (.putfield 66) 39 6 1 0), (39, ev 9 .return_ 40 .null)]
def cd_X4_changeIce (pc : Nat) : List (Nat × Ent) := cl_X4_changeIce_0
def ca_X4_changeIce : List (Nat × Ent) := cl_X4_changeIce_0
def cl_X4_changeJoints_0 : List (Nat × Ent) := [(0, e1 (.iload_n 2) 1), (1, er 2 (.ifCond .ge 7) 4 8 0 0), (4, ev 0 (.iconst 1) 5 (.int 1)), (5, er 2 (.goto 13) 8 18 0 0), (8, e1 (.iload_n 2) 9), (9, ev 0 (.iconst 5) 10 (.int 5)), (10, er 2 (.if_icmp .le 7) 13 17 0 0), (13, ev 0 (.iconst (-1)) 14 (.int (-1))), (14, er 2 (.goto 4) 17 18 0 0), (17, ev 0 (.iconst 0) 18 (.int 0)), (18, e1 (.istore_n 3) 19), (19, ev 0 (.iconst 0) 20 (.int 0)), (20, e1 (.istore 4) 22), (22, e1 (.iload 4) 24), (24, ev 0 (.bipush 40) 26 (.int 40)), (26, er 2 (.if_icmp .ge 52) 29 78 0 0), (29, e1 (.iload 4) 31), (31, e1 (.aload_n 1) 32), (32, er 3 (.getfield 78) 35 6 4 0), (35, er 2 (.if_icmp .ge 43) 38 78 0 0), (38, e1 (.aload_n 1) 39), (39, e1 (.iload 4) 41), (41, er 4 (.invokevirtual 81) 44 70 1 0), (44, er 2 (.ifCond .eq 28) 47 72 0 0), (47, e1 (.aload_n 1) 48), (48, er 3 (.getfield 85) 51 6 12 0), (51, e1 (.iload 4) 53), (53, ev 0 (.iconst 0) 54 (.int 0)), (54, ev 0 (.bipush 9) 56 (.int 9)), (56, e1 (.aload_n 1) 57), (57, er 3 (.getfield 85) 60 6 12 0), (60, e1 (.iload 4) 62), (62, ev 3 .iaload 63 .null), (63, e1 (.iload_n 3) 64), (64, e0 .iadd 65), (65, er 5 (.invokestatic 69) 68 0 2 3), (68, er 5 (.invokestatic 75) 71 0 2 2), (71, ev 3 .iastore 72 .null), (72, ev 1 (.iinc 4 1) 75 (.int 1)), (75, er 2 (.goto (-53)) 78 22 0 0)]
def cl_X4_changeJoints_1 : List (Nat × Ent) := [(78, ev 9 .return_ 79 .null)]
def cd_X4_changeJoints (pc : Nat) : List (Nat × Ent) := bif Nat.blt pc 78 then (cl_X4_changeJoints_0) else (cl_X4_changeJoints_1)
def ca_X4_changeJoints : List (Nat × Ent) := cl_X4_changeJoints_0 ++ cl_X4_changeJoints_1
def cl_X4_melt_0 : List (Nat × Ent) := [(0, e1 (.aload_n 0) 1), (1, er 3 (.getfield 21) 4 2 1 0), (4, e1 (.aload_n 1) 5), (5, er 4 (.invokevirtual 89) 8 56 1 0), (8, ev 0 (.iconst 0) 9 (.int 0)), (9, e1 (.istore 4) 11), (11, e1 (.iload 4) 13), (13, ev 0 (.bipush 40) 15 (.int 40)), (15, er 2 (.if_icmp .ge 72) 18 87 0 0), (18, e1 (.iload 4) 20), (20, e1 (.aload_n 1) 21), (21, er 3 (.getfield 78) 24 6 4 0), (24, er 2 (.if_icmp .ge 63) 27 87 0 0), (27, e1 (.aload_n 1) 28), (28, e1 (.iload 4) 30), (30, er 4 (.invokevirtual 81) 33 70 1 0), (33, er 2 (.ifCond .eq 48) 36 81 0 0), (36, e1 (.aload_n 0) 37), (37, er 3 (.getfield 21) 40 2 1 0), (40, e1 (.aload_n 1) 41), (41, e1 (.iload 4) 43), (43, e1 (.iload_n 2) 44), (44, er 4 (.invokevirtual 92) 47 57 3 0), (47, er 2 (.ifCond .eq 8) 50 55 0 0), (50, ev 0 (.ldc 96) 52 (.float 1000593162)), (52, er 2 (.goto 5) 55 57 0 0), (55, ev 0 (.ldc 97) 57 (.float 1008981770)), (57, e1 (.fstore 5) 59), (59, e1 (.aload_n 1) 60), (60, er 3 (.getfield 98) 63 6 8 0), (63, e1 (.iload 4) 65), (65, e1 (.aload_n 1) 66), (66, er 3 (.getfield 98) 69 6 8 0), (69, e1 (.iload 4) 71), (71, ev 3 .faload 72 .null), (72, ev 0 (.fconst 1) 73 (.float 1065353216)), (73, e1 (.fload 5) 75), (75, e1 (.iload_n 3) 76), (76, e0 .i2f 77), (77, e0 .fmul 78)]
def cl_X4_melt_1 : List (Nat × Ent) := [(78, e0 .fsub 79), (79, e0 .fmul 80), (80, ev 3 .fastore 81 .null), (81, ev 1 (.iinc 4 1) 84 (.int 1)), (84, er 2 (.goto (-73)) 87 11 0 0), (87, ev 9 .return_ 88 .null)]
def cd_X4_melt (pc : Nat) : List (Nat × Ent) := bif Nat.blt pc 78 then (cl_X4_melt_0) else (cl_X4_melt_1)
def ca_X4_melt : List (Nat × Ent) := cl_X4_melt_0 ++ cl_X4_melt_1
def cl_X4_warm_0 : List (Nat × Ent) := [(0, ev 0 (.ldc 102) 2 (.float 1036831949)), (2, e1 (.aload_n 1) 3), (3, er 3 (.getfield 103) 6 6 3 0), (6, e0 .i2f 7), (7, e0 .fmul 8), (8, e1 (.fstore_n 2) 9), (9, ev 0 (.iconst 0) 10 (.int 0)), (10, e1 (.istore_n 3) 11), (11, e1 (.iload_n 3) 12), (12, ev 0 (.bipush 40) 14 (.int 40)), (14, er 2 (.if_icmp .ge 49) 17 63 0 0), (17, e1 (.iload_n 3) 18), (18, e1 (.aload_n 1) 19), (19, er 3 (.getfield 78) 22 6 4 0), (22, er 2 (.if_icmp .ge 41) 25 63 0 0), (25, e1 (.aload_n 1) 26), (26, e1 (.iload_n 3) 27), (27, er 4 (.invokevirtual 81) 30 70 1 0), (30, er 2 (.ifCond .eq 27) 33 57 0 0), (33, e1 (.aload_n 1) 34), (34, er 3 (.getfield 106) 37 6 11 0), (37, e1 (.iload_n 3) 38), (38, ev 3 .iaload 39 .null), (39, ev 0 (.iconst 1) 40 (.int 1)), (40, er 2 (.if_icmp .gt 17) 43 57 0 0), (43, e1 (.aload_n 1) 44), (44, er 3 (.getfield 98) 47 6 8 0), (47, e1 (.iload_n 3) 48), (48, e1 (.aload_n 1) 49), (49, er 3 (.getfield 98) 52 6 8 0), (52, e1 (.iload_n 3) 53), (53, ev 3 .faload 54 .null), (54, e1 (.fload_n 2) 55), (55, e0 .fsub 56), (56, ev 3 .fastore 57 .null), (57, ev 1 (.iinc 3 1) 60 (.int 1)), (60, er 2 (.goto (-49)) 63 11 0 0), (63, ev 9 .return_ 64 .null)]
def cd_X4_warm (pc : Nat) : List (Nat × Ent) := cl_X4_warm_0
def ca_X4_warm : List (Nat × Ent) := cl_X4_warm_0
def cl_X4_removeMelted_0 : List (Nat × Ent) := [(0, ev 0 (.iconst 0) 1 (.int 0)), (1, e1 (.istore_n 2) 2), (2, e1 (.iload_n 2) 3), (3, ev 0 (.bipush 40) 5 (.int 40)), (5, er 2 (.if_icmp .ge 42) 8 47 0 0), (8, e1 (.iload_n 2) 9), (9, e1 (.aload_n 1) 10), (10, er 3 (.getfield 78) 13 6 4 0), (13, er 2 (.if_icmp .ge 34) 16 47 0 0), (16, e1 (.aload_n 1) 17), (17, e1 (.iload_n 2) 18), (18, er 4 (.invokevirtual 81) 21 70 1 0), (21, er 2 (.ifCond .eq 20) 24 41 0 0), (24, e1 (.aload_n 1) 25), (25, er 3 (.getfield 98) 28 6 8 0), (28, e1 (.iload_n 2) 29), (29, ev 3 .faload 30 .null), (30, ev 0 (.fconst 1) 31 (.float 1065353216)), (31, e0 (.fcmp .g) 32), (32, er 2 (.ifCond .ge 9) 35 41 0 0), (35, e1 (.aload_n 1) 36), (36, e1 (.iload_n 2) 37), (37, ev 0 (.iconst 2) 38 (.int 2)), (38, er 4 (.invokevirtual 109) 41 85 2 0), (41, ev 1 (.iinc 2 1) 44 (.int 1)), (44, er 2 (.goto (-42)) 47 2 0 0), (47, ev 9 .return_ 48 .null)]
def cd_X4_removeMelted (pc : Nat) : List (Nat × Ent) := cl_X4_removeMelted_0
def ca_X4_removeMelted : List (Nat × Ent) := cl_X4_removeMelted_0
def cl_X4_dropUnsupported_0 : List (Nat × Ent) := [(0, ev 0 (.iconst 1) 1 (.int 1)), (1, e1 (.istore_n 2) 2), (2, e1 (.iload_n 2) 3), (3, ev 0 (.bipush 8) 5 (.int 8)), (5, er 2 (.if_icmp .ge 55) 8 60 0 0), (8, ev 0 (.iconst 0) 9 (.int 0)), (9, e1 (.istore_n 3) 10), (10, e1 (.iload_n 3) 11), (11, ev 0 (.bipush 40) 13 (.int 40)), (13, er 2 (.if_icmp .ge 41) 16 54 0 0), (16, e1 (.iload_n 3) 17), (17, e1 (.aload_n 1) 18), (18, er 3 (.getfield 78) 21 6 4 0), (21, er 2 (.if_icmp .ge 33) 24 54 0 0), (24, e1 (.aload_n 1) 25), (25, er 3 (.getfield 106) 28 6 11 0), (28, e1 (.iload_n 3) 29), (29, ev 3 .iaload 30 .null), (30, e1 (.iload_n 2) 31), (31, er 2 (.if_icmp .ne 17) 34 48 0 0), (34, e1 (.aload_n 1) 35), (35, e1 (.iload_n 3) 36), (36, er 4 (.invokevirtual 113) 39 81 1 0), (39, er 2 (.ifCond .ne 9) 42 48 0 0), (42, e1 (.aload_n 1) 43), (43, e1 (.iload_n 3) 44), (44, ev 0 (.iconst 4) 45 (.int 4)), (45, er 4 (.invokevirtual 109) 48 85 2 0), (48, ev 1 (.iinc 3 1) 51 (.int 1)), (51, er 2 (.goto (-41)) 54 10 0 0), (54, ev 1 (.iinc 2 1) 57 (.int 1)), (57, er 2 (.goto (-55)) 60 2 0 0), (60, ev 9 .return_ 61 .null)]
def cd_X4_dropUnsupported (pc : Nat) : List (Nat × Ent) := cl_X4_dropUnsupported_0
def ca_X4_dropUnsupported : List (Nat × Ent) := cl_X4_dropUnsupported_0
def cl_X4_breakOverloaded_0 : List (Nat × Ent) := [(0, ev 0 (.iconst 0) 1 (.int 0)), (1, e1 (.istore_n 2) 2), (2, e1 (.iload_n 2) 3), (3, ev 0 (.bipush 40) 5 (.int 40)), (5, er 2 (.if_icmp .ge 42) 8 47 0 0), (8, e1 (.aload_n 0) 9), (9, er 3 (.getfield 12) 12 2 0 0), (12, e1 (.aload_n 1) 13), (13, er 4 (.invokevirtual 116) 16 28 1 0), (16, e1 (.aload_n 0) 17), (17, er 3 (.getfield 12) 20 2 0 0), (20, e1 (.aload_n 1) 21), (21, er 4 (.invokevirtual 119) 24 32 1 0), (24, e1 (.istore_n 3) 25), (25, e1 (.iload_n 3) 26), (26, er 2 (.ifCond .ge 4) 29 30 0 0), (29, ev 9 .return_ 30 .null), (30, e1 (.aload_n 1) 31), (31, e1 (.iload_n 3) 32), (32, ev 0 (.iconst 3) 33 (.int 3)), (33, er 4 (.invokevirtual 109) 36 85 2 0), (36, e1 (.aload_n 0) 37), (37, e1 (.aload_n 1) 38), (38, er 4 (.invokevirtual 56) 41 23 1 0), (41, ev 1 (.iinc 2 1) 44 (.int 1)), (44, er 2 (.goto (-42)) 47 2 0 0), (47, ev 9 .return_ 48 .null)]
def cd_X4_breakOverloaded (pc : Nat) : List (Nat × Ent) := cl_X4_breakOverloaded_0
def ca_X4_breakOverloaded : List (Nat × Ent) := cl_X4_breakOverloaded_0
def cl_X5_init_0 : List (Nat × Ent) := [(0, e1 (.aload_n 0) 1), (1, ev 7 (.invokespecial 3) 4 .null), (4, e1 (.aload_n 0) 5), (5, ev 0 (.bipush 40) 7 (.int 40)), (7, ev 7 (.newarray .float) 9 .null), (9, er 7 (.putfield 9) 12 3 0 0), (12, ev 9 .return_ 13 .null)]
def cd_X5_init (pc : Nat) : List (Nat × Ent) := cl_X5_init_0
def ca_X5_init : List (Nat × Ent) := cl_X5_init_0
def cl_X5_loadOf_0 : List (Nat × Ent) := [(0, e1 (.iload_n 1) 1), (1, er 2 (.ifCond .lt 18) 4 19 0 0), (4, e1 (.iload_n 1) 5), (5, ev 0 (.bipush 40) 7 (.int 40)), (7, er 2 (.if_icmp .ge 12) 10 19 0 0), (10, e1 (.aload_n 0) 11), (11, er 3 (.getfield 9) 14 3 0 0), (14, e1 (.iload_n 1) 15), (15, ev 3 .faload 16 .null), (16, er 2 (.goto 4) 19 20 0 0), (19, ev 0 (.fconst 0) 20 (.float 0)), (20, ev 9 .freturn 21 .null)]
def cd_X5_loadOf (pc : Nat) : List (Nat × Ent) := cl_X5_loadOf_0
def ca_X5_loadOf : List (Nat × Ent) := cl_X5_loadOf_0
def cl_X5_borneBy_0 : List (Nat × Ent) := [(0, e1 (.aload_n 0) 1), (1, e1 (.iload_n 1) 2), (2, er 4 (.invokevirtual 15) 5 70 1 0), (5, er 2 (.ifCond .ne 5) 8 10 0 0), (8, ev 0 (.fconst 0) 9 (.float 0)), (9, ev 9 .freturn 10 .null), (10, e1 (.aload_n 0) 11), (11, er 3 (.getfield 21) 14 6 6 0), (14, e1 (.iload_n 1) 15), (15, ev 3 .iaload 16 .null), (16, er 2 (.ifCond .ne 8) 19 24 0 0), (19, ev 0 (.ldc 25) 21 (.float 1082130432)), (21, er 2 (.goto 4) 24 25 0 0), (24, ev 0 (.fconst 2) 25 (.float 1073741824)), (25, e1 (.fstore_n 2) 26), (26, e1 (.aload_n 0) 27), (27, er 3 (.getfield 26) 30 6 8 0), (30, e1 (.iload_n 1) 31), (31, ev 3 .faload 32 .null), (32, e1 (.fload_n 2) 33), (33, e0 .fmul 34), (34, ev 0 (.fconst 1) 35 (.float 1065353216)), (35, ev 0 (.ldc 29) 37 (.float 1036831949)), (37, e1 (.aload_n 0) 38), (38, er 3 (.getfield 30) 41 6 12 0), (41, e1 (.iload_n 1) 42), (42, ev 3 .iaload 43 .null), (43, e0 .i2f 44), (44, e0 .fmul 45), (45, e0 .fadd 46), (46, e0 .fmul 47), (47, ev 9 .freturn 48 .null)]
def cd_X5_borneBy (pc : Nat) : List (Nat × Ent) := cl_X5_borneBy_0
def ca_X5_borneBy : List (Nat × Ent) := cl_X5_borneBy_0
def cl_X5_sumUp_0 : List (Nat × Ent) := [(0, ev 0 (.iconst 0) 1 (.int 0)), (1, e1 (.istore_n 2) 2), (2, e1 (.iload_n 2) 3), (3, ev 0 (.bipush 40) 5 (.int 40)), (5, er 2 (.if_icmp .ge 16) 8 21 0 0), (8, e1 (.aload_n 0) 9), (9, er 3 (.getfield 9) 12 3 0 0), (12, e1 (.iload_n 2) 13), (13, ev 0 (.fconst 0) 14 (.float 0)), (14, ev 3 .fastore 15 .null), (15, ev 1 (.iinc 2 1) 18 (.int 1)), (18, er 2 (.goto (-16)) 21 2 0 0), (21, ev 0 (.bipush 7) 23 (.int 7)), (23, e1 (.istore_n 2) 24), (24, e1 (.iload_n 2) 25), (25, ev 0 (.iconst 1) 26 (.int 1)), (26, er 2 (.if_icmp .lt 47) 29 73 0 0), (29, ev 0 (.iconst 0) 30 (.int 0)), (30, e1 (.istore_n 3) 31), (31, e1 (.iload_n 3) 32), (32, ev 0 (.bipush 40) 34 (.int 40)), (34, er 2 (.if_icmp .ge 33) 37 67 0 0), (37, e1 (.iload_n 3) 38), (38, e1 (.aload_n 1) 39), (39, er 3 (.getfield 33) 42 6 4 0), (42, er 2 (.if_icmp .ge 25) 45 67 0 0), (45, e1 (.aload_n 1) 46), (46, er 3 (.getfield 37) 49 6 11 0), (49, e1 (.iload_n 3) 50), (50, ev 3 .iaload 51 .null), (51, e1 (.iload_n 2) 52), (52, er 2 (.if_icmp .ne 9) 55 61 0 0), (55, e1 (.aload_n 0) 56), (56, e1 (.aload_n 1) 57), (57, e1 (.iload_n 3) 58), (58, er 4 (.invokevirtual 40) 61 29 2 0), (61, ev 1 (.iinc 3 1) 64 (.int 1)), (64, er 2 (.goto (-33)) 67 31 0 0), (67, ev 1 (.iinc 2 (-1)) 70 (.int (-1))), (70, er 2 (.goto (-46)) 73 24 0 0)]
def cl_X5_sumUp_1 : List (Nat × Ent) := [(73, ev 9 .return_ 74 .null)]
def cd_X5_sumUp (pc : Nat) : List (Nat × Ent) := bif Nat.blt pc 73 then (cl_X5_sumUp_0) else (cl_X5_sumUp_1)
def ca_X5_sumUp : List (Nat × Ent) := cl_X5_sumUp_0 ++ cl_X5_sumUp_1
def cl_X5_handDown_0 : List (Nat × Ent) := [(0, e1 (.iload_n 2) 1), (1, er 2 (.ifCond .lt 9) 4 10 0 0), (4, e1 (.iload_n 2) 5), (5, ev 0 (.bipush 40) 7 (.int 40)), (7, er 2 (.if_icmp .lt 4) 10 11 0 0), (10, ev 9 .return_ 11 .null), (11, e1 (.aload_n 1) 12), (12, er 3 (.getfield 37) 15 6 11 0), (15, e1 (.iload_n 2) 16), (16, ev 3 .iaload 17 .null), (17, e1 (.istore_n 3) 18), (18, e1 (.aload_n 1) 19), (19, e1 (.aload_n 1) 20), (20, er 3 (.getfield 44) 23 6 10 0), (23, e1 (.iload_n 2) 24), (24, ev 3 .iaload 25 .null), (25, e1 (.aload_n 1) 26), (26, er 3 (.getfield 47) 29 6 7 0), (29, e1 (.iload_n 2) 30), (30, ev 3 .iaload 31 .null), (31, e1 (.iload_n 3) 32), (32, er 4 (.invokevirtual 50) 35 79 3 0), (35, e1 (.istore 4) 37), (37, e1 (.iload 4) 39), (39, ev 0 (.iconst 1) 40 (.int 1)), (40, er 2 (.if_icmp .ge 4) 43 44 0 0), (43, ev 9 .return_ 44 .null), (44, e1 (.aload_n 1) 45), (45, er 3 (.getfield 26) 48 6 8 0), (48, e1 (.iload_n 2) 49), (49, ev 3 .faload 50 .null), (50, e1 (.aload_n 0) 51), (51, er 3 (.getfield 9) 54 3 0 0), (54, e1 (.iload_n 2) 55), (55, ev 3 .faload 56 .null), (56, e0 .fadd 57), (57, e1 (.fstore 5) 59), (59, ev 0 (.iconst (-1)) 60 (.int (-1))), (60, e1 (.istore 6) 62), (62, ev 0 (.iconst 0) 63 (.int 0))]
def cl_X5_handDown_1 : List (Nat × Ent) := [(63, e1 (.istore 7) 65), (65, e1 (.iload 7) 67), (67, e1 (.aload_n 1) 68), (68, er 3 (.getfield 47) 71 6 7 0), (71, e1 (.iload_n 2) 72), (72, ev 3 .iaload 73 .null), (73, er 2 (.if_icmp .ge 84) 76 157 0 0), (76, e1 (.aload_n 1) 77), (77, e1 (.aload_n 1) 78), (78, er 3 (.getfield 44) 81 6 10 0), (81, e1 (.iload_n 2) 82), (82, ev 3 .iaload 83 .null), (83, e1 (.iload 7) 85), (85, e0 .iadd 86), (86, e1 (.iload_n 3) 87), (87, ev 0 (.iconst 1) 88 (.int 1)), (88, e0 .isub 89), (89, er 4 (.invokevirtual 54) 92 76 2 0), (92, e1 (.istore 8) 94), (94, e1 (.iload 8) 96), (96, er 2 (.ifCond .lt 55) 99 151 0 0), (99, e1 (.iload 8) 101), (101, ev 0 (.bipush 40) 103 (.int 40)), (103, er 2 (.if_icmp .ge 48) 106 151 0 0), (106, e1 (.iload 8) 108), (108, e1 (.iload 6) 110), (110, er 2 (.if_icmp .eq 41) 113 151 0 0), (113, e1 (.aload_n 1) 114), (114, e1 (.iload_n 2) 115), (115, e1 (.iload 8) 117), (117, er 4 (.invokevirtual 58) 120 82 2 0), (120, e1 (.istore 9) 122), (122, e1 (.aload_n 0) 123), (123, er 3 (.getfield 9) 126 3 0 0), (126, e1 (.iload 8) 128), (128, e1 (.aload_n 0) 129), (129, er 3 (.getfield 9) 132 3 0 0), (132, e1 (.iload 8) 134), (134, ev 3 .faload 135 .null), (135, e1 (.fload 5) 137)]
def cl_X5_handDown_2 : List (Nat × Ent) := [(137, e1 (.iload 9) 139), (139, e0 .i2f 140), (140, e0 .fmul 141), (141, e1 (.iload 4) 143), (143, e0 .i2f 144), (144, e0 .fdiv 145), (145, e0 .fadd 146), (146, ev 3 .fastore 147 .null), (147, e1 (.iload 8) 149), (149, e1 (.istore 6) 151), (151, ev 1 (.iinc 7 1) 154 (.int 1)), (154, er 2 (.goto (-89)) 157 65 0 0), (157, ev 9 .return_ 158 .null)]
def cd_X5_handDown (pc : Nat) : List (Nat × Ent) := bif Nat.blt pc 63 then (cl_X5_handDown_0) else (bif Nat.blt pc 137 then (cl_X5_handDown_1) else (cl_X5_handDown_2))
def ca_X5_handDown : List (Nat × Ent) := cl_X5_handDown_0 ++ cl_X5_handDown_1 ++ cl_X5_handDown_2
def cl_X5_loadFromAbove_0 : List (Nat × Ent) := [(0, e1 (.aload_n 0) 1), (1, e1 (.iload_n 1) 2), (2, ev 0 (.iconst 0) 3 (.int 0)), (3, er 4 (.invokestatic 61) 6 31 3 1), (6, ev 9 .freturn 7 .null)]
def cd_X5_loadFromAbove (pc : Nat) : List (Nat × Ent) := cl_X5_loadFromAbove_0
def ca_X5_loadFromAbove : List (Nat × Ent) := cl_X5_loadFromAbove_0
def cl_X5_sumFromAbove_0 : List (Nat × Ent) := [(0, ev 0 (.fconst 0) 1 (.float 0)), (1, e1 (.fstore_n 3) 2), (2, e1 (.aload_n 0) 3), (3, e1 (.iload_n 1) 4), (4, er 4 (.invokevirtual 15) 7 70 1 0), (7, er 2 (.ifCond .eq 9) 10 16 0 0), (10, e1 (.iload_n 2) 11), (11, ev 0 (.bipush 8) 13 (.int 8)), (13, er 2 (.if_icmp .lt 5) 16 18 0 0), (16, e1 (.fload_n 3) 17), (17, ev 9 .freturn 18 .null), (18, e1 (.aload_n 0) 19), (19, er 3 (.getfield 37) 22 6 11 0), (22, e1 (.iload_n 1) 23), (23, ev 3 .iaload 24 .null), (24, ev 0 (.iconst 1) 25 (.int 1)), (25, e0 .iadd 26), (26, e1 (.istore 4) 28), (28, ev 0 (.iconst 0) 29 (.int 0)), (29, e1 (.istore 5) 31), (31, e1 (.iload 5) 33), (33, ev 0 (.bipush 40) 35 (.int 40)), (35, er 2 (.if_icmp .ge 89) 38 124 0 0), (38, e1 (.iload 5) 40), (40, e1 (.aload_n 0) 41), (41, er 3 (.getfield 33) 44 6 4 0), (44, er 2 (.if_icmp .ge 80) 47 124 0 0), (47, e1 (.aload_n 0) 48), (48, er 3 (.getfield 37) 51 6 11 0), (51, e1 (.iload 5) 53), (53, ev 3 .iaload 54 .null), (54, e1 (.iload 4) 56), (56, er 2 (.if_icmp .ne 62) 59 118 0 0), (59, e1 (.aload_n 0) 60), (60, e1 (.iload 5) 62), (62, e1 (.iload_n 1) 63), (63, er 4 (.invokevirtual 58) 66 82 2 0), (66, e1 (.istore 6) 68), (68, e1 (.aload_n 0) 69), (69, e1 (.iload 5) 71)]
def cl_X5_sumFromAbove_1 : List (Nat × Ent) := [(71, er 4 (.invokevirtual 65) 74 80 1 0), (74, e1 (.istore 7) 76), (76, e1 (.iload 6) 78), (78, er 2 (.ifCond .le 40) 81 118 0 0), (81, e1 (.iload 7) 83), (83, er 2 (.ifCond .le 35) 86 118 0 0), (86, e1 (.aload_n 0) 87), (87, er 3 (.getfield 26) 90 6 8 0), (90, e1 (.iload 5) 92), (92, ev 3 .faload 93 .null), (93, e1 (.aload_n 0) 94), (94, e1 (.iload 5) 96), (96, e1 (.iload_n 2) 97), (97, ev 0 (.iconst 1) 98 (.int 1)), (98, e0 .iadd 99), (99, er 4 (.invokestatic 61) 102 31 3 1), (102, e0 .fadd 103), (103, e1 (.fstore 8) 105), (105, e1 (.fload_n 3) 106), (106, e1 (.fload 8) 108), (108, e1 (.iload 6) 110), (110, e0 .i2f 111), (111, e0 .fmul 112), (112, e1 (.iload 7) 114), (114, e0 .i2f 115), (115, e0 .fdiv 116), (116, e0 .fadd 117), (117, e1 (.fstore_n 3) 118), (118, ev 1 (.iinc 5 1) 121 (.int 1)), (121, er 2 (.goto (-90)) 124 31 0 0), (124, e1 (.fload_n 3) 125), (125, ev 9 .freturn 126 .null)]
def cd_X5_sumFromAbove (pc : Nat) : List (Nat × Ent) := bif Nat.blt pc 71 then (cl_X5_sumFromAbove_0) else (cl_X5_sumFromAbove_1)
def ca_X5_sumFromAbove : List (Nat × Ent) := cl_X5_sumFromAbove_0 ++ cl_X5_sumFromAbove_1
def cl_X5_firstOverloaded_0 : List (Nat × Ent) := [(0, ev 0 (.iconst 0) 1 (.int 0)), (1, e1 (.istore_n 2) 2), (2, e1 (.iload_n 2) 3), (3, ev 0 (.bipush 40) 5 (.int 40)), (5, er 2 (.if_icmp .ge 42) 8 47 0 0), (8, e1 (.iload_n 2) 9), (9, e1 (.aload_n 1) 10), (10, er 3 (.getfield 33) 13 6 4 0), (13, er 2 (.if_icmp .ge 34) 16 47 0 0), (16, e1 (.aload_n 1) 17), (17, e1 (.iload_n 2) 18), (18, er 4 (.invokevirtual 15) 21 70 1 0), (21, er 2 (.ifCond .eq 20) 24 41 0 0), (24, e1 (.aload_n 0) 25), (25, er 3 (.getfield 9) 28 3 0 0), (28, e1 (.iload_n 2) 29), (29, ev 3 .faload 30 .null), (30, e1 (.aload_n 1) 31), (31, e1 (.iload_n 2) 32), (32, er 4 (.invokestatic 69) 35 27 2 1), (35, e0 (.fcmp .l) 36), (36, er 2 (.ifCond .le 5) 39 41 0 0), (39, e1 (.iload_n 2) 40), (40, ev 9 .ireturn 41 .null), (41, ev 1 (.iinc 2 1) 44 (.int 1)), (44, er 2 (.goto (-42)) 47 2 0 0), (47, ev 0 (.iconst (-1)) 48 (.int (-1))), (48, ev 9 .ireturn 49 .null)]
def cd_X5_firstOverloaded (pc : Nat) : List (Nat × Ent) := cl_X5_firstOverloaded_0
def ca_X5_firstOverloaded : List (Nat × Ent) := cl_X5_firstOverloaded_0
def cl_X5_mostBurdened_0 : List (Nat × Ent) := [(0, ev 0 (.iconst (-1)) 1 (.int (-1))), (1, e1 (.istore_n 2) 2), (2, ev 0 (.fconst 0) 3 (.float 0)), (3, e1 (.fstore_n 3) 4), (4, ev 0 (.iconst 0) 5 (.int 0)), (5, e1 (.istore 4) 7), (7, e1 (.iload 4) 9), (9, ev 0 (.bipush 40) 11 (.int 40)), (11, er 2 (.if_icmp .ge 71) 14 82 0 0), (14, e1 (.iload 4) 16), (16, e1 (.aload_n 1) 17), (17, er 3 (.getfield 33) 20 6 4 0), (20, er 2 (.if_icmp .ge 62) 23 82 0 0), (23, e1 (.aload_n 1) 24), (24, e1 (.iload 4) 26), (26, er 4 (.invokestatic 69) 29 27 2 1), (29, e1 (.fstore 5) 31), (31, e1 (.aload_n 1) 32), (32, e1 (.iload 4) 34), (34, er 4 (.invokevirtual 15) 37 70 1 0), (37, er 2 (.ifCond .eq 39) 40 76 0 0), (40, e1 (.fload 5) 42), (42, ev 0 (.fconst 0) 43 (.float 0)), (43, e0 (.fcmp .l) 44), (44, er 2 (.ifCond .le 32) 47 76 0 0), (47, e1 (.aload_n 0) 48), (48, er 3 (.getfield 9) 51 3 0 0), (51, e1 (.iload 4) 53), (53, ev 3 .faload 54 .null), (54, e1 (.fload 5) 56), (56, e0 .fdiv 57), (57, e1 (.fstore 6) 59), (59, e1 (.iload_n 2) 60), (60, er 2 (.ifCond .lt 10) 63 70 0 0), (63, e1 (.fload 6) 65), (65, e1 (.fload_n 3) 66), (66, e0 (.fcmp .l) 67), (67, er 2 (.ifCond .le 9) 70 76 0 0), (70, e1 (.iload 4) 72), (72, e1 (.istore_n 2) 73)]
def cl_X5_mostBurdened_1 : List (Nat × Ent) := [(73, e1 (.fload 6) 75), (75, e1 (.fstore_n 3) 76), (76, ev 1 (.iinc 4 1) 79 (.int 1)), (79, er 2 (.goto (-72)) 82 7 0 0), (82, e1 (.iload_n 2) 83), (83, ev 9 .ireturn 84 .null)]
def cd_X5_mostBurdened (pc : Nat) : List (Nat × Ent) := bif Nat.blt pc 73 then (cl_X5_mostBurdened_0) else (cl_X5_mostBurdened_1)
def ca_X5_mostBurdened : List (Nat × Ent) := cl_X5_mostBurdened_0 ++ cl_X5_mostBurdened_1
def cl_X6_init_0 : List (Nat × Ent) := [(0, e1 (.aload_n 0) 1), (1, ev 7 (.invokespecial 3) 4 .null), (4, e1 (.aload_n 0) 5), (5, ev 0 (.bipush 60) 7 (.int 60)), (7, ev 7 (.newarray .char) 9 .null), (9, er 7 (.putfield 9) 12 4 0 0), (12, e1 (.aload_n 0) 13), (13, ev 0 (.bipush 60) 15 (.int 60)), (15, ev 7 (.newarray .char) 17 .null), (17, er 7 (.putfield 15) 20 4 1 0), (20, e1 (.aload_n 0) 21), (21, ev 0 (.bipush 60) 23 (.int 60)), (23, ev 7 (.newarray .int) 25 .null), (25, er 7 (.putfield 18) 28 4 2 0), (28, e1 (.aload_n 0) 29), (29, ev 0 (.bipush 60) 31 (.int 60)), (31, ev 7 (.newarray .int) 33 .null), (33, er 7 (.putfield 22) 36 4 3 0), (36, e1 (.aload_n 0) 37), (37, ev 0 (.bipush 60) 39 (.int 60)), (39, ev 7 (.newarray .int) 41 .null), (41, er 7 (.putfield 25) 44 4 4 0), (44, e1 (.aload_n 0) 45), (45, ev 0 (.iconst 0) 46 (.int 0)), (46, er 3 (.putfield 28) 49 4 5 0), (49, e1 (.aload_n 0) 50), (50, ev 0 (.iconst 0) 51 (.int 0)), (51, er 3 (.putfield 32) 54 4 6 0), (54, e1 (.aload_n 0) 55), (55, ev 0 (.iconst 0) 56 (.int 0)), (56, er 3 (.putfield 35) 59 4 7 0), (59, e1 (.aload_n 0) 60), (60, ev 0 (.iconst (-1)) 61 (.int (-1))), (61, er 3 (.putfield 38) 64 4 8 0), (64, ev 9 .return_ 65 .null)]
def cd_X6_init (pc : Nat) : List (Nat × Ent) := cl_X6_init_0
def ca_X6_init : List (Nat × Ent) := cl_X6_init_0
def cl_X6_hasSpace_0 : List (Nat × Ent) := [(0, e1 (.aload_n 0) 1), (1, er 3 (.getfield 28) 4 4 5 0), (4, er 2 (.ifCond .lt 16) 7 20 0 0), (7, e1 (.aload_n 0) 8), (8, er 3 (.getfield 28) 11 4 5 0), (11, ev 0 (.bipush 60) 13 (.int 60)), (13, er 2 (.if_icmp .ge 7) 16 20 0 0), (16, ev 0 (.iconst 1) 17 (.int 1)), (17, er 2 (.goto 4) 20 21 0 0), (20, ev 0 (.iconst 0) 21 (.int 0)), (21, ev 9 .ireturn 22 .null)]
def cd_X6_hasSpace (pc : Nat) : List (Nat × Ent) := cl_X6_hasSpace_0
def ca_X6_hasSpace : List (Nat × Ent) := cl_X6_hasSpace_0
def cl_X6_add_0 : List (Nat × Ent) := [(0, e1 (.aload_n 0) 1), (1, er 3 (.getfield 28) 4 4 5 0), (4, er 2 (.ifCond .lt 32) 7 36 0 0), (7, e1 (.aload_n 0) 8), (8, er 3 (.getfield 28) 11 4 5 0), (11, ev 0 (.bipush 60) 13 (.int 60)), (13, er 2 (.if_icmp .ge 23) 16 36 0 0), (16, e1 (.aload_n 0) 17), (17, er 3 (.getfield 9) 20 4 0 0), (20, e1 (.aload_n 0) 21), (21, er 3 (.getfield 28) 24 4 5 0), (24, e1 (.iload_n 1) 25), (25, ev 3 .castore 26 .null), (26, e1 (.aload_n 0) 27), (27, e0 .dup 28), (28, er 3 (.getfield 28) 31 4 5 0), (31, ev 0 (.iconst 1) 32 (.int 1)), (32, e0 .iadd 33), (33, er 3 (.putfield 28) 36 4 5 0), (36, ev 9 .return_ 37 .null)]
def cd_X6_add (pc : Nat) : List (Nat × Ent) := cl_X6_add_0
def ca_X6_add : List (Nat × Ent) := cl_X6_add_0
def cl_X6_empty_0 : List (Nat × Ent) := [(0, e1 (.aload_n 0) 1), (1, ev 0 (.iconst 0) 2 (.int 0)), (2, er 3 (.putfield 28) 5 4 5 0), (5, ev 9 .return_ 6 .null)]
def cd_X6_empty (pc : Nat) : List (Nat × Ent) := cl_X6_empty_0
def ca_X6_empty : List (Nat × Ent) := cl_X6_empty_0
def cl_X6_inputLength_0 : List (Nat × Ent) := [(0, e1 (.aload_n 0) 1), (1, er 3 (.getfield 28) 4 4 5 0), (4, ev 9 .ireturn 5 .null)]
def cd_X6_inputLength (pc : Nat) : List (Nat × Ent) := cl_X6_inputLength_0
def ca_X6_inputLength : List (Nat × Ent) := cl_X6_inputLength_0
def cl_X6_errorOffset_0 : List (Nat × Ent) := [(0, e1 (.aload_n 0) 1), (1, er 3 (.getfield 38) 4 4 8 0), (4, ev 9 .ireturn 5 .null)]
def cd_X6_errorOffset (pc : Nat) : List (Nat × Ent) := cl_X6_errorOffset_0
def ca_X6_errorOffset : List (Nat × Ent) := cl_X6_errorOffset_0
def cl_X6_number_0 : List (Nat × Ent) := [(0, e1 (.aload_n 0) 1), (1, er 3 (.getfield 35) 4 4 7 0), (4, ev 9 .ireturn 5 .null)]
def cd_X6_number (pc : Nat) : List (Nat × Ent) := cl_X6_number_0
def ca_X6_number : List (Nat × Ent) := cl_X6_number_0
def cl_X6_signOf_0 : List (Nat × Ent) := [(0, e1 (.iload_n 1) 1), (1, er 2 (.ifCond .lt 18) 4 19 0 0), (4, e1 (.iload_n 1) 5), (5, ev 0 (.bipush 60) 7 (.int 60)), (7, er 2 (.if_icmp .ge 12) 10 19 0 0), (10, e1 (.aload_n 0) 11), (11, er 3 (.getfield 15) 14 4 1 0), (14, e1 (.iload_n 1) 15), (15, ev 3 .caload 16 .null), (16, er 2 (.goto 5) 19 21 0 0), (19, ev 0 (.bipush 32) 21 (.int 32)), (21, ev 9 .ireturn 22 .null)]
def cd_X6_signOf (pc : Nat) : List (Nat × Ent) := cl_X6_signOf_0
def ca_X6_signOf : List (Nat × Ent) := cl_X6_signOf_0
def cl_X6_firstOf_0 : List (Nat × Ent) := [(0, e1 (.iload_n 1) 1), (1, er 2 (.ifCond .lt 18) 4 19 0 0), (4, e1 (.iload_n 1) 5), (5, ev 0 (.bipush 60) 7 (.int 60)), (7, er 2 (.if_icmp .ge 12) 10 19 0 0), (10, e1 (.aload_n 0) 11), (11, er 3 (.getfield 18) 14 4 2 0), (14, e1 (.iload_n 1) 15), (15, ev 3 .iaload 16 .null), (16, er 2 (.goto 4) 19 20 0 0), (19, ev 0 (.iconst 0) 20 (.int 0)), (20, ev 9 .ireturn 21 .null)]
def cd_X6_firstOf (pc : Nat) : List (Nat × Ent) := cl_X6_firstOf_0
def ca_X6_firstOf : List (Nat × Ent) := cl_X6_firstOf_0
def cl_X6_secondOf_0 : List (Nat × Ent) := [(0, e1 (.iload_n 1) 1), (1, er 2 (.ifCond .lt 18) 4 19 0 0), (4, e1 (.iload_n 1) 5), (5, ev 0 (.bipush 60) 7 (.int 60)), (7, er 2 (.if_icmp .ge 12) 10 19 0 0), (10, e1 (.aload_n 0) 11), (11, er 3 (.getfield 22) 14 4 3 0), (14, e1 (.iload_n 1) 15), (15, ev 3 .iaload 16 .null), (16, er 2 (.goto 4) 19 20 0 0), (19, ev 0 (.iconst 0) 20 (.int 0)), (20, ev 9 .ireturn 21 .null)]
def cd_X6_secondOf (pc : Nat) : List (Nat × Ent) := cl_X6_secondOf_0
def ca_X6_secondOf : List (Nat × Ent) := cl_X6_secondOf_0
def cl_X6_thirdOf_0 : List (Nat × Ent) := [(0, e1 (.iload_n 1) 1), (1, er 2 (.ifCond .lt 18) 4 19 0 0), (4, e1 (.iload_n 1) 5), (5, ev 0 (.bipush 60) 7 (.int 60)), (7, er 2 (.if_icmp .ge 12) 10 19 0 0), (10, e1 (.aload_n 0) 11), (11, er 3 (.getfield 25) 14 4 4 0), (14, e1 (.iload_n 1) 15), (15, ev 3 .iaload 16 .null), (16, er 2 (.goto 4) 19 20 0 0), (19, ev 0 (.iconst 0) 20 (.int 0)), (20, ev 9 .ireturn 21 .null)]
def cd_X6_thirdOf (pc : Nat) : List (Nat × Ent) := cl_X6_thirdOf_0
def ca_X6_thirdOf : List (Nat × Ent) := cl_X6_thirdOf_0
def cl_X6_understand_0 : List (Nat × Ent) := [(0, e1 (.aload_n 0) 1), (1, ev 0 (.iconst 0) 2 (.int 0)), (2, er 3 (.putfield 32) 5 4 6 0), (5, e1 (.aload_n 0) 6), (6, ev 0 (.iconst 0) 7 (.int 0)), (7, er 3 (.putfield 35) 10 4 7 0), (10, e1 (.aload_n 0) 11), (11, er 4 (.invokevirtual 41) 14 46 0 0), (14, e1 (.istore_n 1) 15), (15, ev 0 (.iconst 0) 16 (.int 0)), (16, e1 (.istore_n 2) 17), (17, e1 (.iload_n 2) 18), (18, ev 0 (.bipush 60) 20 (.int 60)), (20, er 2 (.if_icmp .ge 46) 23 66 0 0), (23, e1 (.iload_n 1) 24), (24, er 2 (.ifCond .eq 42) 27 66 0 0), (27, e1 (.aload_n 0) 28), (28, er 3 (.getfield 32) 31 4 6 0), (31, e1 (.aload_n 0) 32), (32, er 3 (.getfield 28) 35 4 5 0), (35, er 2 (.if_icmp .ge 31) 38 66 0 0), (38, e1 (.aload_n 0) 39), (39, ev 0 (.bipush 59) 41 (.int 59)), (41, er 4 (.invokevirtual 45) 44 52 1 0), (44, er 2 (.ifCond .eq 14) 47 58 0 0), (47, e1 (.aload_n 0) 48), (48, er 4 (.invokevirtual 41) 51 46 0 0), (51, er 2 (.ifCond .eq 7) 54 58 0 0), (54, ev 0 (.iconst 1) 55 (.int 1)), (55, er 2 (.goto 4) 58 59 0 0), (58, ev 0 (.iconst 0) 59 (.int 0)), (59, e1 (.istore_n 1) 60), (60, ev 1 (.iinc 2 1) 63 (.int 1)), (63, er 2 (.goto (-46)) 66 17 0 0), (66, e1 (.aload_n 0) 67), (67, e1 (.iload_n 1) 68), (68, er 2 (.ifCond .eq 7) 71 75 0 0), (71, ev 0 (.iconst (-1)) 72 (.int (-1))), (72, er 2 (.goto 7) 75 79 0 0), (75, e1 (.aload_n 0) 76)]
def cl_X6_understand_1 : List (Nat × Ent) := [(76, er 3 (.getfield 32) 79 4 6 0), (79, er 3 (.putfield 38) 82 4 8 0), (82, e1 (.iload_n 1) 83), (83, ev 9 .ireturn 84 .null)]
def cd_X6_understand (pc : Nat) : List (Nat × Ent) := bif Nat.blt pc 76 then (cl_X6_understand_0) else (cl_X6_understand_1)
def ca_X6_understand : List (Nat × Ent) := cl_X6_understand_0 ++ cl_X6_understand_1
def cl_X6_readOrder_0 : List (Nat × Ent) := [(0, e1 (.aload_n 0) 1), (1, ev 0 (.bipush 115) 3 (.int 115)), (3, er 4 (.invokevirtual 45) 6 52 1 0), (6, er 2 (.ifCond .eq 8) 9 14 0 0), (9, e1 (.aload_n 0) 10), (10, er 4 (.invokevirtual 49) 13 47 0 0), (13, ev 9 .ireturn 14 .null), (14, e1 (.aload_n 0) 15), (15, ev 0 (.bipush 108) 17 (.int 108)), (17, er 4 (.invokevirtual 45) 20 52 1 0), (20, er 2 (.ifCond .eq 8) 23 28 0 0), (23, e1 (.aload_n 0) 24), (24, er 4 (.invokevirtual 52) 27 48 0 0), (27, ev 9 .ireturn 28 .null), (28, e1 (.aload_n 0) 29), (29, ev 0 (.bipush 104) 31 (.int 104)), (31, er 4 (.invokevirtual 45) 34 52 1 0), (34, er 2 (.ifCond .eq 10) 37 44 0 0), (37, e1 (.aload_n 0) 38), (38, ev 0 (.bipush 104) 40 (.int 104)), (40, er 4 (.invokevirtual 55) 43 49 1 0), (43, ev 9 .ireturn 44 .null), (44, e1 (.aload_n 0) 45), (45, ev 0 (.bipush 118) 47 (.int 118)), (47, er 4 (.invokevirtual 45) 50 52 1 0), (50, er 2 (.ifCond .eq 10) 53 60 0 0), (53, e1 (.aload_n 0) 54), (54, ev 0 (.bipush 118) 56 (.int 118)), (56, er 4 (.invokevirtual 55) 59 49 1 0), (59, ev 9 .ireturn 60 .null), (60, e1 (.aload_n 0) 61), (61, ev 0 (.bipush 116) 63 (.int 116)), (63, er 4 (.invokevirtual 45) 66 52 1 0), (66, er 2 (.ifCond .eq 14) 69 80 0 0), (69, e1 (.aload_n 0) 70), (70, er 4 (.invokevirtual 58) 73 50 0 0), (73, er 2 (.ifCond .eq 7) 76 80 0 0), (76, ev 0 (.iconst 1) 77 (.int 1)), (77, er 2 (.goto 4) 80 81 0 0), (80, ev 0 (.iconst 0) 81 (.int 0))]
def cl_X6_readOrder_1 : List (Nat × Ent) := [(81, ev 9 .ireturn 82 .null)]
def cd_X6_readOrder (pc : Nat) : List (Nat × Ent) := bif Nat.blt pc 81 then (cl_X6_readOrder_0) else (cl_X6_readOrder_1)
def ca_X6_readOrder : List (Nat × Ent) := cl_X6_readOrder_0 ++ cl_X6_readOrder_1
def cl_X6_readSawing_0 : List (Nat × Ent) := [(0, e1 (.aload_n 0) 1), (1, ev 0 (.iconst 1) 2 (.int 1)), (2, er 4 (.invokevirtual 61) 5 53 1 0), (5, e1 (.istore_n 1) 6), (6, e1 (.iload_n 1) 7), (7, er 2 (.ifCond .ge 7) 10 14 0 0), (10, ev 0 (.iconst (-1)) 11 (.int (-1))), (11, er 2 (.goto 8) 14 19 0 0), (14, e1 (.aload_n 0) 15), (15, ev 0 (.iconst 1) 16 (.int 1)), (16, er 4 (.invokevirtual 61) 19 53 1 0), (19, e1 (.istore_n 2) 20), (20, e1 (.iload_n 2) 21), (21, er 2 (.ifCond .lt 12) 24 33 0 0), (24, e1 (.aload_n 0) 25), (25, ev 0 (.bipush 64) 27 (.int 64)), (27, er 4 (.invokevirtual 45) 30 52 1 0), (30, er 2 (.ifCond .ne 5) 33 35 0 0), (33, ev 0 (.iconst 0) 34 (.int 0)), (34, ev 9 .ireturn 35 .null), (35, e1 (.aload_n 0) 36), (36, ev 0 (.iconst 1) 37 (.int 1)), (37, er 4 (.invokevirtual 61) 40 53 1 0), (40, e1 (.istore_n 3) 41), (41, e1 (.iload_n 3) 42), (42, er 2 (.ifCond .lt 19) 45 61 0 0), (45, e1 (.aload_n 0) 46), (46, ev 0 (.bipush 115) 48 (.int 115)), (48, e1 (.iload_n 1) 49), (49, e1 (.iload_n 2) 50), (50, e1 (.iload_n 3) 51), (51, er 4 (.invokevirtual 65) 54 51 4 0), (54, er 2 (.ifCond .eq 7) 57 61 0 0), (57, ev 0 (.iconst 1) 58 (.int 1)), (58, er 2 (.goto 4) 61 62 0 0), (61, ev 0 (.iconst 0) 62 (.int 0)), (62, ev 9 .ireturn 63 .null)]
def cd_X6_readSawing (pc : Nat) : List (Nat × Ent) := cl_X6_readSawing_0
def ca_X6_readSawing : List (Nat × Ent) := cl_X6_readSawing_0
def cl_X6_readLaying_0 : List (Nat × Ent) := [(0, e1 (.aload_n 0) 1), (1, ev 0 (.iconst 2) 2 (.int 2)), (2, er 4 (.invokevirtual 61) 5 53 1 0), (5, e1 (.istore_n 1) 6), (6, e1 (.iload_n 1) 7), (7, er 2 (.ifCond .lt 12) 10 19 0 0), (10, e1 (.aload_n 0) 11), (11, ev 0 (.bipush 64) 13 (.int 64)), (13, er 4 (.invokevirtual 45) 16 52 1 0), (16, er 2 (.ifCond .ne 5) 19 21 0 0), (19, ev 0 (.iconst 0) 20 (.int 0)), (20, ev 9 .ireturn 21 .null), (21, e1 (.aload_n 0) 22), (22, ev 0 (.iconst 2) 23 (.int 2)), (23, er 4 (.invokevirtual 61) 26 53 1 0), (26, e1 (.istore_n 2) 27), (27, e1 (.iload_n 2) 28), (28, er 2 (.ifCond .lt 12) 31 40 0 0), (31, e1 (.aload_n 0) 32), (32, ev 0 (.bipush 47) 34 (.int 47)), (34, er 4 (.invokevirtual 45) 37 52 1 0), (37, er 2 (.ifCond .ne 5) 40 42 0 0), (40, ev 0 (.iconst 0) 41 (.int 0)), (41, ev 9 .ireturn 42 .null), (42, e1 (.aload_n 0) 43), (43, ev 0 (.iconst 1) 44 (.int 1)), (44, er 4 (.invokevirtual 61) 47 53 1 0), (47, e1 (.istore_n 3) 48), (48, e1 (.iload_n 3) 49), (49, er 2 (.ifCond .lt 19) 52 68 0 0), (52, e1 (.aload_n 0) 53), (53, ev 0 (.bipush 108) 55 (.int 108)), (55, e1 (.iload_n 1) 56), (56, e1 (.iload_n 2) 57), (57, e1 (.iload_n 3) 58), (58, er 4 (.invokevirtual 65) 61 51 4 0), (61, er 2 (.ifCond .eq 7) 64 68 0 0), (64, ev 0 (.iconst 1) 65 (.int 1)), (65, er 2 (.goto 4) 68 69 0 0), (68, ev 0 (.iconst 0) 69 (.int 0))]
def cl_X6_readLaying_1 : List (Nat × Ent) := [(69, ev 9 .ireturn 70 .null)]
def cd_X6_readLaying (pc : Nat) : List (Nat × Ent) := bif Nat.blt pc 69 then (cl_X6_readLaying_0) else (cl_X6_readLaying_1)
def ca_X6_readLaying : List (Nat × Ent) := cl_X6_readLaying_0 ++ cl_X6_readLaying_1
def cl_X6_readNumber_0 : List (Nat × Ent) := [(0, e1 (.aload_n 0) 1), (1, ev 0 (.iconst 2) 2 (.int 2)), (2, er 4 (.invokevirtual 61) 5 53 1 0), (5, e1 (.istore_n 2) 6), (6, e1 (.iload_n 2) 7), (7, er 2 (.ifCond .lt 18) 10 25 0 0), (10, e1 (.aload_n 0) 11), (11, e1 (.iload_n 1) 12), (12, e1 (.iload_n 2) 13), (13, ev 0 (.iconst 0) 14 (.int 0)), (14, ev 0 (.iconst 0) 15 (.int 0)), (15, er 4 (.invokevirtual 65) 18 51 4 0), (18, er 2 (.ifCond .eq 7) 21 25 0 0), (21, ev 0 (.iconst 1) 22 (.int 1)), (22, er 2 (.goto 4) 25 26 0 0), (25, ev 0 (.iconst 0) 26 (.int 0)), (26, ev 9 .ireturn 27 .null)]
def cd_X6_readNumber (pc : Nat) : List (Nat × Ent) := cl_X6_readNumber_0
def ca_X6_readNumber : List (Nat × Ent) := cl_X6_readNumber_0
def cl_X6_readTemperature_0 : List (Nat × Ent) := [(0, e1 (.aload_n 0) 1), (1, ev 0 (.iconst 2) 2 (.int 2)), (2, er 4 (.invokevirtual 61) 5 53 1 0), (5, e1 (.istore_n 1) 6), (6, e1 (.iload_n 1) 7), (7, er 2 (.ifCond .lt 12) 10 19 0 0), (10, e1 (.aload_n 0) 11), (11, ev 0 (.bipush 61) 13 (.int 61)), (13, er 4 (.invokevirtual 45) 16 52 1 0), (16, er 2 (.ifCond .ne 5) 19 21 0 0), (19, ev 0 (.iconst 0) 20 (.int 0)), (20, ev 9 .ireturn 21 .null), (21, e1 (.aload_n 0) 22), (22, ev 0 (.bipush 45) 24 (.int 45)), (24, er 4 (.invokevirtual 45) 27 52 1 0), (27, e1 (.istore_n 2) 28), (28, e1 (.aload_n 0) 29), (29, ev 0 (.iconst 2) 30 (.int 2)), (30, er 4 (.invokevirtual 61) 33 53 1 0), (33, e1 (.istore_n 3) 34), (34, e1 (.iload_n 3) 35), (35, er 2 (.ifCond .lt 28) 38 63 0 0), (38, e1 (.aload_n 0) 39), (39, ev 0 (.bipush 116) 41 (.int 116)), (41, e1 (.iload_n 1) 42), (42, e1 (.iload_n 2) 43), (43, er 2 (.ifCond .eq 8) 46 51 0 0), (46, e1 (.iload_n 3) 47), (47, e0 .ineg 48), (48, er 2 (.goto 4) 51 52 0 0), (51, e1 (.iload_n 3) 52), (52, ev 0 (.iconst 0) 53 (.int 0)), (53, er 4 (.invokevirtual 65) 56 51 4 0), (56, er 2 (.ifCond .eq 7) 59 63 0 0), (59, ev 0 (.iconst 1) 60 (.int 1)), (60, er 2 (.goto 4) 63 64 0 0), (63, ev 0 (.iconst 0) 64 (.int 0)), (64, ev 9 .ireturn 65 .null)]
def cd_X6_readTemperature (pc : Nat) : List (Nat × Ent) := cl_X6_readTemperature_0
def ca_X6_readTemperature : List (Nat × Ent) := cl_X6_readTemperature_0
def cl_X6_note_0 : List (Nat × Ent) := [(0, e1 (.aload_n 0) 1), (1, er 3 (.getfield 35) 4 4 7 0), (4, er 2 (.ifCond .lt 12) 7 16 0 0), (7, e1 (.aload_n 0) 8), (8, er 3 (.getfield 35) 11 4 7 0), (11, ev 0 (.bipush 60) 13 (.int 60)), (13, er 2 (.if_icmp .lt 5) 16 18 0 0), (16, ev 0 (.iconst 0) 17 (.int 0)), (17, ev 9 .ireturn 18 .null), (18, e1 (.aload_n 0) 19), (19, er 3 (.getfield 15) 22 4 1 0), (22, e1 (.aload_n 0) 23), (23, er 3 (.getfield 35) 26 4 7 0), (26, e1 (.iload_n 1) 27), (27, ev 3 .castore 28 .null), (28, e1 (.aload_n 0) 29), (29, er 3 (.getfield 18) 32 4 2 0), (32, e1 (.aload_n 0) 33), (33, er 3 (.getfield 35) 36 4 7 0), (36, e1 (.iload_n 2) 37), (37, ev 3 .iastore 38 .null), (38, e1 (.aload_n 0) 39), (39, er 3 (.getfield 22) 42 4 3 0), (42, e1 (.aload_n 0) 43), (43, er 3 (.getfield 35) 46 4 7 0), (46, e1 (.iload_n 3) 47), (47, ev 3 .iastore 48 .null), (48, e1 (.aload_n 0) 49), (49, er 3 (.getfield 25) 52 4 4 0), (52, e1 (.aload_n 0) 53), (53, er 3 (.getfield 35) 56 4 7 0), (56, e1 (.iload 4) 58), (58, ev 3 .iastore 59 .null), (59, e1 (.aload_n 0) 60), (60, e0 .dup 61), (61, er 3 (.getfield 35) 64 4 7 0), (64, ev 0 (.iconst 1) 65 (.int 1)), (65, e0 .iadd 66), (66, er 3 (.putfield 35) 69 4 7 0), (69, ev 0 (.iconst 1) 70 (.int 1))]
def cl_X6_note_1 : List (Nat × Ent) := [(70, ev 9 .ireturn 71 .null)]
def cd_X6_note (pc : Nat) : List (Nat × Ent) := bif Nat.blt pc 70 then (cl_X6_note_0) else (cl_X6_note_1)
def ca_X6_note : List (Nat × Ent) := cl_X6_note_0 ++ cl_X6_note_1
def cl_X6_goPast_0 : List (Nat × Ent) := [(0, e1 (.aload_n 0) 1), (1, er 3 (.getfield 32) 4 4 6 0), (4, er 2 (.ifCond .lt 36) 7 40 0 0), (7, e1 (.aload_n 0) 8), (8, er 3 (.getfield 32) 11 4 6 0), (11, e1 (.aload_n 0) 12), (12, er 3 (.getfield 28) 15 4 5 0), (15, er 2 (.if_icmp .ge 25) 18 40 0 0), (18, e1 (.aload_n 0) 19), (19, er 3 (.getfield 32) 22 4 6 0), (22, ev 0 (.bipush 60) 24 (.int 60)), (24, er 2 (.if_icmp .ge 16) 27 40 0 0), (27, e1 (.aload_n 0) 28), (28, er 3 (.getfield 9) 31 4 0 0), (31, e1 (.aload_n 0) 32), (32, er 3 (.getfield 32) 35 4 6 0), (35, ev 3 .caload 36 .null), (36, e1 (.iload_n 1) 37), (37, er 2 (.if_icmp .eq 5) 40 42 0 0), (40, ev 0 (.iconst 0) 41 (.int 0)), (41, ev 9 .ireturn 42 .null), (42, e1 (.aload_n 0) 43), (43, e0 .dup 44), (44, er 3 (.getfield 32) 47 4 6 0), (47, ev 0 (.iconst 1) 48 (.int 1)), (48, e0 .iadd 49), (49, er 3 (.putfield 32) 52 4 6 0), (52, ev 0 (.iconst 1) 53 (.int 1)), (53, ev 9 .ireturn 54 .null)]
def cd_X6_goPast (pc : Nat) : List (Nat × Ent) := cl_X6_goPast_0
def ca_X6_goPast : List (Nat × Ent) := cl_X6_goPast_0
def cl_X6_digits_0 : List (Nat × Ent) := [(0, ev 0 (.iconst (-1)) 1 (.int (-1))), (1, e1 (.istore_n 2) 2), (2, ev 0 (.iconst 0) 3 (.int 0)), (3, e1 (.istore_n 3) 4), (4, e1 (.iload_n 3) 5), (5, e1 (.iload_n 1) 6), (6, er 2 (.if_icmp .ge 90) 9 96 0 0), (9, e1 (.aload_n 0) 10), (10, er 3 (.getfield 32) 13 4 6 0), (13, er 2 (.ifCond .lt 23) 16 36 0 0), (16, e1 (.aload_n 0) 17), (17, er 3 (.getfield 32) 20 4 6 0), (20, e1 (.aload_n 0) 21), (21, er 3 (.getfield 28) 24 4 5 0), (24, er 2 (.if_icmp .ge 12) 27 36 0 0), (27, e1 (.aload_n 0) 28), (28, er 3 (.getfield 32) 31 4 6 0), (31, ev 0 (.bipush 60) 33 (.int 60)), (33, er 2 (.if_icmp .lt 5) 36 38 0 0), (36, e1 (.iload_n 2) 37), (37, ev 9 .ireturn 38 .null), (38, e1 (.aload_n 0) 39), (39, er 3 (.getfield 9) 42 4 0 0), (42, e1 (.aload_n 0) 43), (43, er 3 (.getfield 32) 46 4 6 0), (46, ev 3 .caload 47 .null), (47, e1 (.istore 4) 49), (49, e1 (.iload 4) 51), (51, ev 0 (.bipush 48) 53 (.int 48)), (53, er 2 (.if_icmp .lt 10) 56 63 0 0), (56, e1 (.iload 4) 58), (58, ev 0 (.bipush 57) 60 (.int 57)), (60, er 2 (.if_icmp .le 5) 63 65 0 0), (63, e1 (.iload_n 2) 64), (64, ev 9 .ireturn 65 .null), (65, e1 (.iload_n 2) 66), (66, ev 0 (.iconst 0) 67 (.int 0)), (67, er 5 (.invokestatic 69) 70 0 2 2), (70, ev 0 (.bipush 10) 72 (.int 10)), (72, e0 .imul 73)]
def cl_X6_digits_1 : List (Nat × Ent) := [(73, e1 (.iload 4) 75), (75, ev 0 (.bipush 48) 77 (.int 48)), (77, e0 .isub 78), (78, e0 .iadd 79), (79, e1 (.istore_n 2) 80), (80, e1 (.aload_n 0) 81), (81, e0 .dup 82), (82, er 3 (.getfield 32) 85 4 6 0), (85, ev 0 (.iconst 1) 86 (.int 1)), (86, e0 .iadd 87), (87, er 3 (.putfield 32) 90 4 6 0), (90, ev 1 (.iinc 3 1) 93 (.int 1)), (93, er 2 (.goto (-89)) 96 4 0 0), (96, e1 (.iload_n 2) 97), (97, ev 9 .ireturn 98 .null)]
def cd_X6_digits (pc : Nat) : List (Nat × Ent) := bif Nat.blt pc 73 then (cl_X6_digits_0) else (cl_X6_digits_1)
def ca_X6_digits : List (Nat × Ent) := cl_X6_digits_0 ++ cl_X6_digits_1
def cl_X7_init_0 : List (Nat × Ent) := [(0, e1 (.aload_n 0) 1), (1, ev 7 (.invokespecial 3) 4 .null), (4, e1 (.aload_n 0) 5), (5, ev 0 (.bipush 12) 7 (.int 12)), (7, ev 7 (.newarray .int) 9 .null), (9, er 7 (.putfield 9) 12 5 0 0), (12, ev 9 .return_ 13 .null)]
def cd_X7_init (pc : Nat) : List (Nat × Ent) := cl_X7_init_0
def ca_X7_init : List (Nat × Ent) := cl_X7_init_0
def cl_X7_heightOf_0 : List (Nat × Ent) := [(0, ev 0 (.bipush 7) 2 (.int 7)), (2, e1 (.istore_n 2) 3), (3, e1 (.iload_n 2) 4), (4, er 2 (.ifCond .lt 22) 7 26 0 0), (7, e1 (.aload_n 0) 8), (8, e1 (.iload_n 1) 9), (9, e1 (.iload_n 2) 10), (10, er 4 (.invokevirtual 15) 13 76 2 0), (13, er 2 (.ifCond .lt 7) 16 20 0 0), (16, e1 (.iload_n 2) 17), (17, ev 0 (.iconst 1) 18 (.int 1)), (18, e0 .iadd 19), (19, ev 9 .ireturn 20 .null), (20, ev 1 (.iinc 2 (-1)) 23 (.int (-1))), (23, er 2 (.goto (-20)) 26 3 0 0), (26, ev 0 (.iconst 0) 27 (.int 0)), (27, ev 9 .ireturn 28 .null)]
def cd_X7_heightOf (pc : Nat) : List (Nat × Ent) := cl_X7_heightOf_0
def ca_X7_heightOf : List (Nat × Ent) := cl_X7_heightOf_0
def cl_X7_measure_0 : List (Nat × Ent) := [(0, ev 0 (.iconst 0) 1 (.int 0)), (1, e1 (.istore_n 2) 2), (2, e1 (.iload_n 2) 3), (3, ev 0 (.bipush 12) 5 (.int 12)), (5, er 2 (.if_icmp .ge 20) 8 25 0 0), (8, e1 (.aload_n 0) 9), (9, er 3 (.getfield 9) 12 5 0 0), (12, e1 (.iload_n 2) 13), (13, e1 (.aload_n 1) 14), (14, e1 (.iload_n 2) 15), (15, er 4 (.invokestatic 21) 18 55 2 1), (18, ev 3 .iastore 19 .null), (19, ev 1 (.iinc 2 1) 22 (.int 1)), (22, er 2 (.goto (-20)) 25 2 0 0), (25, ev 9 .return_ 26 .null)]
def cd_X7_measure (pc : Nat) : List (Nat × Ent) := cl_X7_measure_0
def ca_X7_measure : List (Nat × Ent) := cl_X7_measure_0
def cl_X7_isInShadow_0 : List (Nat × Ent) := [(0, e1 (.iload_n 3) 1), (1, ev 0 (.bipush 6) 3 (.int 6)), (3, er 2 (.if_icmp .lt 17) 6 20 0 0), (6, e1 (.iload_n 3) 7), (7, ev 0 (.bipush 17) 9 (.int 17)), (9, er 2 (.if_icmp .gt 11) 12 20 0 0), (12, e1 (.aload_n 1) 13), (13, e1 (.iload_n 2) 14), (14, er 4 (.invokevirtual 25) 17 70 1 0), (17, er 2 (.ifCond .ne 5) 20 22 0 0), (20, ev 0 (.iconst 1) 21 (.int 1)), (21, ev 9 .ireturn 22 .null), (22, e1 (.aload_n 1) 23), (23, er 3 (.getfield 29) 26 6 11 0), (26, e1 (.iload_n 2) 27), (27, ev 3 .iaload 28 .null), (28, e1 (.istore 4) 30), (30, e1 (.aload_n 1) 31), (31, er 3 (.getfield 32) 34 6 10 0), (34, e1 (.iload_n 2) 35), (35, ev 3 .iaload 36 .null), (36, e1 (.istore 5) 38), (38, e1 (.iload_n 3) 39), (39, ev 0 (.bipush 12) 41 (.int 12)), (41, er 2 (.if_icmp .ge 14) 44 55 0 0), (44, e1 (.aload_n 0) 45), (45, e1 (.iload 5) 47), (47, e1 (.iload 4) 49), (49, er 4 (.invokevirtual 35) 52 58 2 0), (52, er 2 (.goto 20) 55 72 0 0), (55, e1 (.aload_n 0) 56), (56, e1 (.iload 5) 58), (58, e1 (.aload_n 1) 59), (59, er 3 (.getfield 39) 62 6 7 0), (62, e1 (.iload_n 2) 63), (63, ev 3 .iaload 64 .null), (64, e0 .iadd 65), (65, ev 0 (.iconst 1) 66 (.int 1)), (66, e0 .isub 67), (67, e1 (.iload 4) 69)]
def cl_X7_isInShadow_1 : List (Nat × Ent) := [(69, er 4 (.invokevirtual 42) 72 59 2 0), (72, ev 9 .ireturn 73 .null)]
def cd_X7_isInShadow (pc : Nat) : List (Nat × Ent) := bif Nat.blt pc 69 then (cl_X7_isInShadow_0) else (cl_X7_isInShadow_1)
def ca_X7_isInShadow : List (Nat × Ent) := cl_X7_isInShadow_0 ++ cl_X7_isInShadow_1
def cl_X7_isShadedFromLeft_0 : List (Nat × Ent) := [(0, ev 0 (.iconst 0) 1 (.int 0)), (1, e1 (.istore_n 3) 2), (2, e1 (.iload_n 3) 3), (3, e1 (.iload_n 1) 4), (4, er 2 (.if_icmp .ge 33) 7 37 0 0), (7, e1 (.iload_n 3) 8), (8, ev 0 (.bipush 12) 10 (.int 12)), (10, er 2 (.if_icmp .ge 27) 13 37 0 0), (13, e1 (.aload_n 0) 14), (14, er 3 (.getfield 9) 17 5 0 0), (17, e1 (.iload_n 3) 18), (18, ev 3 .iaload 19 .null), (19, e1 (.iload_n 2) 20), (20, e1 (.iload_n 1) 21), (21, e1 (.iload_n 3) 22), (22, e0 .isub 23), (23, e0 .iadd 24), (24, ev 0 (.iconst 1) 25 (.int 1)), (25, e0 .iadd 26), (26, er 2 (.if_icmp .lt 5) 29 31 0 0), (29, ev 0 (.iconst 1) 30 (.int 1)), (30, ev 9 .ireturn 31 .null), (31, ev 1 (.iinc 3 1) 34 (.int 1)), (34, er 2 (.goto (-32)) 37 2 0 0), (37, ev 0 (.iconst 0) 38 (.int 0)), (38, ev 9 .ireturn 39 .null)]
def cd_X7_isShadedFromLeft (pc : Nat) : List (Nat × Ent) := cl_X7_isShadedFromLeft_0
def ca_X7_isShadedFromLeft : List (Nat × Ent) := cl_X7_isShadedFromLeft_0
def cl_X7_isShadedFromRight_0 : List (Nat × Ent) := [(0, ev 0 (.bipush 11) 2 (.int 11)), (2, e1 (.istore_n 3) 3), (3, e1 (.iload_n 3) 4), (4, e1 (.iload_n 1) 5), (5, er 2 (.if_icmp .le 31) 8 36 0 0), (8, e1 (.iload_n 3) 9), (9, er 2 (.ifCond .lt 27) 12 36 0 0), (12, e1 (.aload_n 0) 13), (13, er 3 (.getfield 9) 16 5 0 0), (16, e1 (.iload_n 3) 17), (17, ev 3 .iaload 18 .null), (18, e1 (.iload_n 2) 19), (19, e1 (.iload_n 3) 20), (20, e1 (.iload_n 1) 21), (21, e0 .isub 22), (22, e0 .iadd 23), (23, ev 0 (.iconst 1) 24 (.int 1)), (24, e0 .iadd 25), (25, er 2 (.if_icmp .lt 5) 28 30 0 0), (28, ev 0 (.iconst 1) 29 (.int 1)), (29, ev 9 .ireturn 30 .null), (30, ev 1 (.iinc 3 (-1)) 33 (.int (-1))), (33, er 2 (.goto (-30)) 36 3 0 0), (36, ev 0 (.iconst 0) 37 (.int 0)), (37, ev 9 .ireturn 38 .null)]
def cd_X7_isShadedFromRight (pc : Nat) : List (Nat × Ent) := cl_X7_isShadedFromRight_0
def ca_X7_isShadedFromRight : List (Nat × Ent) := cl_X7_isShadedFromRight_0
def cl_X7_roomNumber_0 : List (Nat × Ent) := [(0, ev 0 (.iconst 0) 1 (.int 0)), (1, e1 (.istore_n 3) 2), (2, ev 0 (.iconst 0) 3 (.int 0)), (3, e1 (.istore 4) 5), (5, ev 0 (.iconst (-1)) 6 (.int (-1))), (6, e1 (.istore 5) 8), (8, ev 0 (.iconst (-1)) 9 (.int (-1))), (9, e1 (.istore 6) 11), (11, ev 0 (.iconst 1) 12 (.int 1)), (12, e1 (.istore 7) 14), (14, ev 0 (.iconst 0) 15 (.int 0)), (15, e1 (.istore 8) 17), (17, e1 (.iload 8) 19), (19, ev 0 (.bipush 12) 21 (.int 12)), (21, er 2 (.if_icmp .ge 95) 24 116 0 0), (24, e1 (.aload_n 0) 25), (25, e1 (.iload 8) 27), (27, e1 (.iload_n 1) 28), (28, er 4 (.invokevirtual 15) 31 76 2 0), (31, er 2 (.ifCond .ge 30) 34 61 0 0), (34, e1 (.iload 7) 36), (36, er 2 (.ifCond .eq 19) 39 55 0 0), (39, e1 (.aload_n 0) 40), (40, e1 (.iload 8) 42), (42, e1 (.iload_n 1) 43), (43, ev 0 (.iconst 1) 44 (.int 1)), (44, e0 .iadd 45), (45, er 4 (.invokevirtual 15) 48 76 2 0), (48, er 2 (.ifCond .lt 7) 51 55 0 0), (51, ev 0 (.iconst 1) 52 (.int 1)), (52, er 2 (.goto 4) 55 56 0 0), (55, ev 0 (.iconst 0) 56 (.int 0)), (56, e1 (.istore 7) 58), (58, er 2 (.goto 52) 61 110 0 0), (61, e1 (.iload 8) 63), (63, e1 (.iload 6) 65), (65, e0 .isub 66), (66, e1 (.istore 9) 68), (68, e1 (.iload 6) 70), (70, er 2 (.ifCond .lt 31) 73 101 0 0)]
def cl_X7_roomNumber_1 : List (Nat × Ent) := [(73, e1 (.iload 9) 75), (75, er 2 (.ifCond .le 26) 78 101 0 0), (78, e1 (.iload 7) 80), (80, er 2 (.ifCond .eq 21) 83 101 0 0), (83, ev 1 (.iinc 3 1) 86 (.int 1)), (86, e1 (.iload 9) 88), (88, e1 (.iload 4) 90), (90, er 2 (.if_icmp .le 11) 93 101 0 0), (93, e1 (.iload 9) 95), (95, e1 (.istore 4) 97), (97, e1 (.iload 6) 99), (99, e1 (.istore 5) 101), (101, e1 (.iload 8) 103), (103, ev 0 (.iconst 1) 104 (.int 1)), (104, e0 .iadd 105), (105, e1 (.istore 6) 107), (107, ev 0 (.iconst 1) 108 (.int 1)), (108, e1 (.istore 7) 110), (110, ev 1 (.iinc 8 1) 113 (.int 1)), (113, er 2 (.goto (-96)) 116 17 0 0), (116, e1 (.iload_n 2) 117), (117, er 2 (.ifCond .ne 7) 120 124 0 0), (120, e1 (.iload_n 3) 121), (121, er 2 (.goto 15) 124 136 0 0), (124, e1 (.iload_n 2) 125), (125, ev 0 (.iconst 1) 126 (.int 1)), (126, er 2 (.if_icmp .ne 8) 129 134 0 0), (129, e1 (.iload 4) 131), (131, er 2 (.goto 5) 134 136 0 0), (134, e1 (.iload 5) 136), (136, ev 9 .ireturn 137 .null)]
def cd_X7_roomNumber (pc : Nat) : List (Nat × Ent) := bif Nat.blt pc 73 then (cl_X7_roomNumber_0) else (cl_X7_roomNumber_1)
def ca_X7_roomNumber : List (Nat × Ent) := cl_X7_roomNumber_0 ++ cl_X7_roomNumber_1
def cl_X8_init_0 : List (Nat × Ent) := [(0, e1 (.aload_n 0) 1), (1, ev 7 (.invokespecial 3) 4 .null), (4, e1 (.aload_n 0) 5), (5, ev 0 (.iconst 0) 6 (.int 0)), (6, er 3 (.putfield 9) 9 6 0 0), (9, e1 (.aload_n 0) 10), (10, ev 0 (.bipush 20) 12 (.int 20)), (12, er 3 (.putfield 15) 15 6 1 0), (15, e1 (.aload_n 0) 16), (16, ev 0 (.sipush 200) 19 (.int 200)), (19, er 3 (.putfield 18) 22 6 2 0), (22, e1 (.aload_n 0) 23), (23, ev 0 (.iconst 0) 24 (.int 0)), (24, er 3 (.putfield 21) 27 6 3 0), (27, e1 (.aload_n 0) 28), (28, ev 0 (.iconst 0) 29 (.int 0)), (29, er 3 (.putfield 24) 32 6 4 0), (32, e1 (.aload_n 0) 33), (33, ev 0 (.bipush 24) 35 (.int 24)), (35, ev 7 (.newarray .int) 37 .null), (37, er 7 (.putfield 27) 40 6 5 0), (40, e1 (.aload_n 0) 41), (41, ev 0 (.bipush 40) 43 (.int 40)), (43, ev 7 (.newarray .int) 45 .null), (45, er 7 (.putfield 31) 48 6 6 0), (48, e1 (.aload_n 0) 49), (49, ev 0 (.bipush 40) 51 (.int 40)), (51, ev 7 (.newarray .int) 53 .null), (53, er 7 (.putfield 34) 56 6 7 0), (56, e1 (.aload_n 0) 57), (57, ev 0 (.bipush 40) 59 (.int 40)), (59, ev 7 (.newarray .float) 61 .null), (61, er 7 (.putfield 37) 64 6 8 0), (64, e1 (.aload_n 0) 65), (65, ev 0 (.bipush 40) 67 (.int 40)), (67, ev 7 (.newarray .int) 69 .null), (69, er 7 (.putfield 41) 72 6 9 0), (72, e1 (.aload_n 0) 73), (73, ev 0 (.bipush 40) 75 (.int 40)), (75, ev 7 (.newarray .int) 77 .null)]
def cl_X8_init_1 : List (Nat × Ent) := [(77, er 7 (.putfield 44) 80 6 10 0), (80, e1 (.aload_n 0) 81), (81, ev 0 (.bipush 40) 83 (.int 40)), (83, ev 7 (.newarray .int) 85 .null), (85, er 7 (.putfield 47) 88 6 11 0), (88, e1 (.aload_n 0) 89), (89, ev 0 (.bipush 40) 91 (.int 40)), (91, ev 7 (.newarray .int) 93 .null), (93, er 7 (.putfield 50) 96 6 12 0), (96, e1 (.aload_n 0) 97), (97, ev 0 (.bipush 40) 99 (.int 40)), (99, ev 7 (.newarray .int) 101 .null), (101, er 7 (.putfield 53) 104 6 13 0), (104, e1 (.aload_n 0) 105), (105, ev 0 (.bipush 40) 107 (.int 40)), (107, ev 7 (.newarray .int) 109 .null), (109, er 7 (.putfield 56) 112 6 14 0), (112, e1 (.aload_n 0) 113), (113, ev 0 (.bipush 96) 115 (.int 96)), (115, ev 7 (.newarray .int) 117 .null), (117, er 7 (.putfield 59) 120 6 15 0), (120, e1 (.aload_n 0) 121), (121, ev 0 (.bipush 10) 123 (.int 10)), (123, ev 7 (.newarray .int) 125 .null), (125, er 7 (.putfield 62) 128 6 16 0), (128, e1 (.aload_n 0) 129), (129, er 3 (.getfield 27) 132 6 5 0), (132, ev 0 (.bipush (-5)) 134 (.int (-5))), (134, er 4 (.invokestatic 65) 137 62 2 1), (137, e1 (.aload_n 0) 138), (138, er 3 (.getfield 41) 141 6 9 0), (141, ev 0 (.iconst (-1)) 142 (.int (-1))), (142, er 4 (.invokestatic 65) 145 62 2 1), (145, e1 (.aload_n 0) 146), (146, er 3 (.getfield 44) 149 6 10 0), (149, ev 0 (.iconst (-1)) 150 (.int (-1))), (150, er 4 (.invokestatic 65) 153 62 2 1), (153, e1 (.aload_n 0) 154), (154, er 3 (.getfield 47) 157 6 11 0), (157, ev 0 (.iconst (-1)) 158 (.int (-1)))]
def cl_X8_init_2 : List (Nat × Ent) := [(158, er 4 (.invokestatic 65) 161 62 2 1), (161, e1 (.aload_n 0) 162), (162, er 3 (.getfield 53) 165 6 13 0), (165, ev 0 (.iconst (-1)) 166 (.int (-1))), (166, er 4 (.invokestatic 65) 169 62 2 1), (169, e1 (.aload_n 0) 170), (170, er 3 (.getfield 59) 173 6 15 0), (173, ev 0 (.iconst (-1)) 174 (.int (-1))), (174, er 4 (.invokestatic 65) 177 62 2 1), (177, e1 (.aload_n 0) 178), (178, er 3 (.getfield 62) 181 6 16 0), (181, ev 0 (.iconst (-1)) 182 (.int (-1))), (182, er 4 (.invokestatic 65) 185 62 2 1), (185, ev 9 .return_ 186 .null)]
def cd_X8_init (pc : Nat) : List (Nat × Ent) := bif Nat.blt pc 77 then (cl_X8_init_0) else (bif Nat.blt pc 158 then (cl_X8_init_1) else (cl_X8_init_2))
def ca_X8_init : List (Nat × Ent) := cl_X8_init_0 ++ cl_X8_init_1 ++ cl_X8_init_2
def cl_X8_fill_0 : List (Nat × Ent) := [(0, ev 0 (.iconst 0) 1 (.int 0)), (1, e1 (.istore_n 2) 2), (2, e1 (.iload_n 2) 3), (3, e1 (.aload_n 0) 4), (4, ev 3 .arraylength 5 .null), (5, er 2 (.if_icmp .ge 13) 8 18 0 0), (8, e1 (.aload_n 0) 9), (9, e1 (.iload_n 2) 10), (10, e1 (.iload_n 1) 11), (11, ev 3 .iastore 12 .null), (12, ev 1 (.iinc 2 1) 15 (.int 1)), (15, er 2 (.goto (-13)) 18 2 0 0), (18, ev 9 .return_ 19 .null)]
def cd_X8_fill (pc : Nat) : List (Nat × Ent) := cl_X8_fill_0
def ca_X8_fill : List (Nat × Ent) := cl_X8_fill_0
def cl_X8_copyRow_0 : List (Nat × Ent) := [(0, e1 (.aload_n 0) 1), (1, ev 0 (.iconst 0) 2 (.int 0)), (2, e1 (.aload_n 1) 3), (3, ev 0 (.iconst 0) 4 (.int 0)), (4, e1 (.aload_n 0) 5), (5, ev 3 .arraylength 6 .null), (6, e1 (.aload_n 1) 7), (7, ev 3 .arraylength 8 .null), (8, er 5 (.invokestatic 69) 11 0 2 3), (11, er 5 (.invokestatic 75) 14 0 5 6), (14, ev 9 .return_ 15 .null)]
def cd_X8_copyRow (pc : Nat) : List (Nat × Ent) := cl_X8_copyRow_0
def ca_X8_copyRow : List (Nat × Ent) := cl_X8_copyRow_0
def cl_X8_copyFrom_0 : List (Nat × Ent) := [(0, e1 (.aload_n 1) 1), (1, er 2 (.ifnonnull 4) 4 5 0 0), (4, ev 9 .return_ 5 .null), (5, e1 (.aload_n 0) 6), (6, e1 (.aload_n 1) 7), (7, er 3 (.getfield 9) 10 6 0 0), (10, er 3 (.putfield 9) 13 6 0 0), (13, e1 (.aload_n 0) 14), (14, e1 (.aload_n 1) 15), (15, er 3 (.getfield 15) 18 6 1 0), (18, er 3 (.putfield 15) 21 6 1 0), (21, e1 (.aload_n 0) 22), (22, e1 (.aload_n 1) 23), (23, er 3 (.getfield 18) 26 6 2 0), (26, er 3 (.putfield 18) 29 6 2 0), (29, e1 (.aload_n 0) 30), (30, e1 (.aload_n 1) 31), (31, er 3 (.getfield 21) 34 6 3 0), (34, er 3 (.putfield 21) 37 6 3 0), (37, e1 (.aload_n 0) 38), (38, e1 (.aload_n 1) 39), (39, er 3 (.getfield 24) 42 6 4 0), (42, er 3 (.putfield 24) 45 6 4 0), (45, e1 (.aload_n 1) 46), (46, er 3 (.getfield 27) 49 6 5 0), (49, e1 (.aload_n 0) 50), (50, er 3 (.getfield 27) 53 6 5 0), (53, er 4 (.invokestatic 81) 56 63 2 1), (56, e1 (.aload_n 1) 57), (57, er 3 (.getfield 31) 60 6 6 0), (60, e1 (.aload_n 0) 61), (61, er 3 (.getfield 31) 64 6 6 0), (64, er 4 (.invokestatic 81) 67 63 2 1), (67, e1 (.aload_n 1) 68), (68, er 3 (.getfield 34) 71 6 7 0), (71, e1 (.aload_n 0) 72), (72, er 3 (.getfield 34) 75 6 7 0), (75, er 4 (.invokestatic 81) 78 63 2 1), (78, e1 (.aload_n 1) 79), (79, er 3 (.getfield 37) 82 6 8 0)]
def cl_X8_copyFrom_1 : List (Nat × Ent) := [(82, ev 0 (.iconst 0) 83 (.int 0)), (83, e1 (.aload_n 0) 84), (84, er 3 (.getfield 37) 87 6 8 0), (87, ev 0 (.iconst 0) 88 (.int 0)), (88, e1 (.aload_n 1) 89), (89, er 3 (.getfield 37) 92 6 8 0), (92, ev 3 .arraylength 93 .null), (93, e1 (.aload_n 0) 94), (94, er 3 (.getfield 37) 97 6 8 0), (97, ev 3 .arraylength 98 .null), (98, er 5 (.invokestatic 69) 101 0 2 3), (101, er 5 (.invokestatic 75) 104 0 5 6), (104, e1 (.aload_n 1) 105), (105, er 3 (.getfield 41) 108 6 9 0), (108, e1 (.aload_n 0) 109), (109, er 3 (.getfield 41) 112 6 9 0), (112, er 4 (.invokestatic 81) 115 63 2 1), (115, e1 (.aload_n 1) 116), (116, er 3 (.getfield 44) 119 6 10 0), (119, e1 (.aload_n 0) 120), (120, er 3 (.getfield 44) 123 6 10 0), (123, er 4 (.invokestatic 81) 126 63 2 1), (126, e1 (.aload_n 1) 127), (127, er 3 (.getfield 47) 130 6 11 0), (130, e1 (.aload_n 0) 131), (131, er 3 (.getfield 47) 134 6 11 0), (134, er 4 (.invokestatic 81) 137 63 2 1), (137, e1 (.aload_n 1) 138), (138, er 3 (.getfield 50) 141 6 12 0), (141, e1 (.aload_n 0) 142), (142, er 3 (.getfield 50) 145 6 12 0), (145, er 4 (.invokestatic 81) 148 63 2 1), (148, e1 (.aload_n 1) 149), (149, er 3 (.getfield 53) 152 6 13 0), (152, e1 (.aload_n 0) 153), (153, er 3 (.getfield 53) 156 6 13 0), (156, er 4 (.invokestatic 81) 159 63 2 1), (159, e1 (.aload_n 1) 160), (160, er 3 (.getfield 56) 163 6 14 0), (163, e1 (.aload_n 0) 164)]
def cl_X8_copyFrom_2 : List (Nat × Ent) := [(164, er 3 (.getfield 56) 167 6 14 0), (167, er 4 (.invokestatic 81) 170 63 2 1), (170, e1 (.aload_n 1) 171), (171, er 3 (.getfield 59) 174 6 15 0), (174, e1 (.aload_n 0) 175), (175, er 3 (.getfield 59) 178 6 15 0), (178, er 4 (.invokestatic 81) 181 63 2 1), (181, e1 (.aload_n 1) 182), (182, er 3 (.getfield 62) 185 6 16 0), (185, e1 (.aload_n 0) 186), (186, er 3 (.getfield 62) 189 6 16 0), (189, er 4 (.invokestatic 81) 192 63 2 1), (192, ev 9 .return_ 193 .null)]
def cd_X8_copyFrom (pc : Nat) : List (Nat × Ent) := bif Nat.blt pc 82 then (cl_X8_copyFrom_0) else (bif Nat.blt pc 164 then (cl_X8_copyFrom_1) else (cl_X8_copyFrom_2))
def ca_X8_copyFrom : List (Nat × Ent) := cl_X8_copyFrom_0 ++ cl_X8_copyFrom_1 ++ cl_X8_copyFrom_2
def cl_X8_isColumn_0 : List (Nat × Ent) := [(0, e1 (.iload_n 0) 1), (1, er 2 (.ifCond .lt 13) 4 14 0 0), (4, e1 (.iload_n 0) 5), (5, ev 0 (.bipush 12) 7 (.int 12)), (7, er 2 (.if_icmp .ge 7) 10 14 0 0), (10, ev 0 (.iconst 1) 11 (.int 1)), (11, er 2 (.goto 4) 14 15 0 0), (14, ev 0 (.iconst 0) 15 (.int 0)), (15, ev 9 .ireturn 16 .null)]
def cd_X8_isColumn (pc : Nat) : List (Nat × Ent) := cl_X8_isColumn_0
def ca_X8_isColumn : List (Nat × Ent) := cl_X8_isColumn_0
def cl_X8_isCourse_0 : List (Nat × Ent) := [(0, e1 (.iload_n 0) 1), (1, er 2 (.ifCond .lt 13) 4 14 0 0), (4, e1 (.iload_n 0) 5), (5, ev 0 (.bipush 8) 7 (.int 8)), (7, er 2 (.if_icmp .ge 7) 10 14 0 0), (10, ev 0 (.iconst 1) 11 (.int 1)), (11, er 2 (.goto 4) 14 15 0 0), (14, ev 0 (.iconst 0) 15 (.int 0)), (15, ev 9 .ireturn 16 .null)]
def cd_X8_isCourse (pc : Nat) : List (Nat × Ent) := cl_X8_isCourse_0
def ca_X8_isCourse : List (Nat × Ent) := cl_X8_isCourse_0
def cl_X8_isHour_0 : List (Nat × Ent) := [(0, e1 (.iload_n 0) 1), (1, er 2 (.ifCond .lt 13) 4 14 0 0), (4, e1 (.iload_n 0) 5), (5, ev 0 (.bipush 24) 7 (.int 24)), (7, er 2 (.if_icmp .ge 7) 10 14 0 0), (10, ev 0 (.iconst 1) 11 (.int 1)), (11, er 2 (.goto 4) 14 15 0 0), (14, ev 0 (.iconst 0) 15 (.int 0)), (15, ev 9 .ireturn 16 .null)]
def cd_X8_isHour (pc : Nat) : List (Nat × Ent) := cl_X8_isHour_0
def ca_X8_isHour : List (Nat × Ent) := cl_X8_isHour_0
def cl_X8_isRack_0 : List (Nat × Ent) := [(0, e1 (.iload_n 0) 1), (1, er 2 (.ifCond .lt 12) 4 13 0 0), (4, e1 (.iload_n 0) 5), (5, ev 0 (.iconst 2) 6 (.int 2)), (6, er 2 (.if_icmp .ge 7) 9 13 0 0), (9, ev 0 (.iconst 1) 10 (.int 1)), (10, er 2 (.goto 4) 13 14 0 0), (13, ev 0 (.iconst 0) 14 (.int 0)), (14, ev 9 .ireturn 15 .null)]
def cd_X8_isRack (pc : Nat) : List (Nat × Ent) := cl_X8_isRack_0
def ca_X8_isRack : List (Nat × Ent) := cl_X8_isRack_0
def cl_X8_isSawn_0 : List (Nat × Ent) := [(0, e1 (.iload_n 1) 1), (1, er 2 (.ifCond .lt 21) 4 22 0 0), (4, e1 (.iload_n 1) 5), (5, ev 0 (.bipush 40) 7 (.int 40)), (7, er 2 (.if_icmp .ge 15) 10 22 0 0), (10, e1 (.iload_n 1) 11), (11, e1 (.aload_n 0) 12), (12, er 3 (.getfield 24) 15 6 4 0), (15, er 2 (.if_icmp .ge 7) 18 22 0 0), (18, ev 0 (.iconst 1) 19 (.int 1)), (19, er 2 (.goto 4) 22 23 0 0), (22, ev 0 (.iconst 0) 23 (.int 0)), (23, ev 9 .ireturn 24 .null)]
def cd_X8_isSawn (pc : Nat) : List (Nat × Ent) := cl_X8_isSawn_0
def ca_X8_isSawn : List (Nat × Ent) := cl_X8_isSawn_0
def cl_X8_isOnWall_0 : List (Nat × Ent) := [(0, e1 (.iload_n 1) 1), (1, er 2 (.ifCond .lt 23) 4 24 0 0), (4, e1 (.iload_n 1) 5), (5, ev 0 (.bipush 40) 7 (.int 40)), (7, er 2 (.if_icmp .ge 17) 10 24 0 0), (10, e1 (.aload_n 0) 11), (11, er 3 (.getfield 41) 14 6 9 0), (14, e1 (.iload_n 1) 15), (15, ev 3 .iaload 16 .null), (16, ev 0 (.iconst 1) 17 (.int 1)), (17, er 2 (.if_icmp .ne 7) 20 24 0 0), (20, ev 0 (.iconst 1) 21 (.int 1)), (21, er 2 (.goto 4) 24 25 0 0), (24, ev 0 (.iconst 0) 25 (.int 0)), (25, ev 9 .ireturn 26 .null)]
def cd_X8_isOnWall (pc : Nat) : List (Nat × Ent) := cl_X8_isOnWall_0
def ca_X8_isOnWall : List (Nat × Ent) := cl_X8_isOnWall_0
def cl_X8_isInRack_0 : List (Nat × Ent) := [(0, e1 (.iload_n 1) 1), (1, er 2 (.ifCond .lt 22) 4 23 0 0), (4, e1 (.iload_n 1) 5), (5, ev 0 (.bipush 40) 7 (.int 40)), (7, er 2 (.if_icmp .ge 16) 10 23 0 0), (10, e1 (.aload_n 0) 11), (11, er 3 (.getfield 41) 14 6 9 0), (14, e1 (.iload_n 1) 15), (15, ev 3 .iaload 16 .null), (16, er 2 (.ifCond .ne 7) 19 23 0 0), (19, ev 0 (.iconst 1) 20 (.int 1)), (20, er 2 (.goto 4) 23 24 0 0), (23, ev 0 (.iconst 0) 24 (.int 0)), (24, ev 9 .ireturn 25 .null)]
def cd_X8_isInRack (pc : Nat) : List (Nat × Ent) := cl_X8_isInRack_0
def ca_X8_isInRack : List (Nat × Ent) := cl_X8_isInRack_0
def cl_X8_isGone_0 : List (Nat × Ent) := [(0, e1 (.iload_n 1) 1), (1, er 2 (.ifCond .lt 23) 4 24 0 0), (4, e1 (.iload_n 1) 5), (5, ev 0 (.bipush 40) 7 (.int 40)), (7, er 2 (.if_icmp .ge 17) 10 24 0 0), (10, e1 (.aload_n 0) 11), (11, er 3 (.getfield 41) 14 6 9 0), (14, e1 (.iload_n 1) 15), (15, ev 3 .iaload 16 .null), (16, ev 0 (.iconst 2) 17 (.int 2)), (17, er 2 (.if_icmp .ne 7) 20 24 0 0), (20, ev 0 (.iconst 1) 21 (.int 1)), (21, er 2 (.goto 4) 24 25 0 0), (24, ev 0 (.iconst 0) 25 (.int 0)), (25, ev 9 .ireturn 26 .null)]
def cd_X8_isGone (pc : Nat) : List (Nat × Ent) := cl_X8_isGone_0
def ca_X8_isGone : List (Nat × Ent) := cl_X8_isGone_0
def cl_X8_massOf_0 : List (Nat × Ent) := [(0, e1 (.iload_n 1) 1), (1, er 2 (.ifCond .lt 18) 4 19 0 0), (4, e1 (.iload_n 1) 5), (5, ev 0 (.bipush 40) 7 (.int 40)), (7, er 2 (.if_icmp .ge 12) 10 19 0 0), (10, e1 (.aload_n 0) 11), (11, er 3 (.getfield 37) 14 6 8 0), (14, e1 (.iload_n 1) 15), (15, ev 3 .faload 16 .null), (16, er 2 (.goto 4) 19 20 0 0), (19, ev 0 (.fconst 0) 20 (.float 0)), (20, ev 9 .freturn 21 .null)]
def cd_X8_massOf (pc : Nat) : List (Nat × Ent) := cl_X8_massOf_0
def ca_X8_massOf : List (Nat × Ent) := cl_X8_massOf_0
def cl_X8_hourOfDay_0 : List (Nat × Ent) := [(0, e1 (.aload_n 0) 1), (1, er 3 (.getfield 9) 4 6 0 0), (4, ev 0 (.bipush 24) 6 (.int 24)), (6, er 4 (.invokestatic 85) 9 147 2 1), (9, ev 9 .ireturn 10 .null)]
def cd_X8_hourOfDay (pc : Nat) : List (Nat × Ent) := cl_X8_hourOfDay_0
def ca_X8_hourOfDay : List (Nat × Ent) := cl_X8_hourOfDay_0
def cl_X8_temperatureAt_0 : List (Nat × Ent) := [(0, e1 (.iload_n 1) 1), (1, er 4 (.invokestatic 88) 4 67 1 1), (4, er 2 (.ifCond .eq 12) 7 16 0 0), (7, e1 (.aload_n 0) 8), (8, er 3 (.getfield 27) 11 6 5 0), (11, e1 (.iload_n 1) 12), (12, ev 3 .iaload 13 .null), (13, er 2 (.goto 4) 16 17 0 0), (16, ev 0 (.iconst 0) 17 (.int 0)), (17, ev 9 .ireturn 18 .null)]
def cd_X8_temperatureAt (pc : Nat) : List (Nat × Ent) := cl_X8_temperatureAt_0
def ca_X8_temperatureAt : List (Nat × Ent) := cl_X8_temperatureAt_0
def cl_X8_blockAt_0 : List (Nat × Ent) := [(0, e1 (.iload_n 1) 1), (1, er 2 (.ifCond .lt 19) 4 20 0 0), (4, e1 (.iload_n 1) 5), (5, ev 0 (.bipush 12) 7 (.int 12)), (7, er 2 (.if_icmp .ge 13) 10 20 0 0), (10, e1 (.iload_n 2) 11), (11, er 2 (.ifCond .lt 9) 14 20 0 0), (14, e1 (.iload_n 2) 15), (15, ev 0 (.bipush 8) 17 (.int 8)), (17, er 2 (.if_icmp .lt 5) 20 22 0 0), (20, ev 0 (.iconst (-1)) 21 (.int (-1))), (21, ev 9 .ireturn 22 .null), (22, e1 (.aload_n 0) 23), (23, er 3 (.getfield 59) 26 6 15 0), (26, e1 (.iload_n 2) 27), (27, ev 0 (.bipush 12) 29 (.int 12)), (29, e0 .imul 30), (30, e1 (.iload_n 1) 31), (31, e0 .iadd 32), (32, ev 3 .iaload 33 .null), (33, ev 9 .ireturn 34 .null)]
def cd_X8_blockAt (pc : Nat) : List (Nat × Ent) := cl_X8_blockAt_0
def ca_X8_blockAt : List (Nat × Ent) := cl_X8_blockAt_0
def cl_X8_blockInRack_0 : List (Nat × Ent) := [(0, e1 (.iload_n 1) 1), (1, er 4 (.invokestatic 92) 4 68 1 1), (4, er 2 (.ifCond .eq 25) 7 29 0 0), (7, e1 (.iload_n 2) 8), (8, er 2 (.ifCond .lt 21) 11 29 0 0), (11, e1 (.iload_n 2) 12), (12, ev 0 (.iconst 5) 13 (.int 5)), (13, er 2 (.if_icmp .ge 16) 16 29 0 0), (16, e1 (.aload_n 0) 17), (17, er 3 (.getfield 62) 20 6 16 0), (20, e1 (.iload_n 1) 21), (21, ev 0 (.iconst 5) 22 (.int 5)), (22, e0 .imul 23), (23, e1 (.iload_n 2) 24), (24, e0 .iadd 25), (25, ev 3 .iaload 26 .null), (26, er 2 (.goto 4) 29 30 0 0), (29, ev 0 (.iconst (-1)) 30 (.int (-1))), (30, ev 9 .ireturn 31 .null)]
def cd_X8_blockInRack (pc : Nat) : List (Nat × Ent) := cl_X8_blockInRack_0
def ca_X8_blockInRack : List (Nat × Ent) := cl_X8_blockInRack_0
def cl_X8_freePlace_0 : List (Nat × Ent) := [(0, ev 0 (.iconst 0) 1 (.int 0)), (1, e1 (.istore_n 2) 2), (2, e1 (.iload_n 2) 3), (3, ev 0 (.iconst 5) 4 (.int 5)), (4, er 2 (.if_icmp .ge 31) 7 35 0 0), (7, e1 (.iload_n 1) 8), (8, er 4 (.invokestatic 92) 11 68 1 1), (11, er 2 (.ifCond .eq 18) 14 29 0 0), (14, e1 (.aload_n 0) 15), (15, er 3 (.getfield 62) 18 6 16 0), (18, e1 (.iload_n 1) 19), (19, ev 0 (.iconst 5) 20 (.int 5)), (20, e0 .imul 21), (21, e1 (.iload_n 2) 22), (22, e0 .iadd 23), (23, ev 3 .iaload 24 .null), (24, er 2 (.ifCond .ge 5) 27 29 0 0), (27, e1 (.iload_n 2) 28), (28, ev 9 .ireturn 29 .null), (29, ev 1 (.iinc 2 1) 32 (.int 1)), (32, er 2 (.goto (-30)) 35 2 0 0), (35, ev 0 (.iconst (-1)) 36 (.int (-1))), (36, ev 9 .ireturn 37 .null)]
def cd_X8_freePlace (pc : Nat) : List (Nat × Ent) := cl_X8_freePlace_0
def ca_X8_freePlace : List (Nat × Ent) := cl_X8_freePlace_0
def cl_X8_supportedColumns_0 : List (Nat × Ent) := [(0, e1 (.iload_n 3) 1), (1, er 2 (.ifCond .ne 5) 4 6 0 0), (4, e1 (.iload_n 2) 5), (5, ev 9 .ireturn 6 .null), (6, ev 0 (.iconst 0) 7 (.int 0)), (7, e1 (.istore 4) 9), (9, ev 0 (.iconst 0) 10 (.int 0)), (10, e1 (.istore 5) 12), (12, e1 (.iload 5) 14), (14, e1 (.iload_n 2) 15), (15, er 2 (.if_icmp .ge 26) 18 41 0 0), (18, e1 (.aload_n 0) 19), (19, e1 (.iload_n 1) 20), (20, e1 (.iload 5) 22), (22, e0 .iadd 23), (23, e1 (.iload_n 3) 24), (24, ev 0 (.iconst 1) 25 (.int 1)), (25, e0 .isub 26), (26, er 4 (.invokevirtual 95) 29 76 2 0), (29, er 2 (.ifCond .lt 6) 32 35 0 0), (32, ev 1 (.iinc 4 1) 35 (.int 1)), (35, ev 1 (.iinc 5 1) 38 (.int 1)), (38, er 2 (.goto (-26)) 41 12 0 0), (41, e1 (.iload 4) 43), (43, ev 9 .ireturn 44 .null)]
def cd_X8_supportedColumns (pc : Nat) : List (Nat × Ent) := cl_X8_supportedColumns_0
def ca_X8_supportedColumns : List (Nat × Ent) := cl_X8_supportedColumns_0
def cl_X8_supportOf_0 : List (Nat × Ent) := [(0, e1 (.aload_n 0) 1), (1, e1 (.iload_n 1) 2), (2, er 4 (.invokevirtual 98) 5 70 1 0), (5, er 2 (.ifCond .eq 28) 8 33 0 0), (8, e1 (.aload_n 0) 9), (9, e1 (.aload_n 0) 10), (10, er 3 (.getfield 44) 13 6 10 0), (13, e1 (.iload_n 1) 14), (14, ev 3 .iaload 15 .null), (15, e1 (.aload_n 0) 16), (16, er 3 (.getfield 34) 19 6 7 0), (19, e1 (.iload_n 1) 20), (20, ev 3 .iaload 21 .null), (21, e1 (.aload_n 0) 22), (22, er 3 (.getfield 47) 25 6 11 0), (25, e1 (.iload_n 1) 26), (26, ev 3 .iaload 27 .null), (27, er 4 (.invokevirtual 101) 30 79 3 0), (30, er 2 (.goto 4) 33 34 0 0), (33, ev 0 (.iconst 0) 34 (.int 0)), (34, ev 9 .ireturn 35 .null)]
def cd_X8_supportOf (pc : Nat) : List (Nat × Ent) := cl_X8_supportOf_0
def ca_X8_supportOf : List (Nat × Ent) := cl_X8_supportOf_0
def cl_X8_isSupported_0 : List (Nat × Ent) := [(0, e1 (.iload_n 1) 1), (1, er 2 (.ifCond .lt 56) 4 57 0 0), (4, e1 (.iload_n 1) 5), (5, ev 0 (.bipush 40) 7 (.int 40)), (7, er 2 (.if_icmp .ge 50) 10 57 0 0), (10, e1 (.aload_n 0) 11), (11, er 3 (.getfield 41) 14 6 9 0), (14, e1 (.iload_n 1) 15), (15, ev 3 .iaload 16 .null), (16, ev 0 (.iconst 1) 17 (.int 1)), (17, er 2 (.if_icmp .ne 40) 20 57 0 0), (20, e1 (.aload_n 0) 21), (21, e1 (.aload_n 0) 22), (22, er 3 (.getfield 44) 25 6 10 0), (25, e1 (.iload_n 1) 26), (26, ev 3 .iaload 27 .null), (27, e1 (.aload_n 0) 28), (28, er 3 (.getfield 34) 31 6 7 0), (31, e1 (.iload_n 1) 32), (32, ev 3 .iaload 33 .null), (33, e1 (.aload_n 0) 34), (34, er 3 (.getfield 47) 37 6 11 0), (37, e1 (.iload_n 1) 38), (38, ev 3 .iaload 39 .null), (39, er 4 (.invokevirtual 101) 42 79 3 0), (42, ev 0 (.iconst 2) 43 (.int 2)), (43, e0 .imul 44), (44, e1 (.aload_n 0) 45), (45, er 3 (.getfield 34) 48 6 7 0), (48, e1 (.iload_n 1) 49), (49, ev 3 .iaload 50 .null), (50, er 2 (.if_icmp .lt 7) 53 57 0 0), (53, ev 0 (.iconst 1) 54 (.int 1)), (54, er 2 (.goto 4) 57 58 0 0), (57, ev 0 (.iconst 0) 58 (.int 0)), (58, ev 9 .ireturn 59 .null)]
def cd_X8_isSupported (pc : Nat) : List (Nat × Ent) := cl_X8_isSupported_0
def ca_X8_isSupported : List (Nat × Ent) := cl_X8_isSupported_0
def cl_X8_sharedColumns_0 : List (Nat × Ent) := [(0, e1 (.iload_n 1) 1), (1, er 2 (.ifCond .lt 19) 4 20 0 0), (4, e1 (.iload_n 1) 5), (5, ev 0 (.bipush 40) 7 (.int 40)), (7, er 2 (.if_icmp .ge 13) 10 20 0 0), (10, e1 (.iload_n 2) 11), (11, er 2 (.ifCond .lt 9) 14 20 0 0), (14, e1 (.iload_n 2) 15), (15, ev 0 (.bipush 40) 17 (.int 40)), (17, er 2 (.if_icmp .lt 5) 20 22 0 0), (20, ev 0 (.iconst 0) 21 (.int 0)), (21, ev 9 .ireturn 22 .null), (22, e1 (.aload_n 0) 23), (23, er 3 (.getfield 44) 26 6 10 0), (26, e1 (.iload_n 1) 27), (27, ev 3 .iaload 28 .null), (28, e1 (.aload_n 0) 29), (29, er 3 (.getfield 44) 32 6 10 0), (32, e1 (.iload_n 2) 33), (33, ev 3 .iaload 34 .null), (34, er 5 (.invokestatic 105) 37 0 2 2), (37, e1 (.istore_n 3) 38), (38, e1 (.aload_n 0) 39), (39, er 3 (.getfield 44) 42 6 10 0), (42, e1 (.iload_n 1) 43), (43, ev 3 .iaload 44 .null), (44, e1 (.aload_n 0) 45), (45, er 3 (.getfield 34) 48 6 7 0), (48, e1 (.iload_n 1) 49), (49, ev 3 .iaload 50 .null), (50, e0 .iadd 51), (51, e1 (.aload_n 0) 52), (52, er 3 (.getfield 44) 55 6 10 0), (55, e1 (.iload_n 2) 56), (56, ev 3 .iaload 57 .null), (57, e1 (.aload_n 0) 58), (58, er 3 (.getfield 34) 61 6 7 0), (61, e1 (.iload_n 2) 62), (62, ev 3 .iaload 63 .null), (63, e0 .iadd 64)]
def cl_X8_sharedColumns_1 : List (Nat × Ent) := [(64, er 5 (.invokestatic 69) 67 0 2 3), (67, e1 (.istore 4) 69), (69, e1 (.iload 4) 71), (71, e1 (.iload_n 3) 72), (72, e0 .isub 73), (73, ev 0 (.iconst 0) 74 (.int 0)), (74, er 5 (.invokestatic 105) 77 0 2 2), (77, ev 9 .ireturn 78 .null)]
def cd_X8_sharedColumns (pc : Nat) : List (Nat × Ent) := bif Nat.blt pc 64 then (cl_X8_sharedColumns_0) else (cl_X8_sharedColumns_1)
def ca_X8_sharedColumns : List (Nat × Ent) := cl_X8_sharedColumns_0 ++ cl_X8_sharedColumns_1
def cl_X8_addBlock_0 : List (Nat × Ent) := [(0, e1 (.aload_n 0) 1), (1, er 3 (.getfield 24) 4 6 4 0), (4, e1 (.istore 4) 6), (6, e1 (.aload_n 0) 7), (7, e1 (.iload_n 3) 8), (8, er 4 (.invokevirtual 108) 11 78 1 0), (11, e1 (.istore 5) 13), (13, e1 (.iload 4) 15), (15, er 2 (.ifCond .lt 22) 18 37 0 0), (18, e1 (.iload 4) 20), (20, ev 0 (.bipush 40) 22 (.int 40)), (22, er 2 (.if_icmp .ge 15) 25 37 0 0), (25, e1 (.iload 5) 27), (27, er 2 (.ifCond .lt 10) 30 37 0 0), (30, e1 (.iload_n 3) 31), (31, er 4 (.invokestatic 92) 34 68 1 1), (34, er 2 (.ifCond .ne 5) 37 39 0 0), (37, ev 0 (.iconst (-1)) 38 (.int (-1))), (38, ev 9 .ireturn 39 .null), (39, e1 (.aload_n 0) 40), (40, er 3 (.getfield 31) 43 6 6 0), (43, e1 (.iload 4) 45), (45, e1 (.iload_n 1) 46), (46, ev 3 .iastore 47 .null), (47, e1 (.aload_n 0) 48), (48, er 3 (.getfield 34) 51 6 7 0), (51, e1 (.iload 4) 53), (53, e1 (.iload_n 2) 54), (54, ev 3 .iastore 55 .null), (55, e1 (.aload_n 0) 56), (56, er 3 (.getfield 37) 59 6 8 0), (59, e1 (.iload 4) 61), (61, e1 (.iload_n 2) 62), (62, e0 .i2f 63), (63, e1 (.aload_n 0) 64), (64, er 3 (.getfield 15) 67 6 1 0), (67, e0 .i2f 68), (68, e0 .fmul 69), (69, e1 (.iload_n 1) 70), (70, er 2 (.ifCond .ne 7) 73 77 0 0)]
def cl_X8_addBlock_1 : List (Nat × Ent) := [(73, ev 0 (.fconst 1) 74 (.float 1065353216)), (74, er 2 (.goto 5) 77 79 0 0), (77, ev 0 (.ldc 112) 79 (.float 1056964608)), (79, e0 .fmul 80), (80, ev 3 .fastore 81 .null), (81, e1 (.aload_n 0) 82), (82, er 3 (.getfield 41) 85 6 9 0), (85, e1 (.iload 4) 87), (87, ev 0 (.iconst 0) 88 (.int 0)), (88, ev 3 .iastore 89 .null), (89, e1 (.aload_n 0) 90), (90, er 3 (.getfield 53) 93 6 13 0), (93, e1 (.iload 4) 95), (95, e1 (.iload 5) 97), (97, ev 3 .iastore 98 .null), (98, e1 (.aload_n 0) 99), (99, er 3 (.getfield 62) 102 6 16 0), (102, e1 (.iload_n 3) 103), (103, ev 0 (.iconst 5) 104 (.int 5)), (104, e0 .imul 105), (105, e1 (.iload 5) 107), (107, e0 .iadd 108), (108, e1 (.iload 4) 110), (110, ev 3 .iastore 111 .null), (111, e1 (.aload_n 0) 112), (112, e0 .dup 113), (113, er 3 (.getfield 18) 116 6 2 0), (116, e1 (.iload_n 2) 117), (117, e0 .isub 118), (118, er 3 (.putfield 18) 121 6 2 0), (121, e1 (.aload_n 0) 122), (122, e0 .dup 123), (123, er 3 (.getfield 24) 126 6 4 0), (126, ev 0 (.iconst 1) 127 (.int 1)), (127, e0 .iadd 128), (128, er 3 (.putfield 24) 131 6 4 0), (131, e1 (.iload 4) 133), (133, ev 9 .ireturn 134 .null)]
def cd_X8_addBlock (pc : Nat) : List (Nat × Ent) := bif Nat.blt pc 73 then (cl_X8_addBlock_0) else (cl_X8_addBlock_1)
def ca_X8_addBlock : List (Nat × Ent) := cl_X8_addBlock_0 ++ cl_X8_addBlock_1
def cl_X8_putOnWall_0 : List (Nat × Ent) := [(0, e1 (.aload_n 0) 1), (1, e1 (.iload_n 1) 2), (2, er 4 (.invokevirtual 113) 5 71 1 0), (5, er 2 (.ifCond .ne 4) 8 9 0 0), (8, ev 9 .return_ 9 .null), (9, e1 (.aload_n 0) 10), (10, e1 (.iload_n 1) 11), (11, er 4 (.invokevirtual 116) 14 86 1 0), (14, e1 (.aload_n 0) 15), (15, er 3 (.getfield 41) 18 6 9 0), (18, e1 (.iload_n 1) 19), (19, ev 0 (.iconst 1) 20 (.int 1)), (20, ev 3 .iastore 21 .null), (21, e1 (.aload_n 0) 22), (22, er 3 (.getfield 44) 25 6 10 0), (25, e1 (.iload_n 1) 26), (26, e1 (.iload_n 2) 27), (27, ev 3 .iastore 28 .null), (28, e1 (.aload_n 0) 29), (29, er 3 (.getfield 47) 32 6 11 0), (32, e1 (.iload_n 1) 33), (33, e1 (.iload_n 3) 34), (34, ev 3 .iastore 35 .null), (35, e1 (.aload_n 0) 36), (36, er 3 (.getfield 50) 39 6 12 0), (39, e1 (.iload_n 1) 40), (40, ev 0 (.iconst 0) 41 (.int 0)), (41, ev 3 .iastore 42 .null), (42, e1 (.aload_n 0) 43), (43, e1 (.iload_n 1) 44), (44, e1 (.iload_n 1) 45), (45, er 4 (.invokevirtual 120) 48 87 2 0), (48, ev 9 .return_ 49 .null)]
def cd_X8_putOnWall (pc : Nat) : List (Nat × Ent) := cl_X8_putOnWall_0
def ca_X8_putOnWall : List (Nat × Ent) := cl_X8_putOnWall_0
def cl_X8_remove_0 : List (Nat × Ent) := [(0, e1 (.iload_n 1) 1), (1, er 2 (.ifCond .lt 9) 4 10 0 0), (4, e1 (.iload_n 1) 5), (5, ev 0 (.bipush 40) 7 (.int 40)), (7, er 2 (.if_icmp .lt 4) 10 11 0 0), (10, ev 9 .return_ 11 .null), (11, e1 (.aload_n 0) 12), (12, er 3 (.getfield 41) 15 6 9 0), (15, e1 (.iload_n 1) 16), (16, ev 3 .iaload 17 .null), (17, ev 0 (.iconst 1) 18 (.int 1)), (18, er 2 (.if_icmp .ne 12) 21 30 0 0), (21, e1 (.aload_n 0) 22), (22, e1 (.iload_n 1) 23), (23, ev 0 (.iconst (-1)) 24 (.int (-1))), (24, er 4 (.invokevirtual 120) 27 87 2 0), (27, er 2 (.goto 8) 30 35 0 0), (30, e1 (.aload_n 0) 31), (31, e1 (.iload_n 1) 32), (32, er 4 (.invokevirtual 116) 35 86 1 0), (35, e1 (.aload_n 0) 36), (36, er 3 (.getfield 41) 39 6 9 0), (39, e1 (.iload_n 1) 40), (40, ev 0 (.iconst 2) 41 (.int 2)), (41, ev 3 .iastore 42 .null), (42, e1 (.aload_n 0) 43), (43, er 3 (.getfield 44) 46 6 10 0), (46, e1 (.iload_n 1) 47), (47, ev 0 (.iconst (-1)) 48 (.int (-1))), (48, ev 3 .iastore 49 .null), (49, e1 (.aload_n 0) 50), (50, er 3 (.getfield 47) 53 6 11 0), (53, e1 (.iload_n 1) 54), (54, ev 0 (.iconst (-1)) 55 (.int (-1))), (55, ev 3 .iastore 56 .null), (56, e1 (.aload_n 0) 57), (57, er 3 (.getfield 50) 60 6 12 0), (60, e1 (.iload_n 1) 61), (61, ev 0 (.iconst 0) 62 (.int 0)), (62, ev 3 .iastore 63 .null)]
def cl_X8_remove_1 : List (Nat × Ent) := [(63, e1 (.aload_n 0) 64), (64, er 3 (.getfield 56) 67 6 14 0), (67, e1 (.iload_n 1) 68), (68, e1 (.iload_n 2) 69), (69, ev 3 .iastore 70 .null), (70, ev 9 .return_ 71 .null)]
def cd_X8_remove (pc : Nat) : List (Nat × Ent) := bif Nat.blt pc 63 then (cl_X8_remove_0) else (cl_X8_remove_1)
def ca_X8_remove : List (Nat × Ent) := cl_X8_remove_0 ++ cl_X8_remove_1
def cl_X8_leaveRack_0 : List (Nat × Ent) := [(0, e1 (.iload_n 1) 1), (1, er 2 (.ifCond .lt 9) 4 10 0 0), (4, e1 (.iload_n 1) 5), (5, ev 0 (.bipush 40) 7 (.int 40)), (7, er 2 (.if_icmp .lt 4) 10 11 0 0), (10, ev 9 .return_ 11 .null), (11, e1 (.aload_n 0) 12), (12, er 3 (.getfield 31) 15 6 6 0), (15, e1 (.iload_n 1) 16), (16, ev 3 .iaload 17 .null), (17, ev 0 (.iconst 5) 18 (.int 5)), (18, e0 .imul 19), (19, e1 (.aload_n 0) 20), (20, er 3 (.getfield 53) 23 6 13 0), (23, e1 (.iload_n 1) 24), (24, ev 3 .iaload 25 .null), (25, e0 .iadd 26), (26, e1 (.istore_n 2) 27), (27, e1 (.iload_n 2) 28), (28, er 2 (.ifCond .lt 19) 31 47 0 0), (31, e1 (.iload_n 2) 32), (32, e1 (.aload_n 0) 33), (33, er 3 (.getfield 62) 36 6 16 0), (36, ev 3 .arraylength 37 .null), (37, er 2 (.if_icmp .ge 10) 40 47 0 0), (40, e1 (.aload_n 0) 41), (41, er 3 (.getfield 62) 44 6 16 0), (44, e1 (.iload_n 2) 45), (45, ev 0 (.iconst (-1)) 46 (.int (-1))), (46, ev 3 .iastore 47 .null), (47, e1 (.aload_n 0) 48), (48, er 3 (.getfield 53) 51 6 13 0), (51, e1 (.iload_n 1) 52), (52, ev 0 (.iconst (-1)) 53 (.int (-1))), (53, ev 3 .iastore 54 .null), (54, ev 9 .return_ 55 .null)]
def cd_X8_leaveRack (pc : Nat) : List (Nat × Ent) := cl_X8_leaveRack_0
def ca_X8_leaveRack : List (Nat × Ent) := cl_X8_leaveRack_0
def cl_X8_markColumns_0 : List (Nat × Ent) := [(0, e1 (.iload_n 1) 1), (1, er 2 (.ifCond .lt 9) 4 10 0 0), (4, e1 (.iload_n 1) 5), (5, ev 0 (.bipush 40) 7 (.int 40)), (7, er 2 (.if_icmp .lt 4) 10 11 0 0), (10, ev 9 .return_ 11 .null), (11, ev 0 (.iconst 0) 12 (.int 0)), (12, e1 (.istore_n 3) 13), (13, e1 (.iload_n 3) 14), (14, e1 (.aload_n 0) 15), (15, er 3 (.getfield 34) 18 6 7 0), (18, e1 (.iload_n 1) 19), (19, ev 3 .iaload 20 .null), (20, er 2 (.if_icmp .ge 57) 23 77 0 0), (23, e1 (.aload_n 0) 24), (24, er 3 (.getfield 44) 27 6 10 0), (27, e1 (.iload_n 1) 28), (28, ev 3 .iaload 29 .null), (29, e1 (.iload_n 3) 30), (30, e0 .iadd 31), (31, e1 (.istore 4) 33), (33, e1 (.iload 4) 35), (35, er 4 (.invokestatic 124) 38 65 1 1), (38, er 2 (.ifCond .eq 33) 41 71 0 0), (41, e1 (.aload_n 0) 42), (42, er 3 (.getfield 47) 45 6 11 0), (45, e1 (.iload_n 1) 46), (46, ev 3 .iaload 47 .null), (47, er 4 (.invokestatic 127) 50 66 1 1), (50, er 2 (.ifCond .eq 21) 53 71 0 0), (53, e1 (.aload_n 0) 54), (54, er 3 (.getfield 59) 57 6 15 0), (57, e1 (.aload_n 0) 58), (58, er 3 (.getfield 47) 61 6 11 0), (61, e1 (.iload_n 1) 62), (62, ev 3 .iaload 63 .null), (63, ev 0 (.bipush 12) 65 (.int 12)), (65, e0 .imul 66), (66, e1 (.iload 4) 68), (68, e0 .iadd 69)]
def cl_X8_markColumns_1 : List (Nat × Ent) := [(69, e1 (.iload_n 2) 70), (70, ev 3 .iastore 71 .null), (71, ev 1 (.iinc 3 1) 74 (.int 1)), (74, er 2 (.goto (-61)) 77 13 0 0), (77, ev 9 .return_ 78 .null)]
def cd_X8_markColumns (pc : Nat) : List (Nat × Ent) := bif Nat.blt pc 69 then (cl_X8_markColumns_0) else (cl_X8_markColumns_1)
def ca_X8_markColumns : List (Nat × Ent) := cl_X8_markColumns_0 ++ cl_X8_markColumns_1
def cl_X8_numberOf_0 : List (Nat × Ent) := [(0, e1 (.aload_n 0) 1), (1, e1 (.iload_n 1) 2), (2, er 4 (.invokevirtual 130) 5 69 1 0), (5, er 2 (.ifCond .ne 5) 8 10 0 0), (8, ev 0 (.iconst (-1)) 9 (.int (-1))), (9, ev 9 .ireturn 10 .null), (10, e1 (.iload_n 2) 11), (11, ev 6 (.tableswitch 90 0 6 #[41, 48, 55, 62, 69, 76, 83]) 52 .null), (52, e1 (.aload_n 0) 53), (53, er 3 (.getfield 31) 56 6 6 0), (56, e1 (.iload_n 1) 57), (57, ev 3 .iaload 58 .null), (58, ev 9 .ireturn 59 .null), (59, e1 (.aload_n 0) 60), (60, er 3 (.getfield 34) 63 6 7 0), (63, e1 (.iload_n 1) 64), (64, ev 3 .iaload 65 .null), (65, ev 9 .ireturn 66 .null), (66, e1 (.aload_n 0) 67), (67, er 3 (.getfield 41) 70 6 9 0), (70, e1 (.iload_n 1) 71), (71, ev 3 .iaload 72 .null), (72, ev 9 .ireturn 73 .null), (73, e1 (.aload_n 0) 74), (74, er 3 (.getfield 44) 77 6 10 0), (77, e1 (.iload_n 1) 78), (78, ev 3 .iaload 79 .null), (79, ev 9 .ireturn 80 .null), (80, e1 (.aload_n 0) 81), (81, er 3 (.getfield 47) 84 6 11 0), (84, e1 (.iload_n 1) 85), (85, ev 3 .iaload 86 .null), (86, ev 9 .ireturn 87 .null), (87, e1 (.aload_n 0) 88), (88, er 3 (.getfield 50) 91 6 12 0), (91, e1 (.iload_n 1) 92), (92, ev 3 .iaload 93 .null), (93, ev 9 .ireturn 94 .null), (94, e1 (.aload_n 0) 95), (95, er 3 (.getfield 53) 98 6 13 0)]
def cl_X8_numberOf_1 : List (Nat × Ent) := [(98, e1 (.iload_n 1) 99), (99, ev 3 .iaload 100 .null), (100, ev 9 .ireturn 101 .null), (101, e1 (.aload_n 0) 102), (102, er 3 (.getfield 56) 105 6 14 0), (105, e1 (.iload_n 1) 106), (106, ev 3 .iaload 107 .null), (107, ev 9 .ireturn 108 .null)]
def cd_X8_numberOf (pc : Nat) : List (Nat × Ent) := bif Nat.blt pc 98 then (cl_X8_numberOf_0) else (cl_X8_numberOf_1)
def ca_X8_numberOf : List (Nat × Ent) := cl_X8_numberOf_0 ++ cl_X8_numberOf_1
def cl_X8_signOf_0 : List (Nat × Ent) := [(0, e1 (.aload_n 0) 1), (1, e1 (.iload_n 1) 2), (2, er 4 (.invokevirtual 113) 5 71 1 0), (5, er 2 (.ifCond .eq 6) 8 11 0 0), (8, ev 0 (.bipush 114) 10 (.int 114)), (10, ev 9 .ireturn 11 .null), (11, e1 (.aload_n 0) 12), (12, e1 (.iload_n 1) 13), (13, er 4 (.invokevirtual 133) 16 72 1 0), (16, er 2 (.ifCond .ne 6) 19 22 0 0), (19, ev 0 (.bipush 119) 21 (.int 119)), (21, ev 9 .ireturn 22 .null), (22, e1 (.aload_n 0) 23), (23, er 3 (.getfield 56) 26 6 14 0), (26, e1 (.iload_n 1) 27), (27, ev 3 .iaload 28 .null), (28, ev 6 (.tableswitch 37 1 3 #[28, 31, 34]) 56 .null), (56, ev 0 (.bipush 116) 58 (.int 116)), (58, ev 9 .ireturn 59 .null), (59, ev 0 (.bipush 109) 61 (.int 109)), (61, ev 9 .ireturn 62 .null), (62, ev 0 (.bipush 98) 64 (.int 98)), (64, ev 9 .ireturn 65 .null), (65, ev 0 (.bipush 102) 67 (.int 102)), (67, ev 9 .ireturn 68 .null)]
def cd_X8_signOf (pc : Nat) : List (Nat × Ent) := cl_X8_signOf_0
def ca_X8_signOf : List (Nat × Ent) := cl_X8_signOf_0
def cl_X8_accountOf_0 : List (Nat × Ent) := [(0, e1 (.iload_n 1) 1), (1, ev 6 (.tableswitch 117 0 12 #[67, 72, 77, 82, 87, 92, 98, 117, 117, 117, 117, 103, 108]) 68 .null), (68, e1 (.aload_n 0) 69), (69, er 3 (.getfield 9) 72 6 0 0), (72, ev 9 .ireturn 73 .null), (73, e1 (.aload_n 0) 74), (74, er 3 (.getfield 15) 77 6 1 0), (77, ev 9 .ireturn 78 .null), (78, e1 (.aload_n 0) 79), (79, er 3 (.getfield 18) 82 6 2 0), (82, ev 9 .ireturn 83 .null), (83, e1 (.aload_n 0) 84), (84, er 3 (.getfield 21) 87 6 3 0), (87, ev 9 .ireturn 88 .null), (88, e1 (.aload_n 0) 89), (89, er 3 (.getfield 24) 92 6 4 0), (92, ev 9 .ireturn 93 .null), (93, e1 (.aload_n 0) 94), (94, ev 0 (.iconst 0) 95 (.int 0)), (95, er 4 (.invokevirtual 136) 98 92 1 0), (98, ev 9 .ireturn 99 .null), (99, e1 (.aload_n 0) 100), (100, er 4 (.invokevirtual 139) 103 91 0 0), (103, ev 9 .ireturn 104 .null), (104, e1 (.aload_n 0) 105), (105, er 4 (.invokevirtual 143) 108 94 0 0), (108, ev 9 .ireturn 109 .null), (109, e1 (.aload_n 0) 110), (110, e1 (.aload_n 0) 111), (111, er 4 (.invokevirtual 146) 114 74 0 0), (114, er 4 (.invokevirtual 149) 117 75 1 0), (117, ev 9 .ireturn 118 .null), (118, e1 (.aload_n 0) 119), (119, e1 (.iload_n 1) 120), (120, ev 0 (.bipush 6) 122 (.int 6)), (122, e0 .isub 123), (123, er 4 (.invokevirtual 152) 126 93 1 0), (126, ev 9 .ireturn 127 .null)]
def cd_X8_accountOf (pc : Nat) : List (Nat × Ent) := cl_X8_accountOf_0
def ca_X8_accountOf : List (Nat × Ent) := cl_X8_accountOf_0
def cl_X8_countOnWall_0 : List (Nat × Ent) := [(0, e1 (.aload_n 0) 1), (1, ev 0 (.iconst 1) 2 (.int 1)), (2, er 4 (.invokevirtual 136) 5 92 1 0), (5, ev 9 .ireturn 6 .null)]
def cd_X8_countOnWall (pc : Nat) : List (Nat × Ent) := cl_X8_countOnWall_0
def ca_X8_countOnWall : List (Nat × Ent) := cl_X8_countOnWall_0
def cl_X8_countStates_0 : List (Nat × Ent) := [(0, ev 0 (.iconst 0) 1 (.int 0)), (1, e1 (.istore_n 2) 2), (2, ev 0 (.iconst 0) 3 (.int 0)), (3, e1 (.istore_n 3) 4), (4, e1 (.iload_n 3) 5), (5, ev 0 (.bipush 40) 7 (.int 40)), (7, er 2 (.if_icmp .ge 22) 10 29 0 0), (10, e1 (.aload_n 0) 11), (11, er 3 (.getfield 41) 14 6 9 0), (14, e1 (.iload_n 3) 15), (15, ev 3 .iaload 16 .null), (16, e1 (.iload_n 1) 17), (17, er 2 (.if_icmp .ne 6) 20 23 0 0), (20, ev 1 (.iinc 2 1) 23 (.int 1)), (23, ev 1 (.iinc 3 1) 26 (.int 1)), (26, er 2 (.goto (-22)) 29 4 0 0), (29, e1 (.iload_n 2) 30), (30, ev 9 .ireturn 31 .null)]
def cd_X8_countStates (pc : Nat) : List (Nat × Ent) := cl_X8_countStates_0
def ca_X8_countStates : List (Nat × Ent) := cl_X8_countStates_0
def cl_X8_countCauses_0 : List (Nat × Ent) := [(0, ev 0 (.iconst 0) 1 (.int 0)), (1, e1 (.istore_n 2) 2), (2, ev 0 (.iconst 0) 3 (.int 0)), (3, e1 (.istore_n 3) 4), (4, e1 (.iload_n 3) 5), (5, ev 0 (.bipush 40) 7 (.int 40)), (7, er 2 (.if_icmp .ge 32) 10 39 0 0), (10, e1 (.aload_n 0) 11), (11, er 3 (.getfield 41) 14 6 9 0), (14, e1 (.iload_n 3) 15), (15, ev 3 .iaload 16 .null), (16, ev 0 (.iconst 2) 17 (.int 2)), (17, er 2 (.if_icmp .ne 16) 20 33 0 0), (20, e1 (.aload_n 0) 21), (21, er 3 (.getfield 56) 24 6 14 0), (24, e1 (.iload_n 3) 25), (25, ev 3 .iaload 26 .null), (26, e1 (.iload_n 1) 27), (27, er 2 (.if_icmp .ne 6) 30 33 0 0), (30, ev 1 (.iinc 2 1) 33 (.int 1)), (33, ev 1 (.iinc 3 1) 36 (.int 1)), (36, er 2 (.goto (-32)) 39 4 0 0), (39, e1 (.iload_n 2) 40), (40, ev 9 .ireturn 41 .null)]
def cd_X8_countCauses (pc : Nat) : List (Nat × Ent) := cl_X8_countCauses_0
def ca_X8_countCauses : List (Nat × Ent) := cl_X8_countCauses_0
def cl_X8_countFilledColumns_0 : List (Nat × Ent) := [(0, ev 0 (.iconst 0) 1 (.int 0)), (1, e1 (.istore_n 1) 2), (2, ev 0 (.iconst 0) 3 (.int 0)), (3, e1 (.istore_n 2) 4), (4, e1 (.iload_n 2) 5), (5, e1 (.aload_n 0) 6), (6, er 3 (.getfield 59) 9 6 15 0), (9, ev 3 .arraylength 10 .null), (10, er 2 (.if_icmp .ge 21) 13 31 0 0), (13, e1 (.aload_n 0) 14), (14, er 3 (.getfield 59) 17 6 15 0), (17, e1 (.iload_n 2) 18), (18, ev 3 .iaload 19 .null), (19, er 2 (.ifCond .lt 6) 22 25 0 0), (22, ev 1 (.iinc 1 1) 25 (.int 1)), (25, ev 1 (.iinc 2 1) 28 (.int 1)), (28, er 2 (.goto (-24)) 31 4 0 0), (31, e1 (.iload_n 1) 32), (32, ev 9 .ireturn 33 .null)]
def cd_X8_countFilledColumns (pc : Nat) : List (Nat × Ent) := cl_X8_countFilledColumns_0
def ca_X8_countFilledColumns : List (Nat × Ent) := cl_X8_countFilledColumns_0
def cl_X8_sumOfMasses_0 : List (Nat × Ent) := [(0, ev 0 (.dconst 0) 1 (.double 0)), (1, e1 (.dstore_n 1) 2), (2, ev 0 (.iconst 0) 3 (.int 0)), (3, e1 (.istore_n 3) 4), (4, e1 (.iload_n 3) 5), (5, ev 0 (.bipush 40) 7 (.int 40)), (7, er 2 (.if_icmp .ge 29) 10 36 0 0), (10, e1 (.aload_n 0) 11), (11, er 3 (.getfield 41) 14 6 9 0), (14, e1 (.iload_n 3) 15), (15, ev 3 .iaload 16 .null), (16, ev 0 (.iconst 1) 17 (.int 1)), (17, er 2 (.if_icmp .ne 13) 20 30 0 0), (20, e1 (.dload_n 1) 21), (21, e1 (.aload_n 0) 22), (22, er 3 (.getfield 37) 25 6 8 0), (25, e1 (.iload_n 3) 26), (26, ev 3 .faload 27 .null), (27, e0 .f2d 28), (28, e0 .dadd 29), (29, e1 (.dstore_n 1) 30), (30, ev 1 (.iinc 3 1) 33 (.int 1)), (33, er 2 (.goto (-29)) 36 4 0 0), (36, e1 (.dload_n 1) 37), (37, ev 9 .dreturn 38 .null)]
def cd_X8_sumOfMasses (pc : Nat) : List (Nat × Ent) := cl_X8_sumOfMasses_0
def ca_X8_sumOfMasses : List (Nat × Ent) := cl_X8_sumOfMasses_0
def cl_X9_init_0 : List (Nat × Ent) := [(0, e1 (.aload_n 0) 1), (1, ev 7 (.invokespecial 3) 4 .null), (4, e1 (.aload_n 0) 5), (5, ev 7 (.new 9) 8 .null), (8, e0 .dup 9), (9, ev 7 (.invokespecial 11) 12 .null), (12, er 7 (.putfield 12) 15 7 0 0), (15, e1 (.aload_n 0) 16), (16, ev 0 (.iconst 0) 17 (.int 0)), (17, er 3 (.putfield 18) 20 7 1 0), (20, e1 (.aload_n 0) 21), (21, ev 0 (.iconst 0) 22 (.int 0)), (22, er 3 (.putfield 22) 25 7 2 0), (25, ev 9 .return_ 26 .null)]
def cd_X9_init (pc : Nat) : List (Nat × Ent) := cl_X9_init_0
def ca_X9_init : List (Nat × Ent) := cl_X9_init_0
def cl_X9_faultOf_0 : List (Nat × Ent) := [(0, e1 (.iload_n 2) 1), (1, ev 6 (.tableswitch 120 108 120 #[102, 120, 120, 120, 120, 120, 120, 91, 67, 120, 75, 120, 113]) 68 .null), (68, e1 (.aload_n 0) 69), (69, e1 (.iload_n 3) 70), (70, e1 (.iload 4) 72), (72, er 4 (.invokevirtual 25) 75 100 2 0), (75, ev 9 .ireturn 76 .null), (76, e1 (.iload_n 3) 77), (77, er 2 (.ifCond .lt 9) 80 86 0 0), (80, e1 (.iload_n 3) 81), (81, ev 0 (.bipush 50) 83 (.int 50)), (83, er 2 (.if_icmp .le 7) 86 90 0 0), (86, ev 0 (.iconst 2) 87 (.int 2)), (87, er 2 (.goto 4) 90 91 0 0), (90, ev 0 (.iconst 0) 91 (.int 0)), (91, ev 9 .ireturn 92 .null), (92, e1 (.aload_n 0) 93), (93, e1 (.aload_n 1) 94), (94, e1 (.iload_n 3) 95), (95, e1 (.iload 4) 97), (97, e1 (.iload 5) 99), (99, er 4 (.invokevirtual 29) 102 103 4 0), (102, ev 9 .ireturn 103 .null), (103, e1 (.aload_n 0) 104), (104, e1 (.aload_n 1) 105), (105, e1 (.iload_n 3) 106), (106, e1 (.iload 4) 108), (108, e1 (.iload 5) 110), (110, er 4 (.invokevirtual 33) 113 104 4 0), (113, ev 9 .ireturn 114 .null), (114, e1 (.aload_n 0) 115), (115, e1 (.aload_n 1) 116), (116, e1 (.iload_n 3) 117), (117, er 4 (.invokevirtual 36) 120 105 2 0), (120, ev 9 .ireturn 121 .null), (121, e1 (.iload_n 3) 122), (122, ev 0 (.iconst 1) 123 (.int 1)), (123, er 2 (.if_icmp .lt 9) 126 132 0 0), (126, e1 (.iload_n 3) 127), (127, ev 0 (.bipush 48) 129 (.int 48))]
def cl_X9_faultOf_1 : List (Nat × Ent) := [(129, er 2 (.if_icmp .le 7) 132 136 0 0), (132, ev 0 (.iconst 2) 133 (.int 2)), (133, er 2 (.goto 4) 136 137 0 0), (136, ev 0 (.iconst 0) 137 (.int 0)), (137, ev 9 .ireturn 138 .null)]
def cd_X9_faultOf (pc : Nat) : List (Nat × Ent) := bif Nat.blt pc 129 then (cl_X9_faultOf_0) else (cl_X9_faultOf_1)
def ca_X9_faultOf : List (Nat × Ent) := cl_X9_faultOf_0 ++ cl_X9_faultOf_1
def cl_X9_perform_0 : List (Nat × Ent) := [(0, e1 (.iload_n 2) 1), (1, ev 6 (.tableswitch 121 108 120 #[93, 121, 121, 121, 121, 121, 121, 83, 67, 121, 76, 121, 108]) 68 .null), (68, e1 (.aload_n 0) 69), (69, e1 (.aload_n 1) 70), (70, e1 (.iload_n 3) 71), (71, e1 (.iload 4) 73), (73, er 4 (.invokevirtual 40) 76 101 3 0), (76, ev 9 .ireturn 77 .null), (77, e1 (.aload_n 0) 78), (78, e1 (.aload_n 1) 79), (79, e1 (.iload_n 3) 80), (80, er 4 (.invokevirtual 44) 83 102 2 0), (83, ev 9 .ireturn 84 .null), (84, e1 (.aload_n 1) 85), (85, e1 (.iload_n 3) 86), (86, e1 (.iload 4) 88), (88, e1 (.iload 5) 90), (90, er 4 (.invokevirtual 47) 93 83 3 0), (93, ev 9 .ireturn 94 .null), (94, e1 (.aload_n 1) 95), (95, e1 (.iload_n 3) 96), (96, e1 (.iload 4) 98), (98, e1 (.iload 5) 100), (100, er 4 (.invokevirtual 53) 103 84 3 0), (103, e1 (.aload_n 1) 104), (104, e1 (.iload_n 3) 105), (105, er 4 (.invokevirtual 57) 108 80 1 0), (108, ev 9 .ireturn 109 .null), (109, e1 (.aload_n 1) 110), (110, e1 (.iload_n 3) 111), (111, ev 0 (.iconst 1) 112 (.int 1)), (112, er 4 (.invokevirtual 61) 115 85 2 0), (115, e1 (.aload_n 1) 116), (116, e1 (.iload_n 3) 117), (117, ev 0 (.iconst 1) 118 (.int 1)), (118, er 4 (.invokevirtual 65) 121 88 2 0), (121, ev 9 .ireturn 122 .null), (122, e1 (.aload_n 0) 123), (123, er 3 (.getfield 12) 126 7 0 0), (126, e1 (.aload_n 1) 127)]
def cl_X9_perform_1 : List (Nat × Ent) := [(127, e1 (.iload_n 3) 128), (128, er 4 (.invokevirtual 68) 131 17 2 0), (131, ev 9 .ireturn 132 .null)]
def cd_X9_perform (pc : Nat) : List (Nat × Ent) := bif Nat.blt pc 127 then (cl_X9_perform_0) else (cl_X9_perform_1)
def ca_X9_perform : List (Nat × Ent) := cl_X9_perform_0 ++ cl_X9_perform_1
def cl_X9_refuse_0 : List (Nat × Ent) := [(0, e1 (.aload_n 0) 1), (1, e1 (.iload_n 1) 2), (2, er 3 (.putfield 18) 5 7 1 0), (5, e1 (.aload_n 0) 6), (6, e1 (.iload_n 2) 7), (7, er 3 (.putfield 22) 10 7 2 0), (10, ev 0 (.iconst 3) 11 (.int 3)), (11, ev 9 .ireturn 12 .null)]
def cd_X9_refuse (pc : Nat) : List (Nat × Ent) := cl_X9_refuse_0
def ca_X9_refuse : List (Nat × Ent) := cl_X9_refuse_0
def cl_X9_faultOfTemperature_0 : List (Nat × Ent) := [(0, e1 (.iload_n 1) 1), (1, er 4 (.invokestatic 71) 4 67 1 1), (4, er 2 (.ifCond .ne 5) 7 9 0 0), (7, ev 0 (.iconst 1) 8 (.int 1)), (8, ev 9 .ireturn 9 .null), (9, e1 (.iload_n 2) 10), (10, ev 0 (.bipush (-30)) 12 (.int (-30))), (12, er 2 (.if_icmp .lt 9) 15 21 0 0), (15, e1 (.iload_n 2) 16), (16, ev 0 (.bipush 20) 18 (.int 20)), (18, er 2 (.if_icmp .le 7) 21 25 0 0), (21, ev 0 (.iconst 2) 22 (.int 2)), (22, er 2 (.goto 4) 25 26 0 0), (25, ev 0 (.iconst 0) 26 (.int 0)), (26, ev 9 .ireturn 27 .null)]
def cd_X9_faultOfTemperature (pc : Nat) : List (Nat × Ent) := cl_X9_faultOfTemperature_0
def ca_X9_faultOfTemperature : List (Nat × Ent) := cl_X9_faultOfTemperature_0
def cl_X9_setTemperature_0 : List (Nat × Ent) := [(0, e1 (.aload_n 1) 1), (1, e1 (.iload_n 2) 2), (2, er 4 (.invokevirtual 75) 5 75 1 0), (5, e1 (.istore 4) 7), (7, e1 (.iload_n 2) 8), (8, er 4 (.invokestatic 71) 11 67 1 1), (11, er 2 (.ifCond .eq 10) 14 21 0 0), (14, e1 (.aload_n 1) 15), (15, er 3 (.getfield 78) 18 6 5 0), (18, e1 (.iload_n 2) 19), (19, e1 (.iload_n 3) 20), (20, ev 3 .iastore 21 .null), (21, e1 (.iload 4) 23), (23, ev 9 .ireturn 24 .null)]
def cd_X9_setTemperature (pc : Nat) : List (Nat × Ent) := cl_X9_setTemperature_0
def ca_X9_setTemperature : List (Nat × Ent) := cl_X9_setTemperature_0
def cl_X9_setVisitors_0 : List (Nat × Ent) := [(0, e1 (.aload_n 1) 1), (1, er 3 (.getfield 82) 4 6 3 0), (4, e1 (.istore_n 3) 5), (5, e1 (.aload_n 1) 6), (6, e1 (.iload_n 2) 7), (7, er 3 (.putfield 82) 10 6 3 0), (10, e1 (.iload_n 3) 11), (11, ev 9 .ireturn 12 .null)]
def cd_X9_setVisitors (pc : Nat) : List (Nat × Ent) := cl_X9_setVisitors_0
def ca_X9_setVisitors : List (Nat × Ent) := cl_X9_setVisitors_0
def cl_X9_faultOfSawing_0 : List (Nat × Ent) := [(0, e1 (.iload 4) 2), (2, er 4 (.invokestatic 85) 5 68 1 1), (5, er 2 (.ifCond .ne 5) 8 10 0 0), (8, ev 0 (.iconst 1) 9 (.int 1)), (9, ev 9 .ireturn 10 .null), (10, e1 (.iload_n 2) 11), (11, er 2 (.ifCond .lt 19) 14 30 0 0), (14, e1 (.iload_n 2) 15), (15, ev 0 (.iconst 1) 16 (.int 1)), (16, er 2 (.if_icmp .gt 14) 19 30 0 0), (19, e1 (.iload_n 3) 20), (20, ev 0 (.iconst 1) 21 (.int 1)), (21, er 2 (.if_icmp .lt 9) 24 30 0 0), (24, e1 (.iload_n 3) 25), (25, ev 0 (.bipush 6) 27 (.int 6)), (27, er 2 (.if_icmp .le 5) 30 32 0 0), (30, ev 0 (.iconst 2) 31 (.int 2)), (31, ev 9 .ireturn 32 .null), (32, e1 (.aload_n 1) 33), (33, er 3 (.getfield 88) 36 6 4 0), (36, ev 0 (.bipush 40) 38 (.int 40)), (38, er 2 (.if_icmp .lt 11) 41 49 0 0), (41, e1 (.aload_n 0) 42), (42, ev 0 (.iconst 1) 43 (.int 1)), (43, ev 0 (.bipush 40) 45 (.int 40)), (45, er 4 (.invokevirtual 91) 48 99 2 0), (48, ev 9 .ireturn 49 .null), (49, e1 (.aload_n 1) 50), (50, er 3 (.getfield 94) 53 6 1 0), (53, ev 0 (.bipush 10) 55 (.int 10)), (55, er 2 (.if_icmp .ge 13) 58 68 0 0), (58, e1 (.aload_n 0) 59), (59, ev 0 (.iconst 2) 60 (.int 2)), (60, e1 (.aload_n 1) 61), (61, er 3 (.getfield 94) 64 6 1 0), (64, er 4 (.invokevirtual 91) 67 99 2 0), (67, ev 9 .ireturn 68 .null), (68, e1 (.aload_n 1) 69), (69, er 3 (.getfield 97) 72 6 2 0), (72, e1 (.iload_n 3) 73)]
def cl_X9_faultOfSawing_1 : List (Nat × Ent) := [(73, er 2 (.if_icmp .ge 13) 76 86 0 0), (76, e1 (.aload_n 0) 77), (77, ev 0 (.iconst 3) 78 (.int 3)), (78, e1 (.aload_n 1) 79), (79, er 3 (.getfield 97) 82 6 2 0), (82, er 4 (.invokevirtual 91) 85 99 2 0), (85, ev 9 .ireturn 86 .null), (86, e1 (.aload_n 1) 87), (87, e1 (.iload 4) 89), (89, er 4 (.invokevirtual 100) 92 78 1 0), (92, er 2 (.ifCond .ge 11) 95 103 0 0), (95, e1 (.aload_n 0) 96), (96, ev 0 (.iconst 4) 97 (.int 4)), (97, e1 (.iload 4) 99), (99, er 4 (.invokevirtual 91) 102 99 2 0), (102, ev 9 .ireturn 103 .null), (103, e1 (.iload 4) 105), (105, e1 (.iload_n 2) 106), (106, er 2 (.if_icmp .eq 13) 109 119 0 0), (109, e1 (.aload_n 0) 110), (110, ev 0 (.iconst 5) 111 (.int 5)), (111, e1 (.iload 4) 113), (113, er 4 (.invokevirtual 91) 116 99 2 0), (116, er 2 (.goto 4) 119 120 0 0), (119, ev 0 (.iconst 0) 120 (.int 0)), (120, ev 9 .ireturn 121 .null)]
def cd_X9_faultOfSawing (pc : Nat) : List (Nat × Ent) := bif Nat.blt pc 73 then (cl_X9_faultOfSawing_0) else (cl_X9_faultOfSawing_1)
def ca_X9_faultOfSawing : List (Nat × Ent) := cl_X9_faultOfSawing_0 ++ cl_X9_faultOfSawing_1
def cl_X9_faultOfLaying_0 : List (Nat × Ent) := [(0, e1 (.aload_n 1) 1), (1, e1 (.iload_n 2) 2), (2, er 4 (.invokevirtual 103) 5 69 1 0), (5, er 2 (.ifCond .eq 18) 8 23 0 0), (8, e1 (.iload_n 3) 9), (9, er 4 (.invokestatic 106) 12 65 1 1), (12, er 2 (.ifCond .eq 11) 15 23 0 0), (15, e1 (.iload 4) 17), (17, er 4 (.invokestatic 109) 20 66 1 1), (20, er 2 (.ifCond .ne 5) 23 25 0 0), (23, ev 0 (.iconst 1) 24 (.int 1)), (24, ev 9 .ireturn 25 .null), (25, e1 (.aload_n 1) 26), (26, e1 (.iload_n 2) 27), (27, er 4 (.invokevirtual 112) 30 71 1 0), (30, er 2 (.ifCond .ne 11) 33 41 0 0), (33, e1 (.aload_n 0) 34), (34, ev 0 (.bipush 6) 36 (.int 6)), (36, e1 (.iload_n 2) 37), (37, er 4 (.invokevirtual 91) 40 99 2 0), (40, ev 9 .ireturn 41 .null), (41, e1 (.aload_n 1) 42), (42, er 3 (.getfield 115) 45 6 7 0), (45, e1 (.iload_n 2) 46), (46, ev 3 .iaload 47 .null), (47, e1 (.istore 5) 49), (49, e1 (.iload_n 3) 50), (50, e1 (.iload 5) 52), (52, e0 .iadd 53), (53, ev 0 (.bipush 12) 55 (.int 12)), (55, er 2 (.if_icmp .le 17) 58 72 0 0), (58, e1 (.aload_n 0) 59), (59, ev 0 (.bipush 7) 61 (.int 7)), (61, e1 (.iload_n 3) 62), (62, e1 (.iload 5) 64), (64, e0 .iadd 65), (65, ev 0 (.bipush 12) 67 (.int 12)), (67, e0 .isub 68), (68, er 4 (.invokevirtual 91) 71 99 2 0), (71, ev 9 .ireturn 72 .null)]
def cl_X9_faultOfLaying_1 : List (Nat × Ent) := [(72, ev 0 (.iconst 0) 73 (.int 0)), (73, e1 (.istore 6) 75), (75, e1 (.iload 6) 77), (77, e1 (.iload 5) 79), (79, er 2 (.if_icmp .ge 35) 82 114 0 0), (82, e1 (.aload_n 1) 83), (83, e1 (.iload_n 3) 84), (84, e1 (.iload 6) 86), (86, e0 .iadd 87), (87, e1 (.iload 4) 89), (89, er 4 (.invokevirtual 118) 92 76 2 0), (92, e1 (.istore 7) 94), (94, e1 (.iload 7) 96), (96, er 2 (.ifCond .lt 12) 99 108 0 0), (99, e1 (.aload_n 0) 100), (100, ev 0 (.bipush 8) 102 (.int 8)), (102, e1 (.iload 7) 104), (104, er 4 (.invokevirtual 91) 107 99 2 0), (107, ev 9 .ireturn 108 .null), (108, ev 1 (.iinc 6 1) 111 (.int 1)), (111, er 2 (.goto (-36)) 114 75 0 0), (114, e1 (.aload_n 1) 115), (115, e1 (.iload_n 3) 116), (116, e1 (.iload 5) 118), (118, e1 (.iload 4) 120), (120, er 4 (.invokevirtual 121) 123 79 3 0), (123, e1 (.istore 6) 125), (125, e1 (.iload 6) 127), (127, ev 0 (.iconst 2) 128 (.int 2)), (128, e0 .imul 129), (129, e1 (.iload 5) 131), (131, er 2 (.if_icmp .ge 14) 134 145 0 0), (134, e1 (.aload_n 0) 135), (135, ev 0 (.bipush 9) 137 (.int 9)), (137, e1 (.iload 6) 139), (139, er 4 (.invokevirtual 91) 142 99 2 0), (142, er 2 (.goto 4) 145 146 0 0), (145, ev 0 (.iconst 0) 146 (.int 0)), (146, ev 9 .ireturn 147 .null)]
def cd_X9_faultOfLaying (pc : Nat) : List (Nat × Ent) := bif Nat.blt pc 72 then (cl_X9_faultOfLaying_0) else (cl_X9_faultOfLaying_1)
def ca_X9_faultOfLaying : List (Nat × Ent) := cl_X9_faultOfLaying_0 ++ cl_X9_faultOfLaying_1
def cl_X9_faultOfTaking_0 : List (Nat × Ent) := [(0, e1 (.aload_n 1) 1), (1, e1 (.iload_n 2) 2), (2, er 4 (.invokevirtual 103) 5 69 1 0), (5, er 2 (.ifCond .ne 5) 8 10 0 0), (8, ev 0 (.iconst 1) 9 (.int 1)), (9, ev 9 .ireturn 10 .null), (10, e1 (.aload_n 1) 11), (11, e1 (.iload_n 2) 12), (12, er 4 (.invokevirtual 112) 15 71 1 0), (15, er 2 (.ifCond .eq 7) 18 22 0 0), (18, ev 0 (.iconst 0) 19 (.int 0)), (19, er 2 (.goto 10) 22 29 0 0), (22, e1 (.aload_n 0) 23), (23, ev 0 (.bipush 6) 25 (.int 6)), (25, e1 (.iload_n 2) 26), (26, er 4 (.invokevirtual 91) 29 99 2 0), (29, ev 9 .ireturn 30 .null)]
def cd_X9_faultOfTaking (pc : Nat) : List (Nat × Ent) := cl_X9_faultOfTaking_0
def ca_X9_faultOfTaking : List (Nat × Ent) := cl_X9_faultOfTaking_0
def cl_X10_init_0 : List (Nat × Ent) := [(0, e1 (.aload_n 0) 1), (1, ev 7 (.invokespecial 1) 4 .null), (4, e1 (.aload_n 0) 5), (5, ev 7 (.new 7) 8 .null), (8, e0 .dup 9), (9, ev 7 (.invokespecial 9) 12 .null), (12, er 7 (.putfield 10) 15 8 0 0), (15, e1 (.aload_n 0) 16), (16, ev 7 (.new 7) 19 .null), (19, e0 .dup 20), (20, ev 7 (.invokespecial 9) 23 .null), (23, er 7 (.putfield 16) 26 8 1 0), (26, e1 (.aload_n 0) 27), (27, ev 7 (.new 7) 30 .null), (30, e0 .dup 31), (31, ev 7 (.invokespecial 9) 34 .null), (34, er 7 (.putfield 19) 37 8 2 0), (37, e1 (.aload_n 0) 38), (38, ev 7 (.new 22) 41 .null), (41, e0 .dup 42), (42, ev 7 (.invokespecial 24) 45 .null), (45, er 7 (.putfield 25) 48 8 3 0), (48, e1 (.aload_n 0) 49), (49, ev 7 (.new 29) 52 .null), (52, e0 .dup 53), (53, ev 7 (.invokespecial 31) 56 .null), (56, er 7 (.putfield 32) 59 8 4 0), (59, e1 (.aload_n 0) 60), (60, ev 7 (.new 36) 63 .null), (63, e0 .dup 64), (64, ev 7 (.invokespecial 38) 67 .null), (67, er 7 (.putfield 39) 70 8 5 0), (70, e1 (.aload_n 0) 71), (71, ev 7 (.new 43) 74 .null), (74, e0 .dup 75), (75, ev 7 (.invokespecial 45) 78 .null), (78, er 7 (.putfield 46) 81 8 6 0), (81, e1 (.aload_n 0) 82), (82, ev 7 (.new 50) 85 .null), (85, e0 .dup 86)]
def cl_X10_init_1 : List (Nat × Ent) := [(86, ev 7 (.invokespecial 52) 89 .null), (89, er 7 (.putfield 53) 92 8 7 0), (92, e1 (.aload_n 0) 93), (93, ev 7 (.new 57) 96 .null), (96, e0 .dup 97), (97, ev 7 (.invokespecial 59) 100 .null), (100, er 7 (.putfield 60) 103 8 8 0), (103, e1 (.aload_n 0) 104), (104, ev 0 (.iconst 0) 105 (.int 0)), (105, er 3 (.putfield 64) 108 8 9 0), (108, ev 9 .return_ 109 .null)]
def cd_X10_init (pc : Nat) : List (Nat × Ent) := bif Nat.blt pc 86 then (cl_X10_init_0) else (cl_X10_init_1)
def ca_X10_init : List (Nat × Ent) := cl_X10_init_0 ++ cl_X10_init_1
def cl_X10_heat_0 : List (Nat × Ent) := [(0, e1 (.aload_n 0) 1), (1, e1 (.aload_n 0) 2), (2, er 3 (.getfield 25) 5 8 3 0), (5, e1 (.aload_n 0) 6), (6, er 3 (.getfield 10) 9 8 0 0), (9, ev 0 (.bipush 116) 11 (.int 116)), (11, e1 (.iload_n 1) 12), (12, e1 (.iload_n 2) 13), (13, ev 0 (.iconst 0) 14 (.int 0)), (14, er 4 (.invokevirtual 68) 17 97 5 0), (17, er 7 (.invokevirtual 72) 20 137 0 0), (20, e1 (.aload_n 0) 21), (21, er 3 (.getfield 25) 24 8 3 0), (24, e1 (.aload_n 0) 25), (25, er 3 (.getfield 10) 28 8 0 0), (28, ev 0 (.bipush 116) 30 (.int 116)), (30, e1 (.iload_n 1) 31), (31, e1 (.iload_n 2) 32), (32, ev 0 (.iconst 0) 33 (.int 0)), (33, er 4 (.invokevirtual 76) 36 98 5 0), (36, ev 9 .ireturn 37 .null)]
def cd_X10_heat (pc : Nat) : List (Nat × Ent) := cl_X10_heat_0
def ca_X10_heat : List (Nat × Ent) := cl_X10_heat_0
def cl_X10_visit_0 : List (Nat × Ent) := [(0, e1 (.aload_n 0) 1), (1, e1 (.aload_n 0) 2), (2, er 3 (.getfield 25) 5 8 3 0), (5, e1 (.aload_n 0) 6), (6, er 3 (.getfield 10) 9 8 0 0), (9, ev 0 (.bipush 118) 11 (.int 118)), (11, e1 (.iload_n 1) 12), (12, ev 0 (.iconst 0) 13 (.int 0)), (13, ev 0 (.iconst 0) 14 (.int 0)), (14, er 4 (.invokevirtual 68) 17 97 5 0), (17, er 7 (.invokevirtual 72) 20 137 0 0), (20, e1 (.aload_n 0) 21), (21, er 3 (.getfield 25) 24 8 3 0), (24, e1 (.aload_n 0) 25), (25, er 3 (.getfield 10) 28 8 0 0), (28, ev 0 (.bipush 118) 30 (.int 118)), (30, e1 (.iload_n 1) 31), (31, ev 0 (.iconst 0) 32 (.int 0)), (32, ev 0 (.iconst 0) 33 (.int 0)), (33, er 4 (.invokevirtual 76) 36 98 5 0), (36, ev 9 .ireturn 37 .null)]
def cd_X10_visit (pc : Nat) : List (Nat × Ent) := cl_X10_visit_0
def ca_X10_visit : List (Nat × Ent) := cl_X10_visit_0
def cl_X10_saw_0 : List (Nat × Ent) := [(0, e1 (.aload_n 0) 1), (1, e1 (.aload_n 0) 2), (2, er 3 (.getfield 25) 5 8 3 0), (5, e1 (.aload_n 0) 6), (6, er 3 (.getfield 10) 9 8 0 0), (9, ev 0 (.bipush 115) 11 (.int 115)), (11, e1 (.iload_n 1) 12), (12, e1 (.iload_n 2) 13), (13, e1 (.iload_n 3) 14), (14, er 4 (.invokevirtual 68) 17 97 5 0), (17, er 7 (.invokevirtual 72) 20 137 0 0), (20, e1 (.aload_n 0) 21), (21, er 3 (.getfield 25) 24 8 3 0), (24, e1 (.aload_n 0) 25), (25, er 3 (.getfield 10) 28 8 0 0), (28, ev 0 (.bipush 115) 30 (.int 115)), (30, e1 (.iload_n 1) 31), (31, e1 (.iload_n 2) 32), (32, e1 (.iload_n 3) 33), (33, er 4 (.invokevirtual 76) 36 98 5 0), (36, ev 9 .ireturn 37 .null)]
def cd_X10_saw (pc : Nat) : List (Nat × Ent) := cl_X10_saw_0
def ca_X10_saw : List (Nat × Ent) := cl_X10_saw_0
def cl_X10_lay_0 : List (Nat × Ent) := [(0, e1 (.aload_n 0) 1), (1, e1 (.aload_n 0) 2), (2, er 3 (.getfield 25) 5 8 3 0), (5, e1 (.aload_n 0) 6), (6, er 3 (.getfield 10) 9 8 0 0), (9, ev 0 (.bipush 108) 11 (.int 108)), (11, e1 (.iload_n 1) 12), (12, e1 (.iload_n 2) 13), (13, e1 (.iload_n 3) 14), (14, er 4 (.invokevirtual 68) 17 97 5 0), (17, er 7 (.invokevirtual 72) 20 137 0 0), (20, e1 (.aload_n 0) 21), (21, er 3 (.getfield 25) 24 8 3 0), (24, e1 (.aload_n 0) 25), (25, er 3 (.getfield 10) 28 8 0 0), (28, ev 0 (.bipush 108) 30 (.int 108)), (30, e1 (.iload_n 1) 31), (31, e1 (.iload_n 2) 32), (32, e1 (.iload_n 3) 33), (33, er 4 (.invokevirtual 76) 36 98 5 0), (36, ev 9 .ireturn 37 .null)]
def cd_X10_lay (pc : Nat) : List (Nat × Ent) := cl_X10_lay_0
def ca_X10_lay : List (Nat × Ent) := cl_X10_lay_0
def cl_X10_take_0 : List (Nat × Ent) := [(0, e1 (.aload_n 0) 1), (1, e1 (.aload_n 0) 2), (2, er 3 (.getfield 25) 5 8 3 0), (5, e1 (.aload_n 0) 6), (6, er 3 (.getfield 10) 9 8 0 0), (9, ev 0 (.bipush 120) 11 (.int 120)), (11, e1 (.iload_n 1) 12), (12, ev 0 (.iconst 0) 13 (.int 0)), (13, ev 0 (.iconst 0) 14 (.int 0)), (14, er 4 (.invokevirtual 68) 17 97 5 0), (17, er 7 (.invokevirtual 72) 20 137 0 0), (20, e1 (.aload_n 0) 21), (21, er 3 (.getfield 25) 24 8 3 0), (24, e1 (.aload_n 0) 25), (25, er 3 (.getfield 10) 28 8 0 0), (28, ev 0 (.bipush 120) 30 (.int 120)), (30, e1 (.iload_n 1) 31), (31, ev 0 (.iconst 0) 32 (.int 0)), (32, ev 0 (.iconst 0) 33 (.int 0)), (33, er 4 (.invokevirtual 76) 36 98 5 0), (36, ev 9 .ireturn 37 .null)]
def cd_X10_take (pc : Nat) : List (Nat × Ent) := cl_X10_take_0
def ca_X10_take : List (Nat × Ent) := cl_X10_take_0
def cl_X10_pass_0 : List (Nat × Ent) := [(0, e1 (.aload_n 0) 1), (1, e1 (.aload_n 0) 2), (2, er 3 (.getfield 25) 5 8 3 0), (5, e1 (.aload_n 0) 6), (6, er 3 (.getfield 10) 9 8 0 0), (9, ev 0 (.bipush 104) 11 (.int 104)), (11, e1 (.iload_n 1) 12), (12, ev 0 (.iconst 0) 13 (.int 0)), (13, ev 0 (.iconst 0) 14 (.int 0)), (14, er 4 (.invokevirtual 68) 17 97 5 0), (17, er 7 (.invokevirtual 72) 20 137 0 0), (20, e1 (.aload_n 0) 21), (21, er 3 (.getfield 25) 24 8 3 0), (24, e1 (.aload_n 0) 25), (25, er 3 (.getfield 10) 28 8 0 0), (28, ev 0 (.bipush 104) 30 (.int 104)), (30, e1 (.iload_n 1) 31), (31, ev 0 (.iconst 0) 32 (.int 0)), (32, ev 0 (.iconst 0) 33 (.int 0)), (33, er 4 (.invokevirtual 76) 36 98 5 0), (36, ev 9 .ireturn 37 .null)]
def cd_X10_pass (pc : Nat) : List (Nat × Ent) := cl_X10_pass_0
def ca_X10_pass : List (Nat × Ent) := cl_X10_pass_0
def cl_X10_blockOf_0 : List (Nat × Ent) := [(0, e1 (.aload_n 0) 1), (1, e1 (.iload_n 1) 2), (2, er 7 (.invokevirtual 79) 5 138 0 0), (5, e1 (.iload_n 2) 6), (6, er 2 (.ifCond .lt 9) 9 15 0 0), (9, e1 (.iload_n 2) 10), (10, ev 0 (.bipush 7) 12 (.int 7)), (12, er 2 (.if_icmp .le 11) 15 23 0 0), (15, ev 7 (.new 82) 18 .null), (18, e0 .dup 19), (19, ev 7 (.invokespecial 84) 22 .null), (22, ev 7 .athrow 23 .null), (23, e1 (.aload_n 0) 24), (24, er 3 (.getfield 10) 27 8 0 0), (27, e1 (.iload_n 1) 28), (28, e1 (.iload_n 2) 29), (29, er 4 (.invokevirtual 85) 32 88 2 0), (32, ev 9 .ireturn 33 .null)]
def cd_X10_blockOf (pc : Nat) : List (Nat × Ent) := cl_X10_blockOf_0
def ca_X10_blockOf : List (Nat × Ent) := cl_X10_blockOf_0
def cl_X10_mass_0 : List (Nat × Ent) := [(0, e1 (.aload_n 0) 1), (1, e1 (.iload_n 1) 2), (2, er 7 (.invokevirtual 79) 5 138 0 0), (5, e1 (.aload_n 0) 6), (6, er 3 (.getfield 10) 9 8 0 0), (9, e1 (.iload_n 1) 10), (10, er 4 (.invokevirtual 89) 13 72 1 0), (13, er 2 (.ifCond .eq 11) 16 24 0 0), (16, ev 7 (.new 93) 19 .null), (19, e0 .dup 20), (20, ev 7 (.invokespecial 95) 23 .null), (23, ev 7 .athrow 24 .null), (24, e1 (.aload_n 0) 25), (25, er 3 (.getfield 10) 28 8 0 0), (28, e1 (.iload_n 1) 29), (29, er 4 (.invokevirtual 96) 32 73 1 0), (32, ev 9 .freturn 33 .null)]
def cd_X10_mass (pc : Nat) : List (Nat × Ent) := cl_X10_mass_0
def ca_X10_mass : List (Nat × Ent) := cl_X10_mass_0
def cl_X10_load_0 : List (Nat × Ent) := [(0, e1 (.aload_n 0) 1), (1, e1 (.iload_n 1) 2), (2, er 7 (.invokevirtual 79) 5 138 0 0), (5, e1 (.aload_n 0) 6), (6, e1 (.iload_n 1) 7), (7, er 7 (.invokevirtual 100) 10 139 0 0), (10, e1 (.iload_n 2) 11), (11, er 2 (.ifCond .eq 15) 14 26 0 0), (14, e1 (.aload_n 0) 15), (15, er 3 (.getfield 10) 18 8 0 0), (18, e1 (.iload_n 1) 19), (19, er 4 (.invokestatic 103) 22 27 2 1), (22, er 4 (.invokestatic 107) 25 9 1 1), (25, ev 9 .ireturn 26 .null), (26, e1 (.aload_n 0) 27), (27, er 3 (.getfield 39) 30 8 5 0), (30, e1 (.aload_n 0) 31), (31, er 3 (.getfield 10) 34 8 0 0), (34, er 4 (.invokevirtual 113) 37 28 1 0), (37, e1 (.aload_n 0) 38), (38, er 3 (.getfield 39) 41 8 5 0), (41, e1 (.iload_n 1) 42), (42, er 4 (.invokevirtual 117) 45 26 1 0), (45, er 4 (.invokestatic 107) 48 9 1 1), (48, ev 9 .ireturn 49 .null)]
def cd_X10_load (pc : Nat) : List (Nat × Ent) := cl_X10_load_0
def ca_X10_load : List (Nat × Ent) := cl_X10_load_0
def cl_X10_loadAgain_0 : List (Nat × Ent) := [(0, e1 (.aload_n 0) 1), (1, e1 (.iload_n 1) 2), (2, er 7 (.invokevirtual 79) 5 138 0 0), (5, e1 (.aload_n 0) 6), (6, e1 (.iload_n 1) 7), (7, er 7 (.invokevirtual 100) 10 139 0 0), (10, e1 (.aload_n 0) 11), (11, er 3 (.getfield 10) 14 8 0 0), (14, e1 (.iload_n 1) 15), (15, er 4 (.invokestatic 120) 18 30 2 1), (18, er 4 (.invokestatic 107) 21 9 1 1), (21, ev 9 .ireturn 22 .null)]
def cd_X10_loadAgain (pc : Nat) : List (Nat × Ent) := cl_X10_loadAgain_0
def ca_X10_loadAgain : List (Nat × Ent) := cl_X10_loadAgain_0
def cl_X10_at_0 : List (Nat × Ent) := [(0, e1 (.iload_n 1) 1), (1, er 4 (.invokestatic 123) 4 65 1 1), (4, er 2 (.ifCond .eq 10) 7 14 0 0), (7, e1 (.iload_n 2) 8), (8, er 4 (.invokestatic 126) 11 66 1 1), (11, er 2 (.ifCond .ne 11) 14 22 0 0), (14, ev 7 (.new 129) 17 .null), (17, e0 .dup 18), (18, ev 7 (.invokespecial 131) 21 .null), (21, ev 7 .athrow 22 .null), (22, e1 (.aload_n 0) 23), (23, er 3 (.getfield 10) 26 8 0 0), (26, e1 (.iload_n 1) 27), (27, e1 (.iload_n 2) 28), (28, er 4 (.invokevirtual 132) 31 76 2 0), (31, ev 9 .ireturn 32 .null)]
def cd_X10_at (pc : Nat) : List (Nat × Ent) := cl_X10_at_0
def ca_X10_at : List (Nat × Ent) := cl_X10_at_0
def cl_X10_height_0 : List (Nat × Ent) := [(0, e1 (.iload_n 1) 1), (1, er 4 (.invokestatic 123) 4 65 1 1), (4, er 2 (.ifCond .ne 11) 7 15 0 0), (7, ev 7 (.new 129) 10 .null), (10, e0 .dup 11), (11, ev 7 (.invokespecial 131) 14 .null), (14, ev 7 .athrow 15 .null), (15, e1 (.aload_n 0) 16), (16, er 3 (.getfield 10) 19 8 0 0), (19, e1 (.iload_n 1) 20), (20, er 4 (.invokestatic 135) 23 55 2 1), (23, ev 9 .ireturn 24 .null)]
def cd_X10_height (pc : Nat) : List (Nat × Ent) := cl_X10_height_0
def ca_X10_height : List (Nat × Ent) := cl_X10_height_0
def cl_X10_isShady_0 : List (Nat × Ent) := [(0, e1 (.aload_n 0) 1), (1, e1 (.iload_n 1) 2), (2, er 7 (.invokevirtual 79) 5 138 0 0), (5, e1 (.iload_n 2) 6), (6, er 4 (.invokestatic 139) 9 67 1 1), (9, er 2 (.ifCond .ne 11) 12 20 0 0), (12, ev 7 (.new 129) 15 .null), (15, e0 .dup 16), (16, ev 7 (.invokespecial 131) 19 .null), (19, ev 7 .athrow 20 .null), (20, e1 (.aload_n 0) 21), (21, e1 (.iload_n 1) 22), (22, er 7 (.invokevirtual 100) 25 139 0 0), (25, e1 (.aload_n 0) 26), (26, er 3 (.getfield 46) 29 8 6 0), (29, e1 (.aload_n 0) 30), (30, er 3 (.getfield 10) 33 8 0 0), (33, er 4 (.invokevirtual 142) 36 56 1 0), (36, e1 (.aload_n 0) 37), (37, er 3 (.getfield 46) 40 8 6 0), (40, e1 (.aload_n 0) 41), (41, er 3 (.getfield 10) 44 8 0 0), (44, e1 (.iload_n 1) 45), (45, e1 (.iload_n 2) 46), (46, er 4 (.invokevirtual 145) 49 57 3 0), (49, ev 9 .ireturn 50 .null)]
def cd_X10_isShady (pc : Nat) : List (Nat × Ent) := cl_X10_isShady_0
def ca_X10_isShady : List (Nat × Ent) := cl_X10_isShady_0
def cl_X10_sign_0 : List (Nat × Ent) := [(0, e1 (.aload_n 0) 1), (1, e1 (.iload_n 1) 2), (2, er 7 (.invokevirtual 79) 5 138 0 0), (5, e1 (.aload_n 0) 6), (6, er 3 (.getfield 10) 9 8 0 0), (9, e1 (.iload_n 1) 10), (10, er 4 (.invokevirtual 149) 13 89 1 0), (13, ev 9 .ireturn 14 .null)]
def cd_X10_sign (pc : Nat) : List (Nat × Ent) := cl_X10_sign_0
def ca_X10_sign : List (Nat × Ent) := cl_X10_sign_0
def cl_X10_rooms_0 : List (Nat × Ent) := [(0, e1 (.iload_n 1) 1), (1, er 4 (.invokestatic 126) 4 66 1 1), (4, er 2 (.ifCond .ne 11) 7 15 0 0), (7, ev 7 (.new 129) 10 .null), (10, e0 .dup 11), (11, ev 7 (.invokespecial 131) 14 .null), (14, ev 7 .athrow 15 .null), (15, e1 (.iload_n 2) 16), (16, er 2 (.ifCond .lt 8) 19 24 0 0), (19, e1 (.iload_n 2) 20), (20, ev 0 (.iconst 2) 21 (.int 2)), (21, er 2 (.if_icmp .le 11) 24 32 0 0), (24, ev 7 (.new 82) 27 .null), (27, e0 .dup 28), (28, ev 7 (.invokespecial 84) 31 .null), (31, ev 7 .athrow 32 .null), (32, e1 (.aload_n 0) 33), (33, er 3 (.getfield 10) 36 8 0 0), (36, e1 (.iload_n 1) 37), (37, e1 (.iload_n 2) 38), (38, er 4 (.invokestatic 153) 41 60 3 1), (41, ev 9 .ireturn 42 .null)]
def cd_X10_rooms (pc : Nat) : List (Nat × Ent) := cl_X10_rooms_0
def ca_X10_rooms : List (Nat × Ent) := cl_X10_rooms_0
def cl_X10_inRack_0 : List (Nat × Ent) := [(0, e1 (.iload_n 1) 1), (1, er 4 (.invokestatic 157) 4 68 1 1), (4, er 2 (.ifCond .eq 12) 7 16 0 0), (7, e1 (.iload_n 2) 8), (8, er 2 (.ifCond .lt 8) 11 16 0 0), (11, e1 (.iload_n 2) 12), (12, ev 0 (.iconst 5) 13 (.int 5)), (13, er 2 (.if_icmp .lt 11) 16 24 0 0), (16, ev 7 (.new 129) 19 .null), (19, e0 .dup 20), (20, ev 7 (.invokespecial 131) 23 .null), (23, ev 7 .athrow 24 .null), (24, e1 (.aload_n 0) 25), (25, er 3 (.getfield 10) 28 8 0 0), (28, e1 (.iload_n 1) 29), (29, e1 (.iload_n 2) 30), (30, er 4 (.invokevirtual 160) 33 77 2 0), (33, ev 9 .ireturn 34 .null)]
def cd_X10_inRack (pc : Nat) : List (Nat × Ent) := cl_X10_inRack_0
def ca_X10_inRack : List (Nat × Ent) := cl_X10_inRack_0
def cl_X10_worst_0 : List (Nat × Ent) := [(0, e1 (.aload_n 0) 1), (1, er 3 (.getfield 39) 4 8 5 0), (4, e1 (.aload_n 0) 5), (5, er 3 (.getfield 10) 8 8 0 0), (8, er 4 (.invokevirtual 113) 11 28 1 0), (11, e1 (.aload_n 0) 12), (12, er 3 (.getfield 39) 15 8 5 0), (15, e1 (.aload_n 0) 16), (16, er 3 (.getfield 10) 19 8 0 0), (19, er 4 (.invokevirtual 163) 22 33 1 0), (22, e1 (.istore_n 1) 23), (23, e1 (.iload_n 1) 24), (24, er 2 (.ifCond .ge 11) 27 35 0 0), (27, ev 7 (.new 93) 30 .null), (30, e0 .dup 31), (31, ev 7 (.invokespecial 95) 34 .null), (34, ev 7 .athrow 35 .null), (35, e1 (.iload_n 1) 36), (36, ev 9 .ireturn 37 .null)]
def cd_X10_worst (pc : Nat) : List (Nat × Ent) := cl_X10_worst_0
def ca_X10_worst : List (Nat × Ent) := cl_X10_worst_0
def cl_X10_goneIn_0 : List (Nat × Ent) := [(0, e1 (.aload_n 0) 1), (1, er 3 (.getfield 32) 4 8 4 0), (4, e1 (.aload_n 0) 5), (5, er 3 (.getfield 10) 8 8 0 0), (8, er 4 (.invokevirtual 167) 11 1 1 0), (11, e1 (.istore_n 1) 12), (12, e1 (.iload_n 1) 13), (13, ev 0 (.iconst 1) 14 (.int 1)), (14, er 2 (.if_icmp .ge 11) 17 25 0 0), (17, ev 7 (.new 93) 20 .null), (20, e0 .dup 21), (21, ev 7 (.invokespecial 95) 24 .null), (24, ev 7 .athrow 25 .null), (25, e1 (.iload_n 1) 26), (26, ev 9 .ireturn 27 .null)]
def cd_X10_goneIn (pc : Nat) : List (Nat × Ent) := cl_X10_goneIn_0
def ca_X10_goneIn : List (Nat × Ent) := cl_X10_goneIn_0
def cl_X10_massBits_0 : List (Nat × Ent) := [(0, e1 (.aload_n 0) 1), (1, e1 (.iload_n 1) 2), (2, er 7 (.invokevirtual 79) 5 138 0 0), (5, e1 (.aload_n 0) 6), (6, e1 (.iload_n 2) 7), (7, er 7 (.invokevirtual 170) 10 140 0 0), (10, e1 (.aload_n 0) 11), (11, er 3 (.getfield 32) 14 8 4 0), (14, e1 (.aload_n 0) 15), (15, er 3 (.getfield 10) 18 8 0 0), (18, e1 (.iload_n 1) 19), (19, e1 (.iload_n 2) 20), (20, er 4 (.invokevirtual 173) 23 2 3 0), (23, ev 9 .ireturn 24 .null)]
def cd_X10_massBits (pc : Nat) : List (Nat × Ent) := cl_X10_massBits_0
def ca_X10_massBits : List (Nat × Ent) := cl_X10_massBits_0
def cl_X10_safe_0 : List (Nat × Ent) := [(0, ev 0 (.bipush 50) 2 (.int 50)), (2, e1 (.istore_n 1) 3), (3, e1 (.iload_n 1) 4), (4, er 2 (.ifCond .lt 26) 7 30 0 0), (7, e1 (.aload_n 0) 8), (8, er 3 (.getfield 32) 11 8 4 0), (11, e1 (.aload_n 0) 12), (12, er 3 (.getfield 10) 15 8 0 0), (15, e1 (.iload_n 1) 16), (16, er 4 (.invokevirtual 176) 19 4 2 0), (19, er 2 (.ifCond .eq 5) 22 24 0 0), (22, e1 (.iload_n 1) 23), (23, ev 9 .ireturn 24 .null), (24, ev 1 (.iinc 1 (-1)) 27 (.int (-1))), (27, er 2 (.goto (-24)) 30 3 0 0), (30, ev 7 (.new 93) 33 .null), (33, e0 .dup 34), (34, ev 7 (.invokespecial 95) 37 .null), (37, ev 7 .athrow 38 .null)]
def cd_X10_safe (pc : Nat) : List (Nat × Ent) := cl_X10_safe_0
def ca_X10_safe : List (Nat × Ent) := cl_X10_safe_0
def cl_X10_left_0 : List (Nat × Ent) := [(0, e1 (.aload_n 0) 1), (1, e1 (.iload_n 1) 2), (2, er 7 (.invokevirtual 170) 5 140 0 0), (5, e1 (.aload_n 0) 6), (6, er 3 (.getfield 32) 9 8 4 0), (9, e1 (.aload_n 0) 10), (10, er 3 (.getfield 10) 13 8 0 0), (13, e1 (.iload_n 1) 14), (14, er 4 (.invokevirtual 180) 17 3 2 0), (17, ev 9 .ireturn 18 .null)]
def cd_X10_left (pc : Nat) : List (Nat × Ent) := cl_X10_left_0
def ca_X10_left : List (Nat × Ent) := cl_X10_left_0
def cl_X10_append_0 : List (Nat × Ent) := [(0, e1 (.aload_n 0) 1), (1, er 3 (.getfield 60) 4 8 8 0), (4, er 4 (.invokevirtual 183) 7 35 0 0), (7, er 2 (.ifCond .ne 11) 10 18 0 0), (10, ev 7 (.new 187) 13 .null), (13, e0 .dup 14), (14, ev 7 (.invokespecial 189) 17 .null), (17, ev 7 .athrow 18 .null), (18, e1 (.aload_n 0) 19), (19, er 3 (.getfield 60) 22 8 8 0), (22, e1 (.iload_n 1) 23), (23, er 4 (.invokevirtual 190) 26 36 1 0), (26, e1 (.aload_n 0) 27), (27, er 3 (.getfield 60) 30 8 8 0), (30, er 4 (.invokevirtual 194) 33 38 0 0), (33, ev 9 .ireturn 34 .null)]
def cd_X10_append (pc : Nat) : List (Nat × Ent) := cl_X10_append_0
def ca_X10_append : List (Nat × Ent) := cl_X10_append_0
def cl_X10_read_0 : List (Nat × Ent) := [(0, e1 (.aload_n 0) 1), (1, er 3 (.getfield 60) 4 8 8 0), (4, er 4 (.invokevirtual 198) 7 45 0 0), (7, e1 (.istore_n 1) 8), (8, e1 (.aload_n 0) 9), (9, er 3 (.getfield 60) 12 8 8 0), (12, er 4 (.invokevirtual 201) 15 37 0 0), (15, e1 (.iload_n 1) 16), (16, er 2 (.ifCond .ne 11) 19 27 0 0), (19, ev 7 (.new 82) 22 .null), (22, e0 .dup 23), (23, ev 7 (.invokespecial 84) 26 .null), (26, ev 7 .athrow 27 .null), (27, e1 (.aload_n 0) 28), (28, er 3 (.getfield 16) 31 8 1 0), (31, e1 (.aload_n 0) 32), (32, er 3 (.getfield 10) 35 8 0 0), (35, er 4 (.invokevirtual 204) 38 64 1 0), (38, ev 0 (.iconst 0) 39 (.int 0)), (39, e1 (.istore_n 2) 40), (40, ev 0 (.iconst 0) 41 (.int 0)), (41, e1 (.istore_n 3) 42), (42, e1 (.iload_n 3) 43), (43, e1 (.aload_n 0) 44), (44, er 3 (.getfield 60) 47 8 8 0), (47, er 4 (.invokevirtual 207) 50 40 0 0), (50, er 2 (.if_icmp .ge 105) 53 155 0 0), (53, e1 (.iload_n 2) 54), (54, er 2 (.ifCond .ne 101) 57 155 0 0), (57, e1 (.aload_n 0) 58), (58, er 3 (.getfield 25) 61 8 3 0), (61, e1 (.aload_n 0) 62), (62, er 3 (.getfield 10) 65 8 0 0), (65, e1 (.aload_n 0) 66), (66, er 3 (.getfield 60) 69 8 8 0), (69, e1 (.iload_n 3) 70), (70, er 4 (.invokevirtual 210) 73 41 1 0), (73, e1 (.aload_n 0) 74), (74, er 3 (.getfield 60) 77 8 8 0), (77, e1 (.iload_n 3) 78)]
def cl_X10_read_1 : List (Nat × Ent) := [(78, er 4 (.invokevirtual 211) 81 42 1 0), (81, e1 (.aload_n 0) 82), (82, er 3 (.getfield 60) 85 8 8 0), (85, e1 (.iload_n 3) 86), (86, er 4 (.invokevirtual 215) 89 43 1 0), (89, e1 (.aload_n 0) 90), (90, er 3 (.getfield 60) 93 8 8 0), (93, e1 (.iload_n 3) 94), (94, er 4 (.invokevirtual 218) 97 44 1 0), (97, er 4 (.invokevirtual 68) 100 97 5 0), (100, e1 (.istore_n 2) 101), (101, e1 (.iload_n 2) 102), (102, er 2 (.ifCond .ne 47) 105 149 0 0), (105, e1 (.aload_n 0) 106), (106, er 3 (.getfield 25) 109 8 3 0), (109, e1 (.aload_n 0) 110), (110, er 3 (.getfield 10) 113 8 0 0), (113, e1 (.aload_n 0) 114), (114, er 3 (.getfield 60) 117 8 8 0), (117, e1 (.iload_n 3) 118), (118, er 4 (.invokevirtual 210) 121 41 1 0), (121, e1 (.aload_n 0) 122), (122, er 3 (.getfield 60) 125 8 8 0), (125, e1 (.iload_n 3) 126), (126, er 4 (.invokevirtual 211) 129 42 1 0), (129, e1 (.aload_n 0) 130), (130, er 3 (.getfield 60) 133 8 8 0), (133, e1 (.iload_n 3) 134), (134, er 4 (.invokevirtual 215) 137 43 1 0), (137, e1 (.aload_n 0) 138), (138, er 3 (.getfield 60) 141 8 8 0), (141, e1 (.iload_n 3) 142), (142, er 4 (.invokevirtual 218) 145 44 1 0), (145, er 4 (.invokevirtual 76) 148 98 5 0), (148, e0 .pop 149), (149, ev 1 (.iinc 3 1) 152 (.int 1)), (152, er 2 (.goto (-110)) 155 42 0 0), (155, e1 (.iload_n 2) 156), (156, er 2 (.ifCond .eq 14) 159 170 0 0), (159, e1 (.aload_n 0) 160)]
def cl_X10_read_2 : List (Nat × Ent) := [(160, er 3 (.getfield 10) 163 8 0 0), (163, e1 (.aload_n 0) 164), (164, er 3 (.getfield 16) 167 8 1 0), (167, er 4 (.invokevirtual 204) 170 64 1 0), (170, e1 (.iload_n 2) 171), (171, ev 0 (.iconst 3) 172 (.int 3)), (172, er 2 (.if_icmp .ne 11) 175 183 0 0), (175, ev 7 (.new 221) 178 .null), (178, e0 .dup 179), (179, ev 7 (.invokespecial 223) 182 .null), (182, ev 7 .athrow 183 .null), (183, e1 (.iload_n 2) 184), (184, er 2 (.ifCond .eq 11) 187 195 0 0), (187, ev 7 (.new 82) 190 .null), (190, e0 .dup 191), (191, ev 7 (.invokespecial 84) 194 .null), (194, ev 7 .athrow 195 .null), (195, e1 (.aload_n 0) 196), (196, er 3 (.getfield 53) 199 8 7 0), (199, e1 (.aload_n 0) 200), (200, er 3 (.getfield 16) 203 8 1 0), (203, er 4 (.invokevirtual 224) 206 13 1 0), (206, e1 (.aload_n 0) 207), (207, er 3 (.getfield 60) 210 8 8 0), (210, er 4 (.invokevirtual 207) 213 40 0 0), (213, ev 9 .ireturn 214 .null)]
def cd_X10_read (pc : Nat) : List (Nat × Ent) := bif Nat.blt pc 78 then (cl_X10_read_0) else (bif Nat.blt pc 160 then (cl_X10_read_1) else (cl_X10_read_2))
def ca_X10_read : List (Nat × Ent) := cl_X10_read_0 ++ cl_X10_read_1 ++ cl_X10_read_2
def cl_X10_errorPosition_0 : List (Nat × Ent) := [(0, e1 (.aload_n 0) 1), (1, er 3 (.getfield 60) 4 8 8 0), (4, er 4 (.invokevirtual 227) 7 39 0 0), (7, ev 9 .ireturn 8 .null)]
def cd_X10_errorPosition (pc : Nat) : List (Nat × Ent) := cl_X10_errorPosition_0
def ca_X10_errorPosition : List (Nat × Ent) := cl_X10_errorPosition_0
def cl_X10_account_0 : List (Nat × Ent) := [(0, e1 (.iload_n 1) 1), (1, er 2 (.ifCond .lt 9) 4 10 0 0), (4, e1 (.iload_n 1) 5), (5, ev 0 (.bipush 14) 7 (.int 14)), (7, er 2 (.if_icmp .le 11) 10 18 0 0), (10, ev 7 (.new 82) 13 .null), (13, e0 .dup 14), (14, ev 7 (.invokespecial 84) 17 .null), (17, ev 7 .athrow 18 .null), (18, e1 (.iload_n 1) 19), (19, ev 6 (.lookupswitch 41 #[(13, 25), (14, 33)]) 44 .null), (44, e1 (.aload_n 0) 45), (45, er 3 (.getfield 60) 48 8 8 0), (48, er 4 (.invokevirtual 194) 51 38 0 0), (51, ev 9 .ireturn 52 .null), (52, e1 (.aload_n 0) 53), (53, er 3 (.getfield 53) 56 8 7 0), (56, er 4 (.invokevirtual 237) 59 12 0 0), (59, ev 9 .ireturn 60 .null), (60, e1 (.aload_n 0) 61), (61, er 3 (.getfield 10) 64 8 0 0), (64, e1 (.iload_n 1) 65), (65, er 4 (.invokevirtual 238) 68 90 1 0), (68, ev 9 .ireturn 69 .null)]
def cd_X10_account (pc : Nat) : List (Nat × Ent) := cl_X10_account_0
def ca_X10_account : List (Nat × Ent) := cl_X10_account_0
def cl_X10_isWell_0 : List (Nat × Ent) := [(0, e1 (.aload_n 0) 1), (1, er 3 (.getfield 39) 4 8 5 0), (4, e1 (.aload_n 0) 5), (5, er 3 (.getfield 10) 8 8 0 0), (8, er 4 (.invokevirtual 113) 11 28 1 0), (11, e1 (.aload_n 0) 12), (12, er 3 (.getfield 10) 15 8 0 0), (15, e1 (.aload_n 0) 16), (16, er 3 (.getfield 39) 19 8 5 0), (19, er 4 (.invokestatic 241) 22 5 2 1), (22, ev 9 .ireturn 23 .null)]
def cd_X10_isWell (pc : Nat) : List (Nat × Ent) := cl_X10_isWell_0
def ca_X10_isWell : List (Nat × Ent) := cl_X10_isWell_0
def cl_X10_meanBits_0 : List (Nat × Ent) := [(0, e1 (.aload_n 0) 1), (1, er 3 (.getfield 10) 4 8 0 0), (4, er 4 (.invokevirtual 247) 7 91 0 0), (7, e1 (.istore_n 1) 8), (8, e1 (.iload_n 1) 9), (9, ev 0 (.iconst 1) 10 (.int 1)), (10, er 2 (.if_icmp .ge 11) 13 21 0 0), (13, ev 7 (.new 250) 16 .null), (16, e0 .dup 17), (17, ev 7 (.invokespecial 252) 20 .null), (20, ev 7 .athrow 21 .null), (21, e1 (.aload_n 0) 22), (22, er 3 (.getfield 10) 25 8 0 0), (25, er 4 (.invokevirtual 253) 28 95 0 0), (28, e1 (.iload_n 1) 29), (29, e0 .i2d 30), (30, e0 .ddiv 31), (31, er 4 (.invokestatic 257) 34 10 1 1), (34, ev 9 .lreturn 35 .null)]
def cd_X10_meanBits (pc : Nat) : List (Nat × Ent) := cl_X10_meanBits_0
def ca_X10_meanBits : List (Nat × Ent) := cl_X10_meanBits_0
def cl_X10_undo_0 : List (Nat × Ent) := [(0, e1 (.aload_n 0) 1), (1, er 3 (.getfield 53) 4 8 7 0), (4, er 4 (.invokevirtual 237) 7 12 0 0), (7, ev 0 (.iconst 1) 8 (.int 1)), (8, er 2 (.if_icmp .ge 11) 11 19 0 0), (11, ev 7 (.new 187) 14 .null), (14, e0 .dup 15), (15, ev 7 (.invokespecial 189) 18 .null), (18, ev 7 .athrow 19 .null), (19, e1 (.aload_n 0) 20), (20, er 3 (.getfield 53) 23 8 7 0), (23, e1 (.aload_n 0) 24), (24, er 3 (.getfield 10) 27 8 0 0), (27, er 4 (.invokevirtual 261) 30 14 1 0), (30, e1 (.aload_n 0) 31), (31, er 3 (.getfield 53) 34 8 7 0), (34, er 4 (.invokevirtual 237) 37 12 0 0), (37, ev 9 .ireturn 38 .null)]
def cd_X10_undo (pc : Nat) : List (Nat × Ent) := cl_X10_undo_0
def ca_X10_undo : List (Nat × Ent) := cl_X10_undo_0
def cl_X10_save_0 : List (Nat × Ent) := [(0, e1 (.aload_n 0) 1), (1, er 3 (.getfield 19) 4 8 2 0), (4, e1 (.aload_n 0) 5), (5, er 3 (.getfield 10) 8 8 0 0), (8, er 4 (.invokevirtual 204) 11 64 1 0), (11, e1 (.aload_n 0) 12), (12, ev 0 (.iconst 1) 13 (.int 1)), (13, er 3 (.putfield 64) 16 8 9 0), (16, e1 (.aload_n 0) 17), (17, er 3 (.getfield 10) 20 8 0 0), (20, er 3 (.getfield 264) 23 6 4 0), (23, ev 9 .ireturn 24 .null)]
def cd_X10_save (pc : Nat) : List (Nat × Ent) := cl_X10_save_0
def ca_X10_save : List (Nat × Ent) := cl_X10_save_0
def cl_X10_restore_0 : List (Nat × Ent) := [(0, e1 (.aload_n 0) 1), (1, er 3 (.getfield 64) 4 8 9 0), (4, er 2 (.ifCond .ne 11) 7 15 0 0), (7, ev 7 (.new 187) 10 .null), (10, e0 .dup 11), (11, ev 7 (.invokespecial 189) 14 .null), (14, ev 7 .athrow 15 .null), (15, e1 (.aload_n 0) 16), (16, er 3 (.getfield 10) 19 8 0 0), (19, e1 (.aload_n 0) 20), (20, er 3 (.getfield 19) 23 8 2 0), (23, er 4 (.invokevirtual 204) 26 64 1 0), (26, e1 (.aload_n 0) 27), (27, er 3 (.getfield 53) 30 8 7 0), (30, er 4 (.invokevirtual 267) 33 15 0 0), (33, e1 (.aload_n 0) 34), (34, er 3 (.getfield 10) 37 8 0 0), (37, er 3 (.getfield 264) 40 6 4 0), (40, ev 9 .ireturn 41 .null)]
def cd_X10_restore (pc : Nat) : List (Nat × Ent) := cl_X10_restore_0
def ca_X10_restore : List (Nat × Ent) := cl_X10_restore_0
def cl_X10_permit_0 : List (Nat × Ent) := [(0, e1 (.iload_n 1) 1), (1, ev 0 (.iconst 1) 2 (.int 1)), (2, er 2 (.if_icmp .ne 11) 5 13 0 0), (5, ev 7 (.new 129) 8 .null), (8, e0 .dup 9), (9, ev 7 (.invokespecial 131) 12 .null), (12, ev 7 .athrow 13 .null), (13, e1 (.iload_n 1) 14), (14, ev 0 (.iconst 2) 15 (.int 2)), (15, er 2 (.if_icmp .ne 11) 18 26 0 0), (18, ev 7 (.new 82) 21 .null), (21, e0 .dup 22), (22, ev 7 (.invokespecial 84) 25 .null), (25, ev 7 .athrow 26 .null), (26, e1 (.iload_n 1) 27), (27, er 2 (.ifCond .eq 11) 30 38 0 0), (30, ev 7 (.new 221) 33 .null), (33, e0 .dup 34), (34, ev 7 (.invokespecial 223) 37 .null), (37, ev 7 .athrow 38 .null), (38, e1 (.aload_n 0) 39), (39, er 3 (.getfield 53) 42 8 7 0), (42, e1 (.aload_n 0) 43), (43, er 3 (.getfield 10) 46 8 0 0), (46, er 4 (.invokevirtual 224) 49 13 1 0), (49, ev 9 .return_ 50 .null)]
def cd_X10_permit (pc : Nat) : List (Nat × Ent) := cl_X10_permit_0
def ca_X10_permit : List (Nat × Ent) := cl_X10_permit_0
def cl_X10_requireSawn_0 : List (Nat × Ent) := [(0, e1 (.aload_n 0) 1), (1, er 3 (.getfield 10) 4 8 0 0), (4, e1 (.iload_n 1) 5), (5, er 4 (.invokevirtual 270) 8 69 1 0), (8, er 2 (.ifCond .ne 11) 11 19 0 0), (11, ev 7 (.new 129) 14 .null), (14, e0 .dup 15), (15, ev 7 (.invokespecial 131) 18 .null), (18, ev 7 .athrow 19 .null), (19, ev 9 .return_ 20 .null)]
def cd_X10_requireSawn (pc : Nat) : List (Nat × Ent) := cl_X10_requireSawn_0
def ca_X10_requireSawn : List (Nat × Ent) := cl_X10_requireSawn_0
def cl_X10_requireOnWall_0 : List (Nat × Ent) := [(0, e1 (.aload_n 0) 1), (1, er 3 (.getfield 10) 4 8 0 0), (4, e1 (.iload_n 1) 5), (5, er 4 (.invokevirtual 273) 8 70 1 0), (8, er 2 (.ifCond .ne 11) 11 19 0 0), (11, ev 7 (.new 93) 14 .null), (14, e0 .dup 15), (15, ev 7 (.invokespecial 95) 18 .null), (18, ev 7 .athrow 19 .null), (19, ev 9 .return_ 20 .null)]
def cd_X10_requireOnWall (pc : Nat) : List (Nat × Ent) := cl_X10_requireOnWall_0
def ca_X10_requireOnWall : List (Nat × Ent) := cl_X10_requireOnWall_0
def cl_X10_requireHoursAhead_0 : List (Nat × Ent) := [(0, e1 (.iload_n 1) 1), (1, er 2 (.ifCond .lt 9) 4 10 0 0), (4, e1 (.iload_n 1) 5), (5, ev 0 (.bipush 48) 7 (.int 48)), (7, er 2 (.if_icmp .le 11) 10 18 0 0), (10, ev 7 (.new 82) 13 .null), (13, e0 .dup 14), (14, ev 7 (.invokespecial 84) 17 .null), (17, ev 7 .athrow 18 .null), (18, ev 9 .return_ 19 .null)]
def cd_X10_requireHoursAhead (pc : Nat) : List (Nat × Ent) := cl_X10_requireHoursAhead_0
def ca_X10_requireHoursAhead : List (Nat × Ent) := cl_X10_requireHoursAhead_0
def cl_Jx00060_init_a7421_0 : List (Nat × Ent) := [(0, e1 (.aload_n 0) 1), (1, e1 (.aload_n 1) 2), (2, ev 7 (.invokespecial 7) 5 .null), (5, ev 9 .return_ 6 .null)]
def cd_Jx00060_init_a7421 (pc : Nat) : List (Nat × Ent) := cl_Jx00060_init_a7421_0
def ca_Jx00060_init_a7421 : List (Nat × Ent) := cl_Jx00060_init_a7421_0
def cl_J11_isValidCodePoint_9a6ad_0 : List (Nat × Ent) := [(0, e1 (.iload_n 0) 1), (1, ev 0 (.bipush 16) 3 (.int 16)), (3, ev 7 .iushr 4 .null), (4, e1 (.istore_n 1) 5), (5, e1 (.iload_n 1) 6), (6, ev 0 (.bipush 17) 8 (.int 17)), (8, er 2 (.if_icmp .ge 7) 11 15 0 0), (11, ev 0 (.iconst 1) 12 (.int 1)), (12, er 2 (.goto 4) 15 16 0 0), (15, ev 0 (.iconst 0) 16 (.int 0)), (16, ev 9 .ireturn 17 .null)]
def cd_J11_isValidCodePoint_9a6ad (pc : Nat) : List (Nat × Ent) := cl_J11_isValidCodePoint_9a6ad_0
def ca_J11_isValidCodePoint_9a6ad : List (Nat × Ent) := cl_J11_isValidCodePoint_9a6ad_0
def cl_J11_highSurrogate_5068e_0 : List (Nat × Ent) := [(0, e1 (.iload_n 0) 1), (1, ev 0 (.bipush 10) 3 (.int 10)), (3, ev 7 .iushr 4 .null), (4, ev 0 (.ldc 110) 6 (.int 55232)), (6, e0 .iadd 7), (7, e0 .i2c 8), (8, ev 9 .ireturn 9 .null)]
def cd_J11_highSurrogate_5068e (pc : Nat) : List (Nat × Ent) := cl_J11_highSurrogate_5068e_0
def ca_J11_highSurrogate_5068e : List (Nat × Ent) := cl_J11_highSurrogate_5068e_0
def cl_J11_lowSurrogate_5068e_0 : List (Nat × Ent) := [(0, e1 (.iload_n 0) 1), (1, ev 0 (.sipush 1023) 4 (.int 1023)), (4, e0 .iand 5), (5, ev 0 (.ldc 76) 7 (.int 56320)), (7, e0 .iadd 8), (8, e0 .i2c 9), (9, ev 9 .ireturn 10 .null)]
def cd_J11_lowSurrogate_5068e (pc : Nat) : List (Nat × Ent) := cl_J11_lowSurrogate_5068e_0
def ca_J11_lowSurrogate_5068e : List (Nat × Ent) := cl_J11_lowSurrogate_5068e_0
def cl_Jxe99ae_isNaN_b9ae7_0 : List (Nat × Ent) := [(0, e1 (.dload_n 0) 1), (1, e1 (.dload_n 0) 2), (2, e0 (.dcmp .l) 3), (3, er 2 (.ifCond .eq 7) 6 10 0 0), (6, ev 0 (.iconst 1) 7 (.int 1)), (7, er 2 (.goto 4) 10 11 0 0), (10, ev 0 (.iconst 0) 11 (.int 0)), (11, ev 9 .ireturn 12 .null)]
def cd_Jxe99ae_isNaN_b9ae7 (pc : Nat) : List (Nat × Ent) := cl_Jxe99ae_isNaN_b9ae7_0
def ca_Jxe99ae_isNaN_b9ae7 : List (Nat × Ent) := cl_Jxe99ae_isNaN_b9ae7_0
def cl_Jxe99ae_doubleToLongBits_ccdee_0 : List (Nat × Ent) := [(0, e1 (.dload_n 0) 1), (1, er 4 (.invokestatic 122) 4 145 1 1), (4, er 2 (.ifCond .ne 8) 7 12 0 0), (7, e1 (.dload_n 0) 8), (8, er 5 (.invokestatic 134) 11 0 1 5), (11, ev 9 .lreturn 12 .null), (12, ev 0 (.ldc2_w 137) 15 (.long 9221120237041090560)), (15, ev 9 .lreturn 16 .null)]
def cd_Jxe99ae_doubleToLongBits_ccdee (pc : Nat) : List (Nat × Ent) := cl_Jxe99ae_doubleToLongBits_ccdee_0
def ca_Jxe99ae_doubleToLongBits_ccdee : List (Nat × Ent) := cl_Jxe99ae_doubleToLongBits_ccdee_0
def cl_J9_floorMod_7cf53_0 : List (Nat × Ent) := [(0, e1 (.iload_n 0) 1), (1, e1 (.iload_n 1) 2), (2, e0 .irem 3), (3, e1 (.istore_n 2) 4), (4, e1 (.iload_n 0) 5), (5, e1 (.iload_n 1) 6), (6, e0 .ixor 7), (7, er 2 (.ifCond .ge 11) 10 18 0 0), (10, e1 (.iload_n 2) 11), (11, er 2 (.ifCond .eq 7) 14 18 0 0), (14, e1 (.iload_n 2) 15), (15, e1 (.iload_n 1) 16), (16, e0 .iadd 17), (17, ev 9 .ireturn 18 .null), (18, e1 (.iload_n 2) 19), (19, ev 9 .ireturn 20 .null)]
def cd_J9_floorMod_7cf53 (pc : Nat) : List (Nat × Ent) := cl_J9_floorMod_7cf53_0
def ca_J9_floorMod_7cf53 : List (Nat × Ent) := cl_J9_floorMod_7cf53_0
def cl_J9_max_7cf53_0 : List (Nat × Ent) := [(0, e1 (.iload_n 0) 1), (1, e1 (.iload_n 1) 2), (2, er 2 (.if_icmp .lt 7) 5 9 0 0), (5, e1 (.iload_n 0) 6), (6, er 2 (.goto 4) 9 10 0 0), (9, e1 (.iload_n 1) 10), (10, ev 9 .ireturn 11 .null)]
def cd_J9_max_7cf53 (pc : Nat) : List (Nat × Ent) := cl_J9_max_7cf53_0
def ca_J9_max_7cf53 : List (Nat × Ent) := cl_J9_max_7cf53_0
def cl_J9_min_7cf53_0 : List (Nat × Ent) := [(0, e1 (.iload_n 0) 1), (1, e1 (.iload_n 1) 2), (2, er 2 (.if_icmp .gt 7) 5 9 0 0), (5, e1 (.iload_n 0) 6), (6, er 2 (.goto 4) 9 10 0 0), (9, e1 (.iload_n 1) 10), (10, ev 9 .ireturn 11 .null)]
def cd_J9_min_7cf53 (pc : Nat) : List (Nat × Ent) := cl_J9_min_7cf53_0
def ca_J9_min_7cf53 : List (Nat × Ent) := cl_J9_min_7cf53_0
def cl_J0_length_8abf5_0 : List (Nat × Ent) := [(0, e1 (.aload_n 0) 1), (1, ev 7 (.getfield 9) 4 .null), (4, ev 3 .arraylength 5 .null), (5, e1 (.aload_n 0) 6), (6, er 7 (.invokevirtual 335) 9 154 0 0), (9, e0 .ishr 10), (10, ev 9 .ireturn 11 .null)]
def cd_J0_length_8abf5 (pc : Nat) : List (Nat × Ent) := cl_J0_length_8abf5_0
def ca_J0_length_8abf5 : List (Nat × Ent) := cl_J0_length_8abf5_0
def cl_J0_charAt_5068e_0 : List (Nat × Ent) := [(0, e1 (.aload_n 0) 1), (1, er 7 (.invokevirtual 492) 4 155 0 0), (4, er 2 (.ifCond .eq 12) 7 16 0 0), (7, e1 (.aload_n 0) 8), (8, ev 7 (.getfield 9) 11 .null), (11, e1 (.iload_n 1) 12), (12, er 4 (.invokestatic 495) 15 158 2 1), (15, ev 9 .ireturn 16 .null), (16, e1 (.aload_n 0) 17), (17, ev 7 (.getfield 9) 20 .null), (20, e1 (.iload_n 1) 21), (21, er 4 (.invokestatic 498) 24 168 2 1), (24, ev 9 .ireturn 25 .null)]
def cd_J0_charAt_5068e (pc : Nat) : List (Nat × Ent) := cl_J0_charAt_5068e_0
def ca_J0_charAt_5068e : List (Nat × Ent) := cl_J0_charAt_5068e_0
def cl_J0_indexOf_0f7a4_0 : List (Nat × Ent) := [(0, e1 (.aload_n 0) 1), (1, e1 (.iload_n 1) 2), (2, ev 0 (.iconst 0) 3 (.int 0)), (3, er 7 (.invokevirtual 633) 6 153 0 0), (6, ev 9 .ireturn 7 .null)]
def cd_J0_indexOf_0f7a4 (pc : Nat) : List (Nat × Ent) := cl_J0_indexOf_0f7a4_0
def ca_J0_indexOf_0f7a4 : List (Nat × Ent) := cl_J0_indexOf_0f7a4_0
def cl_J0_indexOf_7cf53_0 : List (Nat × Ent) := [(0, e1 (.aload_n 0) 1), (1, er 7 (.invokevirtual 492) 4 155 0 0), (4, er 2 (.ifCond .eq 19) 7 23 0 0), (7, e1 (.aload_n 0) 8), (8, ev 7 (.getfield 9) 11 .null), (11, e1 (.iload_n 1) 12), (12, e1 (.iload_n 2) 13), (13, e1 (.aload_n 0) 14), (14, er 7 (.invokevirtual 505) 17 150 0 0), (17, er 4 (.invokestatic 637) 20 160 4 1), (20, er 2 (.goto 16) 23 36 0 0), (23, e1 (.aload_n 0) 24), (24, ev 7 (.getfield 9) 27 .null), (27, e1 (.iload_n 1) 28), (28, e1 (.iload_n 2) 29), (29, e1 (.aload_n 0) 30), (30, er 7 (.invokevirtual 505) 33 150 0 0), (33, er 4 (.invokestatic 640) 36 164 4 1), (36, ev 9 .ireturn 37 .null)]
def cd_J0_indexOf_7cf53 (pc : Nat) : List (Nat × Ent) := cl_J0_indexOf_7cf53_0
def ca_J0_indexOf_7cf53 : List (Nat × Ent) := cl_J0_indexOf_7cf53_0
def cl_J0_coder_7d493_0 : List (Nat × Ent) := [(0, ev 7 (.getstatic 38) 3 .null), (3, er 2 (.ifCond .eq 10) 6 13 0 0), (6, e1 (.aload_n 0) 7), (7, ev 7 (.getfield 15) 10 .null), (10, er 2 (.goto 4) 13 14 0 0), (13, ev 0 (.iconst 1) 14 (.int 1)), (14, ev 7 .ireturn 15 .null)]
def cd_J0_coder_7d493 (pc : Nat) : List (Nat × Ent) := cl_J0_coder_7d493_0
def ca_J0_coder_7d493 : List (Nat × Ent) := cl_J0_coder_7d493_0
def cl_J0_isLatin1_aae02_0 : List (Nat × Ent) := [(0, ev 7 (.getstatic 38) 3 .null), (3, er 2 (.ifCond .eq 14) 6 17 0 0), (6, e1 (.aload_n 0) 7), (7, ev 7 (.getfield 15) 10 .null), (10, er 2 (.ifCond .ne 7) 13 17 0 0), (13, ev 0 (.iconst 1) 14 (.int 1)), (14, er 2 (.goto 4) 17 18 0 0), (17, ev 0 (.iconst 0) 18 (.int 0)), (18, ev 9 .ireturn 19 .null)]
def cd_J0_isLatin1_aae02 (pc : Nat) : List (Nat × Ent) := cl_J0_isLatin1_aae02_0
def ca_J0_isLatin1_aae02 : List (Nat × Ent) := cl_J0_isLatin1_aae02_0
def cl_J0_checkIndex_df160_0 : List (Nat × Ent) := [(0, e1 (.iload_n 0) 1), (1, e1 (.iload_n 1) 2), (2, ev 7 (.getstatic 1053) 5 .null), (5, er 4 (.invokestatic 1059) 8 171 3 1), (8, e0 .pop 9), (9, ev 9 .return_ 10 .null)]
def cd_J0_checkIndex_df160 (pc : Nat) : List (Nat × Ent) := cl_J0_checkIndex_df160_0
def ca_J0_checkIndex_df160 : List (Nat × Ent) := cl_J0_checkIndex_df160_0
def cl_J0_checkBoundsBeginEnd_23922_0 : List (Nat × Ent) := [(0, e1 (.iload_n 0) 1), (1, e1 (.iload_n 1) 2), (2, e1 (.iload_n 2) 3), (3, ev 7 (.getstatic 1053) 6 .null), (6, er 4 (.invokestatic 1062) 9 172 4 1), (9, e0 .pop 10), (10, ev 9 .return_ 11 .null)]
def cd_J0_checkBoundsBeginEnd_23922 (pc : Nat) : List (Nat × Ent) := cl_J0_checkBoundsBeginEnd_23922_0
def ca_J0_checkBoundsBeginEnd_23922 : List (Nat × Ent) := cl_J0_checkBoundsBeginEnd_23922_0
def cl_J1_charAt_3b067_0 : List (Nat × Ent) := [(0, e1 (.iload_n 1) 1), (1, e1 (.aload_n 0) 2), (2, ev 3 .arraylength 3 .null), (3, er 7 (.invokestatic 9) 6 156 0 0), (6, e1 (.aload_n 0) 7), (7, e1 (.iload_n 1) 8), (8, ev 3 .baload 9 .null), (9, ev 0 (.sipush 255) 12 (.int 255)), (12, e0 .iand 13), (13, e0 .i2c 14), (14, ev 9 .ireturn 15 .null)]
def cd_J1_charAt_3b067 (pc : Nat) : List (Nat × Ent) := cl_J1_charAt_3b067_0
def ca_J1_charAt_3b067 : List (Nat × Ent) := cl_J1_charAt_3b067_0
def cl_J1_canEncode_9a6ad_0 : List (Nat × Ent) := [(0, e1 (.iload_n 0) 1), (1, er 2 (.ifCond .lt 14) 4 15 0 0), (4, e1 (.iload_n 0) 5), (5, ev 0 (.sipush 255) 8 (.int 255)), (8, er 2 (.if_icmp .gt 7) 11 15 0 0), (11, ev 0 (.iconst 1) 12 (.int 1)), (12, er 2 (.goto 4) 15 16 0 0), (15, ev 0 (.iconst 0) 16 (.int 0)), (16, ev 9 .ireturn 17 .null)]
def cd_J1_canEncode_9a6ad (pc : Nat) : List (Nat × Ent) := cl_J1_canEncode_9a6ad_0
def ca_J1_canEncode_9a6ad : List (Nat × Ent) := cl_J1_canEncode_9a6ad_0
def cl_J1_indexOf_4cfef_0 : List (Nat × Ent) := [(0, e1 (.iload_n 1) 1), (1, er 4 (.invokestatic 88) 4 159 1 1), (4, er 2 (.ifCond .ne 5) 7 9 0 0), (7, ev 0 (.iconst (-1)) 8 (.int (-1))), (8, ev 9 .ireturn 9 .null), (9, e1 (.iload_n 2) 10), (10, ev 0 (.iconst 0) 11 (.int 0)), (11, er 5 (.invokestatic 92) 14 0 2 2), (14, e1 (.istore_n 2) 15), (15, e1 (.iload_n 3) 16), (16, e1 (.aload_n 0) 17), (17, ev 3 .arraylength 18 .null), (18, er 5 (.invokestatic 38) 21 0 2 3), (21, e1 (.istore_n 3) 22), (22, e1 (.iload_n 2) 23), (23, e1 (.iload_n 3) 24), (24, er 2 (.if_icmp .lt 5) 27 29 0 0), (27, ev 0 (.iconst (-1)) 28 (.int (-1))), (28, ev 9 .ireturn 29 .null), (29, e1 (.aload_n 0) 30), (30, e1 (.iload_n 1) 31), (31, e1 (.iload_n 2) 32), (32, e1 (.iload_n 3) 33), (33, er 4 (.invokestatic 95) 36 161 4 1), (36, ev 9 .ireturn 37 .null)]
def cd_J1_indexOf_4cfef (pc : Nat) : List (Nat × Ent) := cl_J1_indexOf_4cfef_0
def ca_J1_indexOf_4cfef : List (Nat × Ent) := cl_J1_indexOf_4cfef_0
def cl_J1_indexOfChar_4cfef_0 : List (Nat × Ent) := [(0, e1 (.iload_n 1) 1), (1, ev 7 .i2b 2 .null), (2, e1 (.istore 4) 4), (4, e1 (.iload_n 2) 5), (5, e1 (.istore 5) 7), (7, e1 (.iload 5) 9), (9, e1 (.iload_n 3) 10), (10, er 2 (.if_icmp .ge 21) 13 31 0 0), (13, e1 (.aload_n 0) 14), (14, e1 (.iload 5) 16), (16, ev 3 .baload 17 .null), (17, e1 (.iload 4) 19), (19, er 2 (.if_icmp .ne 6) 22 25 0 0), (22, e1 (.iload 5) 24), (24, ev 9 .ireturn 25 .null), (25, ev 1 (.iinc 5 1) 28 (.int 1)), (28, er 2 (.goto (-21)) 31 7 0 0), (31, ev 0 (.iconst (-1)) 32 (.int (-1))), (32, ev 9 .ireturn 33 .null)]
def cd_J1_indexOfChar_4cfef (pc : Nat) : List (Nat × Ent) := cl_J1_indexOfChar_4cfef_0
def ca_J1_indexOfChar_4cfef : List (Nat × Ent) := cl_J1_indexOfChar_4cfef_0
def cl_J2_getChar_3b067_0 : List (Nat × Ent) := [(0, ev 7 (.getstatic 44) 3 .null), (3, er 2 (.ifCond .ne 25) 6 28 0 0), (6, e1 (.iload_n 1) 7), (7, er 2 (.ifCond .lt 11) 10 18 0 0), (10, e1 (.iload_n 1) 11), (11, e1 (.aload_n 0) 12), (12, er 4 (.invokestatic 48) 15 163 1 1), (15, er 2 (.if_icmp .lt 13) 18 28 0 0), (18, ev 7 (.new 52) 21 .null), (21, e0 .dup 22), (22, ev 7 (.ldc 54) 24 .null), (24, ev 7 (.invokespecial 56) 27 .null), (27, ev 7 .athrow 28 .null), (28, e1 (.iload_n 1) 29), (29, ev 0 (.iconst 1) 30 (.int 1)), (30, e0 .ishl 31), (31, e1 (.istore_n 1) 32), (32, e1 (.aload_n 0) 33), (33, e1 (.iload_n 1) 34), (34, ev 1 (.iinc 1 1) 37 (.int 1)), (37, ev 3 .baload 38 .null), (38, ev 0 (.sipush 255) 41 (.int 255)), (41, e0 .iand 42), (42, ev 7 (.getstatic 59) 45 .null), (45, e0 .ishl 46), (46, e1 (.aload_n 0) 47), (47, e1 (.iload_n 1) 48), (48, ev 3 .baload 49 .null), (49, ev 0 (.sipush 255) 52 (.int 255)), (52, e0 .iand 53), (53, ev 7 (.getstatic 63) 56 .null), (56, e0 .ishl 57), (57, e0 .ior 58), (58, e0 .i2c 59), (59, ev 9 .ireturn 60 .null)]
def cd_J2_getChar_3b067 (pc : Nat) : List (Nat × Ent) := cl_J2_getChar_3b067_0
def ca_J2_getChar_3b067 : List (Nat × Ent) := cl_J2_getChar_3b067_0
def cl_J2_length_9d52b_0 : List (Nat × Ent) := [(0, e1 (.aload_n 0) 1), (1, ev 3 .arraylength 2 .null), (2, ev 0 (.iconst 1) 3 (.int 1)), (3, e0 .ishr 4), (4, ev 9 .ireturn 5 .null)]
def cd_J2_length_9d52b (pc : Nat) : List (Nat × Ent) := cl_J2_length_9d52b_0
def ca_J2_length_9d52b : List (Nat × Ent) := cl_J2_length_9d52b_0
def cl_J2_indexOf_4cfef_0 : List (Nat × Ent) := [(0, e1 (.iload_n 2) 1), (1, ev 0 (.iconst 0) 2 (.int 0)), (2, er 5 (.invokestatic 224) 5 0 2 2), (5, e1 (.istore_n 2) 6), (6, e1 (.iload_n 3) 7), (7, e1 (.aload_n 0) 8), (8, ev 3 .arraylength 9 .null), (9, ev 0 (.iconst 1) 10 (.int 1)), (10, e0 .ishr 11), (11, er 5 (.invokestatic 183) 14 0 2 3), (14, e1 (.istore_n 3) 15), (15, e1 (.iload_n 2) 16), (16, e1 (.iload_n 3) 17), (17, er 2 (.if_icmp .lt 5) 20 22 0 0), (20, ev 0 (.iconst (-1)) 21 (.int (-1))), (21, ev 9 .ireturn 22 .null), (22, e1 (.iload_n 1) 23), (23, ev 0 (.ldc 227) 25 (.int 65536)), (25, er 2 (.if_icmp .ge 11) 28 36 0 0), (28, e1 (.aload_n 0) 29), (29, e1 (.iload_n 1) 30), (30, e1 (.iload_n 2) 31), (31, e1 (.iload_n 3) 32), (32, er 4 (.invokestatic 228) 35 165 4 1), (35, ev 9 .ireturn 36 .null), (36, e1 (.aload_n 0) 37), (37, e1 (.iload_n 1) 38), (38, e1 (.iload_n 2) 39), (39, e1 (.iload_n 3) 40), (40, er 4 (.invokestatic 232) 43 167 4 1), (43, ev 9 .ireturn 44 .null)]
def cd_J2_indexOf_4cfef (pc : Nat) : List (Nat × Ent) := cl_J2_indexOf_4cfef_0
def ca_J2_indexOf_4cfef : List (Nat × Ent) := cl_J2_indexOf_4cfef_0
def cl_J2_indexOfChar_4cfef_0 : List (Nat × Ent) := [(0, e1 (.iload_n 2) 1), (1, e1 (.iload_n 3) 2), (2, e1 (.aload_n 0) 3), (3, er 4 (.invokestatic 96) 6 170 3 1), (6, e1 (.aload_n 0) 7), (7, e1 (.iload_n 1) 8), (8, e1 (.iload_n 2) 9), (9, e1 (.iload_n 3) 10), (10, er 4 (.invokestatic 244) 13 166 4 1), (13, ev 9 .ireturn 14 .null)]
def cd_J2_indexOfChar_4cfef (pc : Nat) : List (Nat × Ent) := cl_J2_indexOfChar_4cfef_0
def ca_J2_indexOfChar_4cfef : List (Nat × Ent) := cl_J2_indexOfChar_4cfef_0
def cl_J2_indexOfCharUnsafe_4cfef_0 : List (Nat × Ent) := [(0, e1 (.iload_n 2) 1), (1, e1 (.istore 4) 3), (3, e1 (.iload 4) 5), (5, e1 (.iload_n 3) 6), (6, er 2 (.if_icmp .ge 22) 9 28 0 0), (9, e1 (.aload_n 0) 10), (10, e1 (.iload 4) 12), (12, er 4 (.invokestatic 71) 15 162 2 1), (15, e1 (.iload_n 1) 16), (16, er 2 (.if_icmp .ne 6) 19 22 0 0), (19, e1 (.iload 4) 21), (21, ev 9 .ireturn 22 .null), (22, ev 1 (.iinc 4 1) 25 (.int 1)), (25, er 2 (.goto (-22)) 28 3 0 0), (28, ev 0 (.iconst (-1)) 29 (.int (-1))), (29, ev 9 .ireturn 30 .null)]
def cd_J2_indexOfCharUnsafe_4cfef (pc : Nat) : List (Nat × Ent) := cl_J2_indexOfCharUnsafe_4cfef_0
def ca_J2_indexOfCharUnsafe_4cfef : List (Nat × Ent) := cl_J2_indexOfCharUnsafe_4cfef_0
def cl_J2_indexOfSupplementary_4cfef_0 : List (Nat × Ent) := [(0, e1 (.iload_n 1) 1), (1, er 4 (.invokestatic 164) 4 142 1 1), (4, er 2 (.ifCond .eq 65) 7 69 0 0), (7, e1 (.iload_n 1) 8), (8, er 4 (.invokestatic 157) 11 143 1 1), (11, e1 (.istore 4) 13), (13, e1 (.iload_n 1) 14), (14, er 4 (.invokestatic 161) 17 144 1 1), (17, e1 (.istore 5) 19), (19, e1 (.iload_n 2) 20), (20, e1 (.iload_n 3) 21), (21, e1 (.aload_n 0) 22), (22, er 4 (.invokestatic 96) 25 170 3 1), (25, e1 (.iload_n 2) 26), (26, e1 (.istore 6) 28), (28, e1 (.iload 6) 30), (30, e1 (.iload_n 3) 31), (31, ev 0 (.iconst 1) 32 (.int 1)), (32, e0 .isub 33), (33, er 2 (.if_icmp .ge 36) 36 69 0 0), (36, e1 (.aload_n 0) 37), (37, e1 (.iload 6) 39), (39, er 4 (.invokestatic 71) 42 162 2 1), (42, e1 (.iload 4) 44), (44, er 2 (.if_icmp .ne 19) 47 63 0 0), (47, e1 (.aload_n 0) 48), (48, e1 (.iload 6) 50), (50, ev 0 (.iconst 1) 51 (.int 1)), (51, e0 .iadd 52), (52, er 4 (.invokestatic 71) 55 162 2 1), (55, e1 (.iload 5) 57), (57, er 2 (.if_icmp .ne 6) 60 63 0 0), (60, e1 (.iload 6) 62), (62, ev 9 .ireturn 63 .null), (63, ev 1 (.iinc 6 1) 66 (.int 1)), (66, er 2 (.goto (-38)) 69 28 0 0), (69, ev 0 (.iconst (-1)) 70 (.int (-1))), (70, ev 9 .ireturn 71 .null)]
def cd_J2_indexOfSupplementary_4cfef (pc : Nat) : List (Nat × Ent) := cl_J2_indexOfSupplementary_4cfef_0
def ca_J2_indexOfSupplementary_4cfef : List (Nat × Ent) := cl_J2_indexOfSupplementary_4cfef_0
def cl_J2_charAt_3b067_0 : List (Nat × Ent) := [(0, e1 (.iload_n 1) 1), (1, e1 (.aload_n 0) 2), (2, er 4 (.invokestatic 67) 5 169 2 1), (5, e1 (.aload_n 0) 6), (6, e1 (.iload_n 1) 7), (7, er 4 (.invokestatic 71) 10 162 2 1), (10, ev 9 .ireturn 11 .null)]
def cd_J2_charAt_3b067 (pc : Nat) : List (Nat × Ent) := cl_J2_charAt_3b067_0
def ca_J2_charAt_3b067 : List (Nat × Ent) := cl_J2_charAt_3b067_0
def cl_J2_checkIndex_2214a_0 : List (Nat × Ent) := [(0, e1 (.iload_n 0) 1), (1, e1 (.aload_n 1) 2), (2, er 4 (.invokestatic 48) 5 163 1 1), (5, er 7 (.invokestatic 414) 8 156 0 0), (8, ev 9 .return_ 9 .null)]
def cd_J2_checkIndex_2214a (pc : Nat) : List (Nat × Ent) := cl_J2_checkIndex_2214a_0
def ca_J2_checkIndex_2214a : List (Nat × Ent) := cl_J2_checkIndex_2214a_0
def cl_J2_checkBoundsBeginEnd_d044e_0 : List (Nat × Ent) := [(0, e1 (.iload_n 0) 1), (1, e1 (.iload_n 1) 2), (2, e1 (.aload_n 2) 3), (3, er 4 (.invokestatic 48) 6 163 1 1), (6, er 7 (.invokestatic 241) 9 157 0 0), (9, ev 9 .return_ 10 .null)]
def cd_J2_checkBoundsBeginEnd_d044e (pc : Nat) : List (Nat × Ent) := cl_J2_checkBoundsBeginEnd_d044e_0
def ca_J2_checkBoundsBeginEnd_d044e : List (Nat × Ent) := cl_J2_checkBoundsBeginEnd_d044e_0
def cl_J3_checkIndex_8e157_0 : List (Nat × Ent) := [(0, e1 (.iload_n 0) 1), (1, er 2 (.ifCond .lt 8) 4 9 0 0), (4, e1 (.iload_n 0) 5), (5, e1 (.iload_n 1) 6), (6, er 2 (.if_icmp .lt 10) 9 16 0 0), (9, e1 (.aload_n 2) 10), (10, e1 (.iload_n 0) 11), (11, e1 (.iload_n 1) 12), (12, ev 7 (.invokestatic 95) 15 .null), (15, ev 7 .athrow 16 .null), (16, e1 (.iload_n 0) 17), (17, ev 9 .ireturn 18 .null)]
def cd_J3_checkIndex_8e157 (pc : Nat) : List (Nat × Ent) := cl_J3_checkIndex_8e157_0
def ca_J3_checkIndex_8e157 : List (Nat × Ent) := cl_J3_checkIndex_8e157_0
def cl_J3_checkFromToIndex_8c36e_0 : List (Nat × Ent) := [(0, e1 (.iload_n 0) 1), (1, er 2 (.ifCond .lt 13) 4 14 0 0), (4, e1 (.iload_n 0) 5), (5, e1 (.iload_n 1) 6), (6, er 2 (.if_icmp .gt 8) 9 14 0 0), (9, e1 (.iload_n 1) 10), (10, e1 (.iload_n 2) 11), (11, er 2 (.if_icmp .le 11) 14 22 0 0), (14, e1 (.aload_n 3) 15), (15, e1 (.iload_n 0) 16), (16, e1 (.iload_n 1) 17), (17, e1 (.iload_n 2) 18), (18, ev 7 (.invokestatic 99) 21 .null), (21, ev 7 .athrow 22 .null), (22, e1 (.iload_n 0) 23), (23, ev 9 .ireturn 24 .null)]
def cd_J3_checkFromToIndex_8c36e (pc : Nat) : List (Nat × Ent) := cl_J3_checkFromToIndex_8c36e_0
def ca_J3_checkFromToIndex_8c36e : List (Nat × Ent) := cl_J3_checkFromToIndex_8c36e_0
def cl_L_cell_0 : List (Nat × Ent) := [(0, e1 (.aload_n 0) 1), (1, ev 3 .arraylength 2 .null), (2, er 2 (.ifCond .ne 11) 5 13 0 0), (5, ev 0 (.sipush 577) 8 (.int 577)), (8, e1 (.iload_n 1) 9), (9, e0 .imul 10), (10, er 2 (.goto 12) 13 22 0 0), (13, e1 (.aload_n 0) 14), (14, e1 (.iload_n 1) 15), (15, ev 0 (.ldc 7) 17 (.int 65535)), (17, e0 .iand 18), (18, e1 (.aload_n 0) 19), (19, ev 3 .arraylength 20 .null), (20, e0 .irem 21), (21, ev 3 .iaload 22 .null), (22, ev 9 .ireturn 23 .null)]
def cd_L_cell (pc : Nat) : List (Nat × Ent) := cl_L_cell_0
def ca_L_cell : List (Nat × Ent) := cl_L_cell_0
def cl_L_heat_0 : List (Nat × Ent) := [(0, ev 0 (.ldc 10) 2 (.int (-100000000))), (2, e1 (.istore_n 3) 3), (3, e1 (.aload_n 0) 4), (4, e1 (.iload_n 1) 5), (5, e1 (.iload_n 2) 6), (6, er 7 (.invokevirtual 11) 9 107 0 0), (9, e1 (.istore_n 3) 10), (10, er 2 (.goto 13) 13 23 0 0), (13, e1 (.astore 4) 15), (15, ev 0 (.ldc 10) 17 (.int (-100000000))), (17, ev 9 .ireturn 18 .null), (18, e1 (.astore 4) 20), (20, ev 0 (.ldc 10) 22 (.int (-100000000))), (22, ev 9 .ireturn 23 .null), (23, e1 (.iload_n 3) 24), (24, ev 9 .ireturn 25 .null)]
def cd_L_heat (pc : Nat) : List (Nat × Ent) := cl_L_heat_0
def ca_L_heat : List (Nat × Ent) := cl_L_heat_0
def cl_L_visit_0 : List (Nat × Ent) := [(0, ev 0 (.ldc 10) 2 (.int (-100000000))), (2, e1 (.istore_n 2) 3), (3, e1 (.aload_n 0) 4), (4, e1 (.iload_n 1) 5), (5, er 7 (.invokevirtual 21) 8 108 0 0), (8, e1 (.istore_n 2) 9), (9, er 2 (.goto 7) 12 16 0 0), (12, e1 (.astore_n 3) 13), (13, ev 0 (.ldc 10) 15 (.int (-100000000))), (15, ev 9 .ireturn 16 .null), (16, e1 (.iload_n 2) 17), (17, ev 9 .ireturn 18 .null)]
def cd_L_visit (pc : Nat) : List (Nat × Ent) := cl_L_visit_0
def ca_L_visit : List (Nat × Ent) := cl_L_visit_0
def cl_L_saw_0 : List (Nat × Ent) := [(0, ev 0 (.ldc 10) 2 (.int (-100000000))), (2, e1 (.istore 4) 4), (4, e1 (.aload_n 0) 5), (5, e1 (.iload_n 1) 6), (6, e1 (.iload_n 2) 7), (7, e1 (.iload_n 3) 8), (8, er 7 (.invokevirtual 25) 11 109 0 0), (11, e1 (.istore 4) 13), (13, er 2 (.goto 18) 16 31 0 0), (16, e1 (.astore 5) 18), (18, ev 0 (.ldc 10) 20 (.int (-100000000))), (20, ev 9 .ireturn 21 .null), (21, e1 (.astore 5) 23), (23, ev 0 (.ldc 10) 25 (.int (-100000000))), (25, ev 9 .ireturn 26 .null), (26, e1 (.astore 5) 28), (28, ev 0 (.ldc 10) 30 (.int (-100000000))), (30, ev 9 .ireturn 31 .null), (31, e1 (.iload 4) 33), (33, ev 9 .ireturn 34 .null)]
def cd_L_saw (pc : Nat) : List (Nat × Ent) := cl_L_saw_0
def ca_L_saw : List (Nat × Ent) := cl_L_saw_0
def cl_L_lay_0 : List (Nat × Ent) := [(0, ev 0 (.ldc 10) 2 (.int (-100000000))), (2, e1 (.istore 4) 4), (4, e1 (.aload_n 0) 5), (5, e1 (.iload_n 1) 6), (6, e1 (.iload_n 2) 7), (7, e1 (.iload_n 3) 8), (8, er 7 (.invokevirtual 31) 11 110 0 0), (11, e1 (.istore 4) 13), (13, er 2 (.goto 13) 16 26 0 0), (16, e1 (.astore 5) 18), (18, ev 0 (.ldc 10) 20 (.int (-100000000))), (20, ev 9 .ireturn 21 .null), (21, e1 (.astore 5) 23), (23, ev 0 (.ldc 10) 25 (.int (-100000000))), (25, ev 9 .ireturn 26 .null), (26, e1 (.iload 4) 28), (28, ev 9 .ireturn 29 .null)]
def cd_L_lay (pc : Nat) : List (Nat × Ent) := cl_L_lay_0
def ca_L_lay : List (Nat × Ent) := cl_L_lay_0
def cl_L_take_0 : List (Nat × Ent) := [(0, ev 0 (.ldc 10) 2 (.int (-100000000))), (2, e1 (.istore_n 2) 3), (3, e1 (.aload_n 0) 4), (4, e1 (.iload_n 1) 5), (5, er 7 (.invokevirtual 34) 8 111 0 0), (8, e1 (.istore_n 2) 9), (9, er 2 (.goto 11) 12 20 0 0), (12, e1 (.astore_n 3) 13), (13, ev 0 (.ldc 10) 15 (.int (-100000000))), (15, ev 9 .ireturn 16 .null), (16, e1 (.astore_n 3) 17), (17, ev 0 (.ldc 10) 19 (.int (-100000000))), (19, ev 9 .ireturn 20 .null), (20, e1 (.iload_n 2) 21), (21, ev 9 .ireturn 22 .null)]
def cd_L_take (pc : Nat) : List (Nat × Ent) := cl_L_take_0
def ca_L_take : List (Nat × Ent) := cl_L_take_0
def cl_L_pass_0 : List (Nat × Ent) := [(0, ev 0 (.ldc 10) 2 (.int (-100000000))), (2, e1 (.istore_n 2) 3), (3, e1 (.aload_n 0) 4), (4, e1 (.iload_n 1) 5), (5, er 7 (.invokevirtual 37) 8 112 0 0), (8, e1 (.istore_n 2) 9), (9, er 2 (.goto 7) 12 16 0 0), (12, e1 (.astore_n 3) 13), (13, ev 0 (.ldc 10) 15 (.int (-100000000))), (15, ev 9 .ireturn 16 .null), (16, e1 (.iload_n 2) 17), (17, ev 9 .ireturn 18 .null)]
def cd_L_pass (pc : Nat) : List (Nat × Ent) := cl_L_pass_0
def ca_L_pass : List (Nat × Ent) := cl_L_pass_0
def cl_L_goneIn_0 : List (Nat × Ent) := [(0, ev 0 (.ldc 10) 2 (.int (-100000000))), (2, e1 (.istore_n 1) 3), (3, e1 (.aload_n 0) 4), (4, er 7 (.invokevirtual 40) 7 124 0 0), (7, e1 (.istore_n 1) 8), (8, er 2 (.goto 7) 11 15 0 0), (11, e1 (.astore_n 2) 12), (12, ev 0 (.ldc 10) 14 (.int (-100000000))), (14, ev 9 .ireturn 15 .null), (15, e1 (.iload_n 1) 16), (16, ev 9 .ireturn 17 .null)]
def cd_L_goneIn (pc : Nat) : List (Nat × Ent) := cl_L_goneIn_0
def ca_L_goneIn : List (Nat × Ent) := cl_L_goneIn_0
def cl_L_safe_0 : List (Nat × Ent) := [(0, ev 0 (.ldc 10) 2 (.int (-100000000))), (2, e1 (.istore_n 1) 3), (3, e1 (.aload_n 0) 4), (4, er 7 (.invokevirtual 46) 7 126 0 0), (7, e1 (.istore_n 1) 8), (8, er 2 (.goto 7) 11 15 0 0), (11, e1 (.astore_n 2) 12), (12, ev 0 (.ldc 10) 14 (.int (-100000000))), (14, ev 9 .ireturn 15 .null), (15, e1 (.iload_n 1) 16), (16, ev 9 .ireturn 17 .null)]
def cd_L_safe (pc : Nat) : List (Nat × Ent) := cl_L_safe_0
def ca_L_safe : List (Nat × Ent) := cl_L_safe_0
def cl_L_worst_0 : List (Nat × Ent) := [(0, ev 0 (.ldc 10) 2 (.int (-100000000))), (2, e1 (.istore_n 1) 3), (3, e1 (.aload_n 0) 4), (4, er 7 (.invokevirtual 49) 7 123 0 0), (7, e1 (.istore_n 1) 8), (8, er 2 (.goto 7) 11 15 0 0), (11, e1 (.astore_n 2) 12), (12, ev 0 (.ldc 10) 14 (.int (-100000000))), (14, ev 9 .ireturn 15 .null), (15, e1 (.iload_n 1) 16), (16, ev 9 .ireturn 17 .null)]
def cd_L_worst (pc : Nat) : List (Nat × Ent) := cl_L_worst_0
def ca_L_worst : List (Nat × Ent) := cl_L_worst_0
def cl_L_read_0 : List (Nat × Ent) := [(0, ev 0 (.ldc 10) 2 (.int (-100000000))), (2, e1 (.istore_n 1) 3), (3, e1 (.aload_n 0) 4), (4, er 7 (.invokevirtual 52) 7 129 0 0), (7, e1 (.istore_n 1) 8), (8, er 2 (.goto 11) 11 19 0 0), (11, e1 (.astore_n 2) 12), (12, ev 0 (.ldc 10) 14 (.int (-100000000))), (14, ev 9 .ireturn 15 .null), (15, e1 (.astore_n 2) 16), (16, ev 0 (.ldc 10) 18 (.int (-100000000))), (18, ev 9 .ireturn 19 .null), (19, e1 (.iload_n 1) 20), (20, ev 9 .ireturn 21 .null)]
def cd_L_read (pc : Nat) : List (Nat × Ent) := cl_L_read_0
def ca_L_read : List (Nat × Ent) := cl_L_read_0
def cl_L_undo_0 : List (Nat × Ent) := [(0, ev 0 (.ldc 10) 2 (.int (-100000000))), (2, e1 (.istore_n 1) 3), (3, e1 (.aload_n 0) 4), (4, er 7 (.invokevirtual 59) 7 134 0 0), (7, e1 (.istore_n 1) 8), (8, er 2 (.goto 7) 11 15 0 0), (11, e1 (.astore_n 2) 12), (12, ev 0 (.ldc 10) 14 (.int (-100000000))), (14, ev 9 .ireturn 15 .null), (15, e1 (.iload_n 1) 16), (16, ev 9 .ireturn 17 .null)]
def cd_L_undo (pc : Nat) : List (Nat × Ent) := cl_L_undo_0
def ca_L_undo : List (Nat × Ent) := cl_L_undo_0
def cl_L_restore_0 : List (Nat × Ent) := [(0, ev 0 (.ldc 10) 2 (.int (-100000000))), (2, e1 (.istore_n 1) 3), (3, e1 (.aload_n 0) 4), (4, er 7 (.invokevirtual 64) 7 136 0 0), (7, e1 (.istore_n 1) 8), (8, er 2 (.goto 7) 11 15 0 0), (11, e1 (.astore_n 2) 12), (12, ev 0 (.ldc 10) 14 (.int (-100000000))), (14, ev 9 .ireturn 15 .null), (15, e1 (.iload_n 1) 16), (16, ev 9 .ireturn 17 .null)]
def cd_L_restore (pc : Nat) : List (Nat × Ent) := cl_L_restore_0
def ca_L_restore : List (Nat × Ent) := cl_L_restore_0
def cl_L_meanBits_0 : List (Nat × Ent) := [(0, ev 0 (.ldc2_w 67) 3 (.long (-1))), (3, e1 (.lstore_n 1) 4), (4, e1 (.aload_n 0) 5), (5, er 7 (.invokevirtual 69) 8 133 0 0), (8, e1 (.lstore_n 1) 9), (9, er 2 (.goto 8) 12 17 0 0), (12, e1 (.astore_n 3) 13), (13, ev 0 (.ldc2_w 67) 16 (.long (-1))), (16, ev 9 .lreturn 17 .null), (17, e1 (.lload_n 1) 18), (18, ev 9 .lreturn 19 .null)]
def cd_L_meanBits (pc : Nat) : List (Nat × Ent) := cl_L_meanBits_0
def ca_L_meanBits : List (Nat × Ent) := cl_L_meanBits_0
def cl_L_append_0 : List (Nat × Ent) := [(0, e1 (.aload_n 0) 1), (1, e1 (.iload_n 1) 2), (2, er 7 (.invokevirtual 75) 5 128 0 0), (5, e0 .pop 6), (6, er 2 (.goto 6) 9 12 0 0), (9, e1 (.astore_n 2) 10), (10, ev 0 (.iconst 0) 11 (.int 0)), (11, ev 9 .ireturn 12 .null), (12, ev 0 (.iconst 1) 13 (.int 1)), (13, ev 9 .ireturn 14 .null)]
def cd_L_append (pc : Nat) : List (Nat × Ent) := cl_L_append_0
def ca_L_append : List (Nat × Ent) := cl_L_append_0
def cl_L_write_0 : List (Nat × Ent) := [(0, ev 0 (.iconst 0) 1 (.int 0)), (1, e1 (.istore_n 2) 2), (2, e1 (.iload_n 2) 3), (3, e1 (.aload_n 1) 4), (4, er 7 (.invokevirtual 79) 7 150 0 0), (7, er 2 (.if_icmp .ge 19) 10 26 0 0), (10, e1 (.aload_n 0) 11), (11, e1 (.aload_n 1) 12), (12, e1 (.iload_n 2) 13), (13, er 7 (.invokevirtual 84) 16 151 0 0), (16, er 7 (.invokestatic 88) 19 187 0 0), (19, e0 .pop 20), (20, ev 1 (.iinc 2 1) 23 (.int 1)), (23, er 2 (.goto (-21)) 26 2 0 0), (26, e1 (.aload_n 0) 27), (27, ev 7 .areturn 28 .null)]
def cd_L_write (pc : Nat) : List (Nat × Ent) := cl_L_write_0
def ca_L_write : List (Nat × Ent) := cl_L_write_0
def cl_L_act_0 : List (Nat × Ent) := [(0, e1 (.iload_n 1) 1), (1, ev 0 (.iconst 4) 2 (.int 4)), (2, e0 .ishr 3), (3, ev 0 (.ldc 7) 5 (.int 65535)), (5, e0 .iand 6), (6, e1 (.istore_n 2) 7), (7, e1 (.iload_n 2) 8), (8, ev 0 (.iconst 1) 9 (.int 1)), (9, e0 .iand 10), (10, e1 (.istore_n 3) 11), (11, e1 (.iload_n 2) 12), (12, ev 0 (.iconst 1) 13 (.int 1)), (13, e0 .ishr 14), (14, ev 0 (.bipush 13) 16 (.int 13)), (16, e0 .irem 17), (17, e1 (.istore 4) 19), (19, e1 (.iload_n 1) 20), (20, ev 0 (.bipush 15) 22 (.int 15)), (22, e0 .iand 23), (23, ev 6 (.tableswitch 189 0 8 #[49, 67, 76, 76, 76, 102, 130, 139, 157]) 72 .null), (72, e1 (.aload_n 0) 73), (73, e1 (.iload_n 2) 74), (74, ev 0 (.bipush 25) 76 (.int 25)), (76, e0 .irem 77), (77, e1 (.iload_n 2) 78), (78, ev 0 (.iconst 5) 79 (.int 5)), (79, e0 .ishr 80), (80, ev 0 (.bipush 53) 82 (.int 53)), (82, e0 .irem 83), (83, ev 0 (.bipush 31) 85 (.int 31)), (85, e0 .isub 86), (86, er 7 (.invokestatic 91) 89 174 0 0), (89, ev 9 .ireturn 90 .null), (90, e1 (.aload_n 0) 91), (91, e1 (.iload_n 2) 92), (92, ev 0 (.bipush 52) 94 (.int 52)), (94, e0 .irem 95), (95, er 7 (.invokestatic 94) 98 175 0 0), (98, ev 9 .ireturn 99 .null), (99, e1 (.aload_n 0) 100)]
def cl_L_act_1 : List (Nat × Ent) := [(100, e1 (.iload_n 3) 101), (101, e1 (.iload_n 2) 102), (102, ev 0 (.iconst 1) 103 (.int 1)), (103, e0 .ishr 104), (104, ev 0 (.bipush 8) 106 (.int 8)), (106, e0 .irem 107), (107, e1 (.iload_n 2) 108), (108, ev 0 (.bipush 56) 110 (.int 56)), (110, e0 .iand 111), (111, er 2 (.ifCond .ne 9) 114 120 0 0), (114, ev 0 (.iconst 1) 115 (.int 1)), (115, e1 (.iload_n 3) 116), (116, e0 .isub 117), (117, er 2 (.goto 4) 120 121 0 0), (120, e1 (.iload_n 3) 121), (121, er 7 (.invokestatic 97) 124 176 0 0), (124, ev 9 .ireturn 125 .null), (125, e1 (.iload_n 2) 126), (126, ev 0 (.iconst 3) 127 (.int 3)), (127, e0 .iand 128), (128, er 2 (.ifCond .ne 16) 131 144 0 0), (131, e1 (.aload_n 0) 132), (132, e1 (.iload_n 2) 133), (133, ev 0 (.iconst 2) 134 (.int 2)), (134, e0 .ishr 135), (135, ev 0 (.bipush 12) 137 (.int 12)), (137, e0 .irem 138), (138, er 7 (.invokestatic 100) 141 178 0 0), (141, er 2 (.goto 11) 144 152 0 0), (144, e1 (.aload_n 0) 145), (145, e1 (.iload_n 2) 146), (146, ev 0 (.bipush 7) 148 (.int 7)), (148, e0 .irem 149), (149, er 7 (.invokestatic 102) 152 179 0 0), (152, ev 9 .ireturn 153 .null), (153, e1 (.aload_n 0) 154), (154, e1 (.iload_n 2) 155), (155, ev 0 (.bipush 13) 157 (.int 13)), (157, e0 .irem 158), (158, er 7 (.invokestatic 102) 161 179 0 0)]
def cl_L_act_2 : List (Nat × Ent) := [(161, ev 9 .ireturn 162 .null), (162, e1 (.aload_n 0) 163), (163, ev 7 (.getstatic 104) 166 .null), (166, e1 (.iload_n 2) 167), (167, ev 7 (.getstatic 104) 170 .null), (170, ev 3 .arraylength 171 .null), (171, e0 .irem 172), (172, ev 3 .aaload 173 .null), (173, er 7 (.invokestatic 108) 176 188 0 0), (176, er 7 (.invokestatic 112) 179 183 0 0), (179, ev 9 .ireturn 180 .null), (180, e1 (.iload_n 2) 181), (181, ev 0 (.iconst 3) 182 (.int 3)), (182, e0 .iand 183), (183, er 2 (.ifCond .ne 10) 186 193 0 0), (186, e1 (.aload_n 0) 187), (187, er 4 (.invokevirtual 115) 190 135 0 0), (190, er 2 (.goto 21) 193 211 0 0), (193, e1 (.iload_n 2) 194), (194, ev 0 (.iconst 3) 195 (.int 3)), (195, e0 .iand 196), (196, ev 0 (.iconst 1) 197 (.int 1)), (197, er 2 (.if_icmp .ne 10) 200 207 0 0), (200, e1 (.aload_n 0) 201), (201, er 7 (.invokestatic 118) 204 185 0 0), (204, er 2 (.goto 7) 207 211 0 0), (207, e1 (.aload_n 0) 208), (208, er 7 (.invokestatic 120) 211 184 0 0), (211, ev 9 .ireturn 212 .null), (212, e1 (.iload_n 2) 213), (213, ev 0 (.iconst 1) 214 (.int 1)), (214, e0 .iand 215), (215, er 2 (.ifCond .eq 10) 218 225 0 0), (218, e1 (.iload 4) 220), (220, ev 0 (.bipush 11) 222 (.int 11)), (222, er 2 (.if_icmp .le 12) 225 234 0 0), (225, e1 (.iload_n 2) 226), (226, ev 0 (.bipush 6) 228 (.int 6)), (228, e0 .ishr 229), (229, ev 0 (.iconst 4) 230 (.int 4))]
def cl_L_act_3 : List (Nat × Ent) := [(230, e0 .irem 231), (231, er 2 (.goto 9) 234 240 0 0), (234, e1 (.aload_n 0) 235), (235, e1 (.iload 4) 237), (237, er 7 (.invokevirtual 122) 240 118 0 0), (240, e1 (.istore 5) 242), (242, e1 (.aload_n 0) 243), (243, e1 (.iload_n 2) 244), (244, ev 0 (.iconst 3) 245 (.int 3)), (245, e0 .ishr 246), (246, ev 0 (.bipush 14) 248 (.int 14)), (248, e0 .irem 249), (249, e1 (.iload 4) 251), (251, e1 (.iload 5) 253), (253, er 7 (.invokestatic 125) 256 177 0 0), (256, ev 9 .ireturn 257 .null)]
def cd_L_act (pc : Nat) : List (Nat × Ent) := bif Nat.blt pc 161 then (bif Nat.blt pc 100 then (cl_L_act_0) else (cl_L_act_1)) else (bif Nat.blt pc 230 then (cl_L_act_2) else (cl_L_act_3))
def ca_L_act : List (Nat × Ent) := cl_L_act_0 ++ cl_L_act_1 ++ cl_L_act_2 ++ cl_L_act_3
def cl_L_digest_0 : List (Nat × Ent) := [(0, ev 0 (.ldc2_w 127) 3 (.long 7)), (3, e1 (.lstore_n 1) 4), (4, ev 0 (.iconst 0) 5 (.int 0)), (5, e1 (.istore_n 3) 6), (6, e1 (.iload_n 3) 7), (7, ev 0 (.bipush 13) 9 (.int 13)), (9, er 2 (.if_icmp .ge 22) 12 31 0 0), (12, ev 0 (.ldc2_w 129) 15 (.long 31)), (15, e1 (.lload_n 1) 16), (16, e0 .lmul 17), (17, e1 (.aload_n 0) 18), (18, e1 (.iload_n 3) 19), (19, er 7 (.invokevirtual 131) 22 131 0 0), (22, e0 .i2l 23), (23, e0 .ladd 24), (24, e1 (.lstore_n 1) 25), (25, ev 1 (.iinc 3 1) 28 (.int 1)), (28, er 2 (.goto (-22)) 31 6 0 0), (31, ev 0 (.iconst 0) 32 (.int 0)), (32, e1 (.istore_n 3) 33), (33, e1 (.iload_n 3) 34), (34, e1 (.aload_n 0) 35), (35, ev 0 (.iconst 4) 36 (.int 4)), (36, er 7 (.invokevirtual 131) 39 131 0 0), (39, ev 0 (.bipush 8) 41 (.int 8)), (41, e0 .imul 42), (42, er 2 (.if_icmp .ge 29) 45 71 0 0), (45, ev 0 (.ldc2_w 129) 48 (.long 31)), (48, e1 (.lload_n 1) 49), (49, e0 .lmul 50), (50, e1 (.aload_n 0) 51), (51, e1 (.iload_n 3) 52), (52, ev 0 (.bipush 8) 54 (.int 8)), (54, e0 .idiv 55), (55, e1 (.iload_n 3) 56), (56, ev 0 (.bipush 8) 58 (.int 8)), (58, e0 .irem 59), (59, er 7 (.invokevirtual 134) 62 113 0 0), (62, e0 .i2l 63), (63, e0 .ladd 64)]
def cl_L_digest_1 : List (Nat × Ent) := [(64, e1 (.lstore_n 1) 65), (65, ev 1 (.iinc 3 1) 68 (.int 1)), (68, er 2 (.goto (-35)) 71 33 0 0), (71, ev 0 (.iconst 0) 72 (.int 0)), (72, e1 (.istore_n 3) 73), (73, e1 (.iload_n 3) 74), (74, e1 (.aload_n 0) 75), (75, ev 0 (.iconst 4) 76 (.int 4)), (76, er 7 (.invokevirtual 131) 79 131 0 0), (79, er 2 (.if_icmp .ge 23) 82 102 0 0), (82, ev 0 (.ldc2_w 129) 85 (.long 31)), (85, e1 (.lload_n 1) 86), (86, e0 .lmul 87), (87, e1 (.aload_n 0) 88), (88, e1 (.iload_n 3) 89), (89, ev 0 (.iconst 0) 90 (.int 0)), (90, er 7 (.invokevirtual 137) 93 125 0 0), (93, e0 .i2l 94), (94, e0 .ladd 95), (95, e1 (.lstore_n 1) 96), (96, ev 1 (.iinc 3 1) 99 (.int 1)), (99, er 2 (.goto (-26)) 102 73 0 0), (102, ev 0 (.iconst 0) 103 (.int 0)), (103, e1 (.istore_n 3) 104), (104, e1 (.iload_n 3) 105), (105, ev 0 (.bipush 96) 107 (.int 96)), (107, er 2 (.if_icmp .ge 29) 110 136 0 0), (110, ev 0 (.ldc2_w 129) 113 (.long 31)), (113, e1 (.lload_n 1) 114), (114, e0 .lmul 115), (115, e1 (.aload_n 0) 116), (116, e1 (.iload_n 3) 117), (117, ev 0 (.bipush 12) 119 (.int 12)), (119, e0 .irem 120), (120, e1 (.iload_n 3) 121), (121, ev 0 (.bipush 12) 123 (.int 12)), (123, e0 .idiv 124), (124, er 7 (.invokevirtual 140) 127 117 0 0), (127, e0 .i2l 128), (128, e0 .ladd 129)]
def cl_L_digest_2 : List (Nat × Ent) := [(129, e1 (.lstore_n 1) 130), (130, ev 1 (.iinc 3 1) 133 (.int 1)), (133, er 2 (.goto (-29)) 136 104 0 0), (136, e1 (.lload_n 1) 137), (137, ev 9 .lreturn 138 .null)]
def cd_L_digest (pc : Nat) : List (Nat × Ent) := bif Nat.blt pc 64 then (cl_L_digest_0) else (bif Nat.blt pc 129 then (cl_L_digest_1) else (cl_L_digest_2))
def ca_L_digest : List (Nat × Ent) := cl_L_digest_0 ++ cl_L_digest_1 ++ cl_L_digest_2
def cl_L_areBlocks_0 : List (Nat × Ent) := [(0, ev 0 (.iconst 5) 1 (.int 5)), (1, ev 7 (.newarray .int) 3 .null), (3, e1 (.astore_n 1) 4), (4, ev 0 (.iconst 3) 5 (.int 3)), (5, ev 7 (.newarray .int) 7 .null), (7, e1 (.astore_n 2) 8), (8, ev 0 (.iconst 0) 9 (.int 0)), (9, e1 (.istore_n 3) 10), (10, ev 0 (.iconst 0) 11 (.int 0)), (11, e1 (.istore 4) 13), (13, ev 0 (.iconst 1) 14 (.int 1)), (14, e1 (.istore 5) 16), (16, ev 0 (.iconst 0) 17 (.int 0)), (17, e1 (.istore 6) 19), (19, e1 (.iload 5) 21), (21, er 2 (.ifCond .eq 275) 24 296 0 0), (24, e1 (.iload 6) 26), (26, e1 (.aload_n 0) 27), (27, ev 0 (.iconst 4) 28 (.int 4)), (28, er 7 (.invokevirtual 131) 31 131 0 0), (31, er 2 (.if_icmp .ge 265) 34 296 0 0), (34, e1 (.aload_n 0) 35), (35, e1 (.iload 6) 37), (37, ev 0 (.iconst 2) 38 (.int 2)), (38, er 7 (.invokevirtual 134) 41 113 0 0), (41, e1 (.istore 7) 43), (43, e1 (.aload_n 0) 44), (44, e1 (.iload 6) 46), (46, ev 0 (.iconst 1) 47 (.int 1)), (47, er 7 (.invokevirtual 134) 50 113 0 0), (50, e1 (.istore 8) 52), (52, e1 (.aload_n 2) 53), (53, e1 (.iload 7) 55), (55, e0 .dup2 56), (56, ev 3 .iaload 57 .null), (57, ev 0 (.iconst 1) 58 (.int 1)), (58, e0 .iadd 59), (59, ev 3 .iastore 60 .null), (60, e1 (.aload_n 1) 61), (61, e1 (.aload_n 0) 62)]
def cl_L_areBlocks_1 : List (Nat × Ent) := [(62, e1 (.iload 6) 64), (64, ev 0 (.bipush 7) 66 (.int 7)), (66, er 7 (.invokevirtual 134) 69 113 0 0), (69, e0 .dup2 70), (70, ev 3 .iaload 71 .null), (71, ev 0 (.iconst 1) 72 (.int 1)), (72, e0 .iadd 73), (73, ev 3 .iastore 74 .null), (74, e1 (.iload_n 3) 75), (75, e1 (.iload 8) 77), (77, e0 .iadd 78), (78, e1 (.istore_n 3) 79), (79, e1 (.iload 4) 81), (81, e1 (.iload 7) 83), (83, ev 0 (.iconst 1) 84 (.int 1)), (84, er 2 (.if_icmp .ne 8) 87 92 0 0), (87, e1 (.iload 8) 89), (89, er 2 (.goto 4) 92 93 0 0), (92, ev 0 (.iconst 0) 93 (.int 0)), (93, e0 .iadd 94), (94, e1 (.istore 4) 96), (96, ev 7 (.ldc 143) 98 .null), (98, e1 (.aload_n 0) 99), (99, e1 (.iload 6) 101), (101, er 7 (.invokevirtual 145) 104 120 0 0), (104, er 7 (.invokevirtual 148) 107 152 0 0), (107, e1 (.iload 7) 109), (109, ev 0 (.iconst 2) 110 (.int 2)), (110, er 2 (.if_icmp .ge 8) 113 118 0 0), (113, e1 (.iload 7) 115), (115, er 2 (.goto 4) 118 119 0 0), (118, ev 0 (.iconst (-1)) 119 (.int (-1))), (119, er 2 (.if_icmp .ne 67) 122 186 0 0), (122, e1 (.iload 7) 124), (124, ev 0 (.iconst 2) 125 (.int 2)), (125, er 2 (.if_icmp .ne 7) 128 132 0 0), (128, ev 0 (.iconst 1) 129 (.int 1)), (129, er 2 (.goto 4) 132 133 0 0), (132, ev 0 (.iconst 0) 133 (.int 0)), (133, e1 (.aload_n 0) 134)]
def cl_L_areBlocks_2 : List (Nat × Ent) := [(134, e1 (.iload 6) 136), (136, ev 0 (.bipush 7) 138 (.int 7)), (138, er 7 (.invokevirtual 134) 141 113 0 0), (141, er 2 (.ifCond .le 7) 144 148 0 0), (144, ev 0 (.iconst 1) 145 (.int 1)), (145, er 2 (.goto 4) 148 149 0 0), (148, ev 0 (.iconst 0) 149 (.int 0)), (149, er 2 (.if_icmp .ne 37) 152 186 0 0), (152, e1 (.iload 7) 154), (154, ev 0 (.iconst 2) 155 (.int 2)), (155, er 2 (.if_icmp .ne 7) 158 162 0 0), (158, ev 0 (.iconst 1) 159 (.int 1)), (159, er 2 (.goto 4) 162 163 0 0), (162, ev 0 (.iconst 0) 163 (.int 0)), (163, e1 (.aload_n 0) 164), (164, e1 (.iload 6) 166), (166, ev 0 (.iconst 0) 167 (.int 0)), (167, er 7 (.invokevirtual 137) 170 125 0 0), (170, ev 0 (.iconst (-1)) 171 (.int (-1))), (171, er 2 (.if_icmp .ne 7) 174 178 0 0), (174, ev 0 (.iconst 1) 175 (.int 1)), (175, er 2 (.goto 4) 178 179 0 0), (178, ev 0 (.iconst 0) 179 (.int 0)), (179, er 2 (.if_icmp .ne 7) 182 186 0 0), (182, ev 0 (.iconst 1) 183 (.int 1)), (183, er 2 (.goto 4) 186 187 0 0), (186, ev 0 (.iconst 0) 187 (.int 0)), (187, e1 (.istore 5) 189), (189, e1 (.iload 5) 191), (191, er 2 (.ifCond .eq 39) 194 230 0 0), (194, e1 (.iload 7) 196), (196, er 2 (.ifCond .ne 34) 199 230 0 0), (199, e1 (.aload_n 0) 200), (200, e1 (.aload_n 0) 201), (201, e1 (.iload 6) 203), (203, ev 0 (.iconst 0) 204 (.int 0)), (204, er 7 (.invokevirtual 134) 207 113 0 0), (207, e1 (.aload_n 0) 208), (208, e1 (.iload 6) 210), (210, ev 0 (.bipush 6) 212 (.int 6))]
def cl_L_areBlocks_3 : List (Nat × Ent) := [(212, er 7 (.invokevirtual 134) 215 113 0 0), (215, er 7 (.invokevirtual 151) 218 122 0 0), (218, e1 (.iload 6) 220), (220, er 2 (.if_icmp .ne 7) 223 227 0 0), (223, ev 0 (.iconst 1) 224 (.int 1)), (224, er 2 (.goto 4) 227 228 0 0), (227, ev 0 (.iconst 0) 228 (.int 0)), (228, e1 (.istore 5) 230), (230, ev 0 (.iconst 0) 231 (.int 0)), (231, e1 (.istore 9) 233), (233, e1 (.iload 5) 235), (235, er 2 (.ifCond .eq 55) 238 290 0 0), (238, e1 (.iload 7) 240), (240, ev 0 (.iconst 1) 241 (.int 1)), (241, er 2 (.if_icmp .ne 49) 244 290 0 0), (244, e1 (.iload 9) 246), (246, e1 (.iload 8) 248), (248, er 2 (.if_icmp .ge 42) 251 290 0 0), (251, e1 (.aload_n 0) 252), (252, e1 (.aload_n 0) 253), (253, e1 (.iload 6) 255), (255, ev 0 (.iconst 3) 256 (.int 3)), (256, er 7 (.invokevirtual 134) 259 113 0 0), (259, e1 (.iload 9) 261), (261, e0 .iadd 262), (262, e1 (.aload_n 0) 263), (263, e1 (.iload 6) 265), (265, ev 0 (.iconst 4) 266 (.int 4)), (266, er 7 (.invokevirtual 134) 269 113 0 0), (269, er 7 (.invokevirtual 140) 272 117 0 0), (272, e1 (.iload 6) 274), (274, er 2 (.if_icmp .ne 7) 277 281 0 0), (277, ev 0 (.iconst 1) 278 (.int 1)), (278, er 2 (.goto 4) 281 282 0 0), (281, ev 0 (.iconst 0) 282 (.int 0)), (282, e1 (.istore 5) 284), (284, ev 1 (.iinc 9 1) 287 (.int 1)), (287, er 2 (.goto (-54)) 290 233 0 0), (290, ev 1 (.iinc 6 1) 293 (.int 1)), (293, er 2 (.goto (-274)) 296 19 0 0)]
def cl_L_areBlocks_4 : List (Nat × Ent) := [(296, e1 (.iload 5) 298), (298, er 2 (.ifCond .eq 54) 301 352 0 0), (301, e1 (.aload_n 2) 302), (302, ev 0 (.iconst 0) 303 (.int 0)), (303, ev 3 .iaload 304 .null), (304, e1 (.aload_n 0) 305), (305, ev 0 (.iconst 5) 306 (.int 5)), (306, er 7 (.invokevirtual 131) 309 131 0 0), (309, er 2 (.if_icmp .ne 43) 312 352 0 0), (312, e1 (.aload_n 2) 313), (313, ev 0 (.iconst 1) 314 (.int 1)), (314, ev 3 .iaload 315 .null), (315, e1 (.aload_n 0) 316), (316, ev 0 (.bipush 6) 318 (.int 6)), (318, er 7 (.invokevirtual 131) 321 131 0 0), (321, er 2 (.if_icmp .ne 31) 324 352 0 0), (324, e1 (.iload 4) 326), (326, e1 (.aload_n 0) 327), (327, ev 0 (.bipush 11) 329 (.int 11)), (329, er 7 (.invokevirtual 131) 332 131 0 0), (332, er 2 (.if_icmp .ne 20) 335 352 0 0), (335, e1 (.iload_n 3) 336), (336, e1 (.aload_n 0) 337), (337, ev 0 (.iconst 2) 338 (.int 2)), (338, er 7 (.invokevirtual 131) 341 131 0 0), (341, e0 .iadd 342), (342, ev 0 (.sipush 200) 345 (.int 200)), (345, er 2 (.if_icmp .ne 7) 348 352 0 0), (348, ev 0 (.iconst 1) 349 (.int 1)), (349, er 2 (.goto 4) 352 353 0 0), (352, ev 0 (.iconst 0) 353 (.int 0)), (353, e1 (.istore 5) 355), (355, ev 0 (.iconst 1) 356 (.int 1)), (356, e1 (.istore 6) 358), (358, e1 (.iload 5) 360), (360, er 2 (.ifCond .eq 38) 363 398 0 0), (363, e1 (.iload 6) 365), (365, ev 0 (.iconst 5) 366 (.int 5)), (366, er 2 (.if_icmp .ge 32) 369 398 0 0), (369, e1 (.aload_n 1) 370)]
def cl_L_areBlocks_5 : List (Nat × Ent) := [(370, e1 (.iload 6) 372), (372, ev 3 .iaload 373 .null), (373, e1 (.aload_n 0) 374), (374, ev 0 (.bipush 6) 376 (.int 6)), (376, e1 (.iload 6) 378), (378, e0 .iadd 379), (379, er 7 (.invokevirtual 131) 382 131 0 0), (382, er 2 (.if_icmp .ne 7) 385 389 0 0), (385, ev 0 (.iconst 1) 386 (.int 1)), (386, er 2 (.goto 4) 389 390 0 0), (389, ev 0 (.iconst 0) 390 (.int 0)), (390, e1 (.istore 5) 392), (392, ev 1 (.iinc 6 1) 395 (.int 1)), (395, er 2 (.goto (-37)) 398 358 0 0), (398, e1 (.iload 5) 400), (400, er 2 (.ifCond .eq 14) 403 414 0 0), (403, e1 (.aload_n 0) 404), (404, er 4 (.invokevirtual 154) 407 132 0 0), (407, er 2 (.ifCond .eq 7) 410 414 0 0), (410, ev 0 (.iconst 1) 411 (.int 1)), (411, er 2 (.goto 4) 414 415 0 0), (414, ev 0 (.iconst 0) 415 (.int 0)), (415, ev 9 .ireturn 416 .null)]
def cd_L_areBlocks (pc : Nat) : List (Nat × Ent) := bif Nat.blt pc 212 then (bif Nat.blt pc 62 then (cl_L_areBlocks_0) else (bif Nat.blt pc 134 then (cl_L_areBlocks_1) else (cl_L_areBlocks_2))) else (bif Nat.blt pc 296 then (cl_L_areBlocks_3) else (bif Nat.blt pc 370 then (cl_L_areBlocks_4) else (cl_L_areBlocks_5)))
def ca_L_areBlocks : List (Nat × Ent) := cl_L_areBlocks_0 ++ cl_L_areBlocks_1 ++ cl_L_areBlocks_2 ++ cl_L_areBlocks_3 ++ cl_L_areBlocks_4 ++ cl_L_areBlocks_5
def cl_L_areLoads_0 : List (Nat × Ent) := [(0, ev 0 (.iconst 1) 1 (.int 1)), (1, e1 (.istore_n 1) 2), (2, e1 (.aload_n 0) 3), (3, er 7 (.invokestatic 158) 6 182 0 0), (6, e1 (.istore_n 2) 7), (7, ev 0 (.dconst 0) 8 (.double 0)), (8, e1 (.dstore_n 3) 9), (9, ev 0 (.iconst 0) 10 (.int 0)), (10, e1 (.istore 5) 12), (12, e1 (.iload_n 1) 13), (13, er 2 (.ifCond .eq 220) 16 233 0 0), (16, e1 (.iload 5) 18), (18, e1 (.aload_n 0) 19), (19, ev 0 (.iconst 4) 20 (.int 4)), (20, er 7 (.invokevirtual 131) 23 131 0 0), (23, er 2 (.if_icmp .ge 210) 26 233 0 0), (26, e1 (.aload_n 0) 27), (27, e1 (.iload 5) 29), (29, ev 0 (.iconst 2) 30 (.int 2)), (30, er 7 (.invokevirtual 134) 33 113 0 0), (33, ev 0 (.iconst 1) 34 (.int 1)), (34, er 2 (.if_icmp .ne 193) 37 227 0 0), (37, e1 (.aload_n 0) 38), (38, e1 (.iload 5) 40), (40, ev 0 (.iconst 0) 41 (.int 0)), (41, er 7 (.invokevirtual 160) 44 115 0 0), (44, er 5 (.invokestatic 164) 47 0 1 4), (47, e1 (.fstore 6) 49), (49, e1 (.aload_n 0) 50), (50, e1 (.iload 5) 52), (52, ev 0 (.iconst 1) 53 (.int 1)), (53, er 7 (.invokevirtual 160) 56 115 0 0), (56, er 5 (.invokestatic 164) 59 0 1 4), (59, e1 (.fstore 7) 61), (61, e1 (.aload_n 0) 62), (62, e1 (.iload_n 2) 63), (63, ev 0 (.iconst 0) 64 (.int 0)), (64, er 7 (.invokevirtual 160) 67 115 0 0), (67, er 5 (.invokestatic 164) 70 0 1 4), (70, e1 (.aload_n 0) 71)]
def cl_L_areLoads_1 : List (Nat × Ent) := [(71, e1 (.iload_n 2) 72), (72, ev 0 (.iconst 1) 73 (.int 1)), (73, er 7 (.invokevirtual 160) 76 115 0 0), (76, er 5 (.invokestatic 164) 79 0 1 4), (79, e0 .fdiv 80), (80, e1 (.fstore 8) 82), (82, e1 (.dload_n 3) 83), (83, e1 (.aload_n 0) 84), (84, e1 (.iload 5) 86), (86, er 7 (.invokevirtual 170) 89 114 0 0), (89, e0 .f2d 90), (90, e0 .dadd 91), (91, e1 (.dstore_n 3) 92), (92, e1 (.aload_n 0) 93), (93, e1 (.iload 5) 95), (95, er 7 (.invokevirtual 173) 98 116 0 0), (98, e1 (.aload_n 0) 99), (99, e1 (.iload 5) 101), (101, ev 0 (.iconst 0) 102 (.int 0)), (102, er 7 (.invokevirtual 160) 105 115 0 0), (105, er 2 (.if_icmp .ne 49) 108 154 0 0), (108, e1 (.fload 6) 110), (110, e1 (.fload 7) 112), (112, e0 .fdiv 113), (113, e1 (.fload 8) 115), (115, e0 (.fcmp .g) 116), (116, er 2 (.ifCond .gt 38) 119 154 0 0), (119, e1 (.iload 5) 121), (121, e1 (.iload_n 2) 122), (122, er 2 (.if_icmp .ge 14) 125 136 0 0), (125, e1 (.fload 6) 127), (127, e1 (.fload 7) 129), (129, e0 .fdiv 130), (130, e1 (.fload 8) 132), (132, e0 (.fcmp .g) 133), (133, er 2 (.ifCond .ge 21) 136 154 0 0), (136, e1 (.fload 7) 138), (138, ev 0 (.fconst 2) 139 (.float 1073741824)), (139, e1 (.aload_n 0) 140), (140, e1 (.iload 5) 142)]
def cl_L_areLoads_2 : List (Nat × Ent) := [(142, er 7 (.invokevirtual 170) 145 114 0 0), (145, e0 .fmul 146), (146, e0 (.fcmp .l) 147), (147, er 2 (.ifCond .lt 7) 150 154 0 0), (150, ev 0 (.iconst 1) 151 (.int 1)), (151, er 2 (.goto 4) 154 155 0 0), (154, ev 0 (.iconst 0) 155 (.int 0)), (155, e1 (.istore_n 1) 156), (156, e1 (.iload_n 1) 157), (157, er 2 (.ifCond .eq 68) 160 225 0 0), (160, e1 (.aload_n 0) 161), (161, e1 (.iload 5) 163), (163, ev 0 (.iconst 0) 164 (.int 0)), (164, er 7 (.invokevirtual 176) 167 119 0 0), (167, er 2 (.ifCond .eq 58) 170 225 0 0), (170, e1 (.aload_n 0) 171), (171, e1 (.iload 5) 173), (173, ev 0 (.bipush 18) 175 (.int 18)), (175, er 7 (.invokevirtual 176) 178 119 0 0), (178, er 2 (.ifCond .eq 47) 181 225 0 0), (181, e1 (.aload_n 0) 182), (182, e1 (.iload 5) 184), (184, ev 0 (.bipush 6) 186 (.int 6)), (186, er 7 (.invokevirtual 176) 189 119 0 0), (189, e1 (.aload_n 0) 190), (190, e1 (.iload 5) 192), (192, ev 0 (.bipush 11) 194 (.int 11)), (194, er 7 (.invokevirtual 176) 197 119 0 0), (197, er 2 (.if_icmp .ne 28) 200 225 0 0), (200, e1 (.aload_n 0) 201), (201, e1 (.aload_n 0) 202), (202, e1 (.iload 5) 204), (204, ev 0 (.iconst 3) 205 (.int 3)), (205, er 7 (.invokevirtual 134) 208 113 0 0), (208, er 7 (.invokevirtual 122) 211 118 0 0), (211, e1 (.aload_n 0) 212), (212, e1 (.iload 5) 214), (214, ev 0 (.iconst 4) 215 (.int 4)), (215, er 7 (.invokevirtual 134) 218 113 0 0), (218, er 2 (.if_icmp .le 7) 221 225 0 0)]
def cl_L_areLoads_3 : List (Nat × Ent) := [(221, ev 0 (.iconst 1) 222 (.int 1)), (222, er 2 (.goto 4) 225 226 0 0), (225, ev 0 (.iconst 0) 226 (.int 0)), (226, e1 (.istore_n 1) 227), (227, ev 1 (.iinc 5 1) 230 (.int 1)), (230, er 2 (.goto (-218)) 233 12 0 0), (233, e1 (.iload_n 1) 234), (234, er 2 (.ifCond .eq 42) 237 276 0 0), (237, e1 (.aload_n 0) 238), (238, er 7 (.invokestatic 180) 241 186 0 0), (241, e1 (.aload_n 0) 242), (242, ev 0 (.bipush 6) 244 (.int 6)), (244, er 7 (.invokevirtual 131) 247 131 0 0), (247, er 2 (.ifCond .ne 9) 250 256 0 0), (250, ev 0 (.ldc2_w 67) 253 (.long (-1))), (253, er 2 (.goto 15) 256 268 0 0), (256, e1 (.dload_n 3) 257), (257, e1 (.aload_n 0) 258), (258, ev 0 (.bipush 6) 260 (.int 6)), (260, er 7 (.invokevirtual 131) 263 131 0 0), (263, e0 .i2d 264), (264, e0 .ddiv 265), (265, er 4 (.invokestatic 183) 268 146 1 1), (268, e0 .lcmp 269), (269, er 2 (.ifCond .ne 7) 272 276 0 0), (272, ev 0 (.iconst 1) 273 (.int 1)), (273, er 2 (.goto 4) 276 277 0 0), (276, ev 0 (.iconst 0) 277 (.int 0)), (277, ev 9 .ireturn 278 .null)]
def cd_L_areLoads (pc : Nat) : List (Nat × Ent) := bif Nat.blt pc 142 then (bif Nat.blt pc 71 then (cl_L_areLoads_0) else (cl_L_areLoads_1)) else (bif Nat.blt pc 221 then (cl_L_areLoads_2) else (cl_L_areLoads_3))
def ca_L_areLoads : List (Nat × Ent) := cl_L_areLoads_0 ++ cl_L_areLoads_1 ++ cl_L_areLoads_2 ++ cl_L_areLoads_3
def cl_L_areRooms_0 : List (Nat × Ent) := [(0, ev 0 (.iconst 0) 1 (.int 0)), (1, e1 (.istore_n 2) 2), (2, ev 0 (.iconst 0) 3 (.int 0)), (3, e1 (.istore_n 3) 4), (4, ev 0 (.iconst (-1)) 5 (.int (-1))), (5, e1 (.istore 4) 7), (7, ev 0 (.iconst 0) 8 (.int 0)), (8, e1 (.istore 5) 10), (10, e1 (.iload 5) 12), (12, ev 0 (.bipush 12) 14 (.int 12)), (14, er 2 (.if_icmp .ge 116) 17 130 0 0), (17, e1 (.aload_n 0) 18), (18, e1 (.iload 5) 20), (20, e1 (.iload_n 1) 21), (21, er 7 (.invokevirtual 140) 24 117 0 0), (24, er 2 (.ifCond .lt 7) 27 31 0 0), (27, ev 0 (.iconst 1) 28 (.int 1)), (28, er 2 (.goto 4) 31 32 0 0), (31, ev 0 (.iconst 0) 32 (.int 0)), (32, e1 (.istore 6) 34), (34, e1 (.iload_n 1) 35), (35, ev 0 (.bipush 7) 37 (.int 7)), (37, er 2 (.if_icmp .ge 19) 40 56 0 0), (40, e1 (.aload_n 0) 41), (41, e1 (.iload 5) 43), (43, e1 (.iload_n 1) 44), (44, ev 0 (.iconst 1) 45 (.int 1)), (45, e0 .iadd 46), (46, er 7 (.invokevirtual 140) 49 117 0 0), (49, er 2 (.ifCond .lt 7) 52 56 0 0), (52, ev 0 (.iconst 1) 53 (.int 1)), (53, er 2 (.goto 4) 56 57 0 0), (56, ev 0 (.iconst 0) 57 (.int 0)), (57, e1 (.istore 7) 59), (59, e1 (.iload_n 2) 60), (60, e1 (.iload 6) 62), (62, er 2 (.ifCond .eq 12) 65 74 0 0), (65, e1 (.iload 4) 67), (67, er 2 (.ifCond .le 7) 70 74 0 0), (70, ev 0 (.iconst 1) 71 (.int 1))]
def cl_L_areRooms_1 : List (Nat × Ent) := [(71, er 2 (.goto 4) 74 75 0 0), (74, ev 0 (.iconst 0) 75 (.int 0)), (75, e0 .iadd 76), (76, e1 (.istore_n 2) 77), (77, e1 (.iload 6) 79), (79, er 2 (.ifCond .eq 14) 82 93 0 0), (82, e1 (.iload 4) 84), (84, e1 (.iload_n 3) 85), (85, er 2 (.if_icmp .le 8) 88 93 0 0), (88, e1 (.iload 4) 90), (90, er 2 (.goto 4) 93 94 0 0), (93, e1 (.iload_n 3) 94), (94, e1 (.istore_n 3) 95), (95, e1 (.iload 6) 97), (97, er 2 (.ifCond .eq 7) 100 104 0 0), (100, ev 0 (.iconst 0) 101 (.int 0)), (101, er 2 (.goto 21) 104 122 0 0), (104, e1 (.iload 4) 106), (106, er 2 (.ifCond .lt 15) 109 121 0 0), (109, e1 (.iload 7) 111), (111, er 2 (.ifCond .eq 10) 114 121 0 0), (114, e1 (.iload 4) 116), (116, ev 0 (.iconst 1) 117 (.int 1)), (117, e0 .iadd 118), (118, er 2 (.goto 4) 121 122 0 0), (121, ev 0 (.iconst (-1)) 122 (.int (-1))), (122, e1 (.istore 4) 124), (124, ev 1 (.iinc 5 1) 127 (.int 1)), (127, er 2 (.goto (-117)) 130 10 0 0), (130, e1 (.aload_n 0) 131), (131, e1 (.iload_n 1) 132), (132, ev 0 (.iconst 0) 133 (.int 0)), (133, er 7 (.invokevirtual 189) 136 121 0 0), (136, e1 (.iload_n 2) 137), (137, er 2 (.if_icmp .ne 44) 140 181 0 0), (140, e1 (.aload_n 0) 141), (141, e1 (.iload_n 1) 142), (142, ev 0 (.iconst 1) 143 (.int 1)), (143, er 7 (.invokevirtual 189) 146 121 0 0), (146, e1 (.iload_n 3) 147)]
def cl_L_areRooms_2 : List (Nat × Ent) := [(147, er 2 (.if_icmp .ne 34) 150 181 0 0), (150, e1 (.aload_n 0) 151), (151, e1 (.iload_n 1) 152), (152, ev 0 (.iconst 2) 153 (.int 2)), (153, er 7 (.invokevirtual 189) 156 121 0 0), (156, ev 0 (.iconst (-1)) 157 (.int (-1))), (157, er 2 (.if_icmp .ne 7) 160 164 0 0), (160, ev 0 (.iconst 1) 161 (.int 1)), (161, er 2 (.goto 4) 164 165 0 0), (164, ev 0 (.iconst 0) 165 (.int 0)), (165, e1 (.iload_n 2) 166), (166, er 2 (.ifCond .ne 7) 169 173 0 0), (169, ev 0 (.iconst 1) 170 (.int 1)), (170, er 2 (.goto 4) 173 174 0 0), (173, ev 0 (.iconst 0) 174 (.int 0)), (174, er 2 (.if_icmp .ne 7) 177 181 0 0), (177, ev 0 (.iconst 1) 178 (.int 1)), (178, er 2 (.goto 4) 181 182 0 0), (181, ev 0 (.iconst 0) 182 (.int 0)), (182, ev 9 .ireturn 183 .null)]
def cd_L_areRooms (pc : Nat) : List (Nat × Ent) := bif Nat.blt pc 71 then (cl_L_areRooms_0) else (bif Nat.blt pc 147 then (cl_L_areRooms_1) else (cl_L_areRooms_2))
def ca_L_areRooms : List (Nat × Ent) := cl_L_areRooms_0 ++ cl_L_areRooms_1 ++ cl_L_areRooms_2
def cl_L_isFit_0 : List (Nat × Ent) := [(0, e1 (.aload_n 0) 1), (1, er 7 (.invokestatic 192) 4 191 0 0), (4, er 2 (.ifCond .eq 35) 7 39 0 0), (7, e1 (.aload_n 0) 8), (8, ev 0 (.bipush 6) 10 (.int 6)), (10, er 7 (.invokevirtual 131) 13 131 0 0), (13, er 2 (.ifCond .ne 15) 16 28 0 0), (16, e1 (.aload_n 0) 17), (17, er 7 (.invokestatic 158) 20 182 0 0), (20, ev 0 (.ldc 10) 22 (.int (-100000000))), (22, er 2 (.if_icmp .ne 17) 25 39 0 0), (25, er 2 (.goto 10) 28 35 0 0), (28, e1 (.aload_n 0) 29), (29, er 7 (.invokestatic 196) 32 192 0 0), (32, er 2 (.ifCond .eq 7) 35 39 0 0), (35, ev 0 (.iconst 1) 36 (.int 1)), (36, er 2 (.goto 4) 39 40 0 0), (39, ev 0 (.iconst 0) 40 (.int 0)), (40, e1 (.istore_n 1) 41), (41, ev 0 (.iconst 0) 42 (.int 0)), (42, e1 (.istore_n 2) 43), (43, e1 (.iload_n 1) 44), (44, er 2 (.ifCond .eq 21) 47 65 0 0), (47, e1 (.iload_n 2) 48), (48, ev 0 (.bipush 8) 50 (.int 8)), (50, er 2 (.if_icmp .ge 15) 53 65 0 0), (53, e1 (.aload_n 0) 54), (54, e1 (.iload_n 2) 55), (55, er 7 (.invokestatic 199) 58 193 0 0), (58, e1 (.istore_n 1) 59), (59, ev 1 (.iinc 2 1) 62 (.int 1)), (62, er 2 (.goto (-19)) 65 43 0 0), (65, e1 (.iload_n 1) 66), (66, ev 9 .ireturn 67 .null)]
def cd_L_isFit (pc : Nat) : List (Nat × Ent) := cl_L_isFit_0
def ca_L_isFit : List (Nat × Ent) := cl_L_isFit_0
def cl_L_isAhead_0 : List (Nat × Ent) := [(0, e1 (.aload_n 0) 1), (1, er 7 (.invokestatic 203) 4 190 0 0), (4, e1 (.lstore_n 2) 5), (5, e1 (.aload_n 0) 6), (6, e1 (.iload_n 1) 7), (7, er 7 (.invokevirtual 206) 10 127 0 0), (10, e1 (.istore 4) 12), (12, e1 (.aload_n 0) 13), (13, ev 0 (.iconst 4) 14 (.int 4)), (14, er 7 (.invokevirtual 131) 17 131 0 0), (17, e1 (.istore 5) 19), (19, ev 0 (.bipush 40) 21 (.int 40)), (21, ev 7 (.newarray .int) 23 .null), (23, e1 (.astore 6) 25), (25, ev 0 (.iconst 0) 26 (.int 0)), (26, e1 (.istore 7) 28), (28, e1 (.iload 7) 30), (30, e1 (.iload 5) 32), (32, er 2 (.if_icmp .ge 21) 35 53 0 0), (35, e1 (.aload 6) 37), (37, e1 (.iload 7) 39), (39, e1 (.aload_n 0) 40), (40, e1 (.iload 7) 42), (42, e1 (.iload_n 1) 43), (43, er 7 (.invokevirtual 137) 46 125 0 0), (46, ev 3 .iastore 47 .null), (47, ev 1 (.iinc 7 1) 50 (.int 1)), (50, er 2 (.goto (-22)) 53 28 0 0), (53, e1 (.aload_n 0) 54), (54, er 7 (.invokestatic 203) 57 190 0 0), (57, e1 (.lload_n 2) 58), (58, e0 .lcmp 59), (59, er 2 (.ifCond .ne 26) 62 85 0 0), (62, e1 (.aload_n 0) 63), (63, e1 (.iload_n 1) 64), (64, er 7 (.invokestatic 102) 67 179 0 0), (67, er 2 (.ifCond .lt 18) 70 85 0 0), (70, e1 (.aload_n 0) 71), (71, ev 0 (.bipush 6) 73 (.int 6)), (73, er 7 (.invokevirtual 131) 76 131 0 0)]
def cl_L_isAhead_1 : List (Nat × Ent) := [(76, e1 (.iload 4) 78), (78, er 2 (.if_icmp .ne 7) 81 85 0 0), (81, ev 0 (.iconst 1) 82 (.int 1)), (82, er 2 (.goto 4) 85 86 0 0), (85, ev 0 (.iconst 0) 86 (.int 0)), (86, e1 (.istore 7) 88), (88, ev 0 (.iconst 0) 89 (.int 0)), (89, e1 (.istore 8) 91), (91, e1 (.iload 7) 93), (93, er 2 (.ifCond .eq 38) 96 131 0 0), (96, e1 (.iload 8) 98), (98, e1 (.iload 5) 100), (100, er 2 (.if_icmp .ge 31) 103 131 0 0), (103, e1 (.aload_n 0) 104), (104, e1 (.iload 8) 106), (106, ev 0 (.iconst 0) 107 (.int 0)), (107, er 7 (.invokevirtual 137) 110 125 0 0), (110, e1 (.aload 6) 112), (112, e1 (.iload 8) 114), (114, ev 3 .iaload 115 .null), (115, er 2 (.if_icmp .ne 7) 118 122 0 0), (118, ev 0 (.iconst 1) 119 (.int 1)), (119, er 2 (.goto 4) 122 123 0 0), (122, ev 0 (.iconst 0) 123 (.int 0)), (123, e1 (.istore 7) 125), (125, ev 1 (.iinc 8 1) 128 (.int 1)), (128, er 2 (.goto (-37)) 131 91 0 0), (131, e1 (.iload 7) 133), (133, er 2 (.ifCond .eq 30) 136 163 0 0), (136, e1 (.aload_n 0) 137), (137, er 7 (.invokestatic 209) 140 194 0 0), (140, er 2 (.ifCond .eq 23) 143 163 0 0), (143, e1 (.aload_n 0) 144), (144, er 7 (.invokestatic 120) 147 184 0 0), (147, er 2 (.ifCond .lt 16) 150 163 0 0), (150, e1 (.aload_n 0) 151), (151, er 7 (.invokestatic 203) 154 190 0 0), (154, e1 (.lload_n 2) 155), (155, e0 .lcmp 156), (156, er 2 (.ifCond .ne 7) 159 163 0 0)]
def cl_L_isAhead_2 : List (Nat × Ent) := [(159, ev 0 (.iconst 1) 160 (.int 1)), (160, er 2 (.goto 4) 163 164 0 0), (163, ev 0 (.iconst 0) 164 (.int 0)), (164, ev 9 .ireturn 165 .null)]
def cd_L_isAhead (pc : Nat) : List (Nat × Ent) := bif Nat.blt pc 76 then (cl_L_isAhead_0) else (bif Nat.blt pc 159 then (cl_L_isAhead_1) else (cl_L_isAhead_2))
def ca_L_isAhead : List (Nat × Ent) := cl_L_isAhead_0 ++ cl_L_isAhead_1 ++ cl_L_isAhead_2
def cl_L_isGone_0 : List (Nat × Ent) := [(0, e1 (.aload_n 0) 1), (1, er 7 (.invokestatic 212) 4 180 0 0), (4, e1 (.istore_n 1) 5), (5, e1 (.aload_n 0) 6), (6, ev 0 (.bipush 6) 8 (.int 6)), (8, er 7 (.invokevirtual 131) 11 131 0 0), (11, e1 (.istore_n 2) 12), (12, e1 (.iload_n 1) 13), (13, ev 0 (.ldc 10) 15 (.int (-100000000))), (15, er 2 (.if_icmp .ne 19) 18 34 0 0), (18, e1 (.aload_n 0) 19), (19, ev 0 (.bipush 48) 21 (.int 48)), (21, er 7 (.invokevirtual 206) 24 127 0 0), (24, e1 (.iload_n 2) 25), (25, er 2 (.if_icmp .ne 7) 28 32 0 0), (28, ev 0 (.iconst 1) 29 (.int 1)), (29, er 2 (.goto 4) 32 33 0 0), (32, ev 0 (.iconst 0) 33 (.int 0)), (33, ev 9 .ireturn 34 .null), (34, e1 (.iload_n 1) 35), (35, ev 0 (.bipush 48) 37 (.int 48)), (37, er 2 (.if_icmp .le 21) 40 58 0 0), (40, e1 (.aload_n 0) 41), (41, ev 0 (.bipush 48) 43 (.int 48)), (43, er 7 (.invokevirtual 206) 46 127 0 0), (46, e1 (.iload_n 2) 47), (47, er 2 (.if_icmp .ne 7) 50 54 0 0), (50, ev 0 (.iconst 1) 51 (.int 1)), (51, er 2 (.goto 32) 54 83 0 0), (54, ev 0 (.iconst 0) 55 (.int 0)), (55, er 2 (.goto 28) 58 83 0 0), (58, e1 (.aload_n 0) 59), (59, e1 (.iload_n 1) 60), (60, er 7 (.invokevirtual 206) 63 127 0 0), (63, e1 (.iload_n 2) 64), (64, er 2 (.if_icmp .ge 18) 67 82 0 0), (67, e1 (.aload_n 0) 68), (68, e1 (.iload_n 1) 69), (69, ev 0 (.iconst 1) 70 (.int 1)), (70, e0 .isub 71)]
def cl_L_isGone_1 : List (Nat × Ent) := [(71, er 7 (.invokevirtual 206) 74 127 0 0), (74, e1 (.iload_n 2) 75), (75, er 2 (.if_icmp .ne 7) 78 82 0 0), (78, ev 0 (.iconst 1) 79 (.int 1)), (79, er 2 (.goto 4) 82 83 0 0), (82, ev 0 (.iconst 0) 83 (.int 0)), (83, ev 9 .ireturn 84 .null)]
def cd_L_isGone (pc : Nat) : List (Nat × Ent) := bif Nat.blt pc 71 then (cl_L_isGone_0) else (cl_L_isGone_1)
def ca_L_isGone : List (Nat × Ent) := cl_L_isGone_0 ++ cl_L_isGone_1
def cl_L_isSafe_0 : List (Nat × Ent) := [(0, e1 (.aload_n 0) 1), (1, er 7 (.invokestatic 214) 4 181 0 0), (4, e1 (.istore_n 1) 5), (5, ev 0 (.bipush 12) 7 (.int 12)), (7, e1 (.aload_n 0) 8), (8, ev 0 (.iconst 0) 9 (.int 0)), (9, er 7 (.invokevirtual 131) 12 131 0 0), (12, ev 0 (.bipush 24) 14 (.int 24)), (14, e0 .irem 15), (15, e0 .isub 16), (16, ev 0 (.bipush 24) 18 (.int 24)), (18, e0 .iadd 19), (19, ev 0 (.bipush 24) 21 (.int 24)), (21, e0 .irem 22), (22, ev 0 (.iconst 1) 23 (.int 1)), (23, e0 .iadd 24), (24, e1 (.istore_n 2) 25), (25, e1 (.aload_n 0) 26), (26, ev 0 (.bipush 6) 28 (.int 6)), (28, er 7 (.invokevirtual 131) 31 131 0 0), (31, e1 (.istore_n 3) 32), (32, e1 (.aload_n 0) 33), (33, er 7 (.invokestatic 203) 36 190 0 0), (36, e1 (.lstore 4) 38), (38, e1 (.iload_n 1) 39), (39, ev 0 (.ldc 10) 41 (.int (-100000000))), (41, er 2 (.if_icmp .eq 27) 44 68 0 0), (44, e1 (.aload_n 0) 45), (45, e1 (.iload_n 1) 46), (46, er 7 (.invokestatic 94) 49 175 0 0), (49, er 2 (.ifCond .lt 23) 52 72 0 0), (52, e1 (.aload_n 0) 53), (53, e1 (.iload_n 2) 54), (54, er 7 (.invokevirtual 206) 57 127 0 0), (57, e1 (.iload_n 3) 58), (58, er 2 (.if_icmp .ne 14) 61 72 0 0), (61, e1 (.aload_n 0) 62), (62, er 7 (.invokestatic 120) 65 184 0 0), (65, er 2 (.ifCond .lt 7) 68 72 0 0), (68, ev 0 (.iconst 1) 69 (.int 1))]
def cl_L_isSafe_1 : List (Nat × Ent) := [(69, er 2 (.goto 4) 72 73 0 0), (72, ev 0 (.iconst 0) 73 (.int 0)), (73, e1 (.istore 6) 75), (75, e1 (.iload_n 1) 76), (76, ev 0 (.ldc 10) 78 (.int (-100000000))), (78, er 2 (.if_icmp .ne 7) 81 85 0 0), (81, ev 0 (.iconst 0) 82 (.int 0)), (82, er 2 (.goto 6) 85 88 0 0), (85, e1 (.iload_n 1) 86), (86, ev 0 (.iconst 1) 87 (.int 1)), (87, e0 .iadd 88), (88, e1 (.istore 7) 90), (90, e1 (.iload 6) 92), (92, er 2 (.ifCond .eq 39) 95 131 0 0), (95, e1 (.iload 7) 97), (97, ev 0 (.bipush 50) 99 (.int 50)), (99, er 2 (.if_icmp .gt 28) 102 127 0 0), (102, e1 (.aload_n 0) 103), (103, e1 (.iload 7) 105), (105, er 7 (.invokestatic 94) 108 175 0 0), (108, er 2 (.ifCond .lt 23) 111 131 0 0), (111, e1 (.aload_n 0) 112), (112, e1 (.iload_n 2) 113), (113, er 7 (.invokevirtual 206) 116 127 0 0), (116, e1 (.iload_n 3) 117), (117, er 2 (.if_icmp .ge 14) 120 131 0 0), (120, e1 (.aload_n 0) 121), (121, er 7 (.invokestatic 120) 124 184 0 0), (124, er 2 (.ifCond .lt 7) 127 131 0 0), (127, ev 0 (.iconst 1) 128 (.int 1)), (128, er 2 (.goto 4) 131 132 0 0), (131, ev 0 (.iconst 0) 132 (.int 0)), (132, e1 (.istore 6) 134), (134, e1 (.iload 6) 136), (136, er 2 (.ifCond .eq 17) 139 153 0 0), (139, e1 (.aload_n 0) 140), (140, er 7 (.invokestatic 203) 143 190 0 0), (143, e1 (.lload 4) 145), (145, e0 .lcmp 146), (146, er 2 (.ifCond .ne 7) 149 153 0 0)]
def cl_L_isSafe_2 : List (Nat × Ent) := [(149, ev 0 (.iconst 1) 150 (.int 1)), (150, er 2 (.goto 4) 153 154 0 0), (153, ev 0 (.iconst 0) 154 (.int 0)), (154, ev 9 .ireturn 155 .null)]
def cd_L_isSafe (pc : Nat) : List (Nat × Ent) := bif Nat.blt pc 69 then (cl_L_isSafe_0) else (bif Nat.blt pc 149 then (cl_L_isSafe_1) else (cl_L_isSafe_2))
def ca_L_isSafe : List (Nat × Ent) := cl_L_isSafe_0 ++ cl_L_isSafe_1 ++ cl_L_isSafe_2
def cl_L_law_0 : List (Nat × Ent) := [(0, ev 7 (.new 12) 3 .null), (3, e0 .dup 4), (4, ev 7 (.invokespecial 216) 7 .null), (7, e1 (.astore_n 1) 8), (8, e1 (.aload_n 1) 9), (9, ev 0 (.iconst 0) 10 (.int 0)), (10, ev 0 (.iconst 4) 11 (.int 4)), (11, ev 0 (.iconst 0) 12 (.int 0)), (12, er 7 (.invokestatic 97) 15 176 0 0), (15, e0 .pop 16), (16, e1 (.aload_n 1) 17), (17, ev 0 (.iconst 1) 18 (.int 1)), (18, ev 0 (.iconst 2) 19 (.int 2)), (19, ev 0 (.iconst 1) 20 (.int 1)), (20, er 7 (.invokestatic 97) 23 176 0 0), (23, e0 .pop 24), (24, e1 (.aload_n 1) 25), (25, ev 0 (.iconst 0) 26 (.int 0)), (26, ev 0 (.iconst 2) 27 (.int 2)), (27, ev 0 (.iconst 0) 28 (.int 0)), (28, er 7 (.invokestatic 125) 31 177 0 0), (31, e0 .pop 32), (32, e1 (.aload_n 1) 33), (33, ev 0 (.iconst 1) 34 (.int 1)), (34, ev 0 (.iconst 3) 35 (.int 3)), (35, ev 0 (.iconst 1) 36 (.int 1)), (36, er 7 (.invokestatic 125) 39 177 0 0), (39, e0 .pop 40), (40, e1 (.aload_n 0) 41), (41, ev 3 .arraylength 42 .null), (42, ev 0 (.bipush 40) 44 (.int 40)), (44, er 2 (.if_icmp .ge 8) 47 52 0 0), (47, e1 (.aload_n 0) 48), (48, ev 3 .arraylength 49 .null), (49, er 2 (.goto 5) 52 54 0 0), (52, ev 0 (.bipush 40) 54 (.int 40)), (54, e1 (.istore_n 2) 55), (55, ev 0 (.iconst 0) 56 (.int 0)), (56, e1 (.istore_n 3) 57), (57, e1 (.iload_n 3) 58)]
def cl_L_law_1 : List (Nat × Ent) := [(58, e1 (.iload_n 2) 59), (59, er 2 (.if_icmp .ge 41) 62 100 0 0), (62, e1 (.aload_n 1) 63), (63, er 7 (.invokestatic 203) 66 190 0 0), (66, e1 (.lstore 4) 68), (68, e1 (.aload_n 1) 69), (69, e1 (.aload_n 0) 70), (70, e1 (.iload_n 3) 71), (71, er 7 (.invokestatic 217) 74 173 0 0), (74, er 7 (.invokestatic 221) 77 189 0 0), (77, ev 0 (.ldc 10) 79 (.int (-100000000))), (79, er 2 (.if_icmp .ne 15) 82 94 0 0), (82, e1 (.aload_n 1) 83), (83, er 7 (.invokestatic 203) 86 190 0 0), (86, e1 (.lload 4) 88), (88, e0 .lcmp 89), (89, er 2 (.ifCond .eq 5) 92 94 0 0), (92, ev 0 (.iconst 0) 93 (.int 0)), (93, ev 9 .ireturn 94 .null), (94, ev 1 (.iinc 3 1) 97 (.int 1)), (97, er 2 (.goto (-40)) 100 57 0 0), (100, e1 (.aload_n 1) 101), (101, er 7 (.invokestatic 209) 104 194 0 0), (104, e1 (.istore_n 3) 105), (105, e1 (.aload_n 1) 106), (106, er 7 (.invokestatic 112) 109 183 0 0), (109, e0 .pop 110), (110, e1 (.aload_n 1) 111), (111, er 7 (.invokestatic 203) 114 190 0 0), (114, e1 (.lstore 4) 116), (116, e1 (.aload_n 1) 117), (117, er 4 (.invokevirtual 115) 120 135 0 0), (120, e1 (.istore 6) 122), (122, e1 (.iload_n 3) 123), (123, er 2 (.ifCond .eq 47) 126 170 0 0), (126, e1 (.aload_n 1) 127), (127, er 7 (.invokestatic 224) 130 196 0 0), (130, er 2 (.ifCond .eq 40) 133 170 0 0), (133, e1 (.aload_n 1) 134), (134, er 7 (.invokestatic 227) 137 197 0 0)]
def cl_L_law_2 : List (Nat × Ent) := [(137, er 2 (.ifCond .eq 33) 140 170 0 0), (140, e1 (.aload_n 1) 141), (141, ev 0 (.iconst 1) 142 (.int 1)), (142, er 7 (.invokestatic 230) 145 195 0 0), (145, er 2 (.ifCond .eq 25) 148 170 0 0), (148, e1 (.aload_n 1) 149), (149, ev 0 (.bipush 13) 151 (.int 13)), (151, er 7 (.invokestatic 230) 154 195 0 0), (154, er 2 (.ifCond .eq 16) 157 170 0 0), (157, e1 (.aload_n 1) 158), (158, ev 0 (.bipush 48) 160 (.int 48)), (160, er 7 (.invokestatic 230) 163 195 0 0), (163, er 2 (.ifCond .eq 7) 166 170 0 0), (166, ev 0 (.iconst 1) 167 (.int 1)), (167, er 2 (.goto 4) 170 171 0 0), (170, ev 0 (.iconst 0) 171 (.int 0)), (171, e1 (.istore_n 3) 172), (172, ev 0 (.iconst 0) 173 (.int 0)), (173, e1 (.istore 7) 175), (175, e1 (.iload_n 3) 176), (176, er 2 (.ifCond .eq 81) 179 257 0 0), (179, e1 (.iload 7) 181), (181, ev 7 (.getstatic 104) 184 .null), (184, ev 3 .arraylength 185 .null), (185, er 2 (.if_icmp .ge 72) 188 257 0 0), (188, e1 (.aload_n 1) 189), (189, ev 7 (.getstatic 104) 192 .null), (192, e1 (.iload 7) 194), (194, ev 3 .aaload 195 .null), (195, er 7 (.invokestatic 108) 198 188 0 0), (198, er 7 (.invokestatic 112) 201 183 0 0), (201, e1 (.istore 8) 203), (203, e1 (.iload 8) 205), (205, ev 0 (.ldc 10) 207 (.int (-100000000))), (207, er 2 (.if_icmp .ne 14) 210 221 0 0), (210, e1 (.aload_n 1) 211), (211, er 4 (.invokevirtual 233) 214 130 0 0), (214, ev 0 (.iconst (-1)) 215 (.int (-1))), (215, er 2 (.if_icmp .ne 34) 218 249 0 0), (218, er 2 (.goto 17) 221 235 0 0)]
def cl_L_law_3 : List (Nat × Ent) := [(221, e1 (.aload_n 1) 222), (222, er 7 (.invokestatic 209) 225 194 0 0), (225, er 2 (.ifCond .eq 24) 228 249 0 0), (228, e1 (.aload_n 1) 229), (229, er 7 (.invokestatic 120) 232 184 0 0), (232, er 2 (.ifCond .lt 17) 235 249 0 0), (235, e1 (.aload_n 1) 236), (236, er 7 (.invokestatic 203) 239 190 0 0), (239, e1 (.lload 4) 241), (241, e0 .lcmp 242), (242, er 2 (.ifCond .ne 7) 245 249 0 0), (245, ev 0 (.iconst 1) 246 (.int 1)), (246, er 2 (.goto 4) 249 250 0 0), (249, ev 0 (.iconst 0) 250 (.int 0)), (250, e1 (.istore_n 3) 251), (251, ev 1 (.iinc 7 1) 254 (.int 1)), (254, er 2 (.goto (-79)) 257 175 0 0), (257, e1 (.aload_n 1) 258), (258, ev 0 (.bipush 20) 260 (.int 20)), (260, er 7 (.invokestatic 94) 263 175 0 0), (263, e0 .pop 264), (264, ev 0 (.iconst 0) 265 (.int 0)), (265, e1 (.istore 7) 267), (267, e1 (.iload_n 3) 268), (268, er 2 (.ifCond .eq 37) 271 305 0 0), (271, e1 (.iload 7) 273), (273, ev 0 (.iconst 3) 274 (.int 3)), (274, er 2 (.if_icmp .ge 31) 277 305 0 0), (277, e1 (.aload_n 1) 278), (278, ev 0 (.bipush 9) 280 (.int 9)), (280, er 7 (.invokestatic 102) 283 179 0 0), (283, er 2 (.ifCond .lt 14) 286 297 0 0), (286, e1 (.aload_n 1) 287), (287, er 7 (.invokestatic 209) 290 194 0 0), (290, er 2 (.ifCond .eq 7) 293 297 0 0), (293, ev 0 (.iconst 1) 294 (.int 1)), (294, er 2 (.goto 4) 297 298 0 0), (297, ev 0 (.iconst 0) 298 (.int 0)), (298, e1 (.istore_n 3) 299), (299, ev 1 (.iinc 7 1) 302 (.int 1))]
def cl_L_law_4 : List (Nat × Ent) := [(302, er 2 (.goto (-35)) 305 267 0 0), (305, e1 (.iload_n 3) 306), (306, er 2 (.ifCond .eq 35) 309 341 0 0), (309, e1 (.aload_n 1) 310), (310, er 7 (.invokestatic 118) 313 185 0 0), (313, e1 (.iload 6) 315), (315, er 2 (.if_icmp .ne 26) 318 341 0 0), (318, e1 (.aload_n 1) 319), (319, er 7 (.invokestatic 203) 322 190 0 0), (322, e1 (.lload 4) 324), (324, e0 .lcmp 325), (325, er 2 (.ifCond .ne 16) 328 341 0 0), (328, e1 (.aload_n 1) 329), (329, er 7 (.invokestatic 120) 332 184 0 0), (332, ev 0 (.ldc 10) 334 (.int (-100000000))), (334, er 2 (.if_icmp .ne 7) 337 341 0 0), (337, ev 0 (.iconst 1) 338 (.int 1)), (338, er 2 (.goto 4) 341 342 0 0), (341, ev 0 (.iconst 0) 342 (.int 0)), (342, ev 9 .ireturn 343 .null)]
def cd_L_law (pc : Nat) : List (Nat × Ent) := bif Nat.blt pc 137 then (bif Nat.blt pc 58 then (cl_L_law_0) else (cl_L_law_1)) else (bif Nat.blt pc 221 then (cl_L_law_2) else (bif Nat.blt pc 302 then (cl_L_law_3) else (cl_L_law_4)))
def ca_L_law : List (Nat × Ent) := cl_L_law_0 ++ cl_L_law_1 ++ cl_L_law_2 ++ cl_L_law_3 ++ cl_L_law_4
def cdS (mi pc : Nat) : List (Nat × Ent) := bif Nat.blt mi 99 then (bif Nat.blt mi 49 then (bif Nat.blt mi 24 then (bif Nat.blt mi 12 then (bif Nat.blt mi 6 then (bif Nat.blt mi 3 then (bif Nat.blt mi 1 then (bif Nat.beq mi 0 then cd_X0_init pc else []) else (bif Nat.blt mi 2 then (bif Nat.beq mi 1 then cd_X0_hoursToFirstGone pc else []) else (bif Nat.beq mi 2 then cd_X0_bitsOfMass pc else []))) else (bif Nat.blt mi 4 then (bif Nat.beq mi 3 then cd_X0_blocksOnWall pc else []) else (bif Nat.blt mi 5 then (bif Nat.beq mi 4 then cd_X0_isSafeFor pc else []) else (bif Nat.beq mi 5 then cd_X1_isAllWell pc else [])))) else (bif Nat.blt mi 9 then (bif Nat.blt mi 7 then (bif Nat.beq mi 6 then cd_X1_isSomewhere pc else []) else (bif Nat.blt mi 8 then (bif Nat.beq mi 7 then cd_X1_isFirm pc else []) else (bif Nat.beq mi 8 then cd_X1_countIn pc else []))) else (bif Nat.blt mi 10 then (bif Nat.beq mi 9 then cd_X2_ofFloat pc else []) else (bif Nat.blt mi 11 then (bif Nat.beq mi 10 then cd_X2_ofDouble pc else []) else (bif Nat.beq mi 11 then cd_X3_init pc else []))))) else (bif Nat.blt mi 18 then (bif Nat.blt mi 15 then (bif Nat.blt mi 13 then (bif Nat.beq mi 12 then cd_X3_number pc else []) else (bif Nat.blt mi 14 then (bif Nat.beq mi 13 then cd_X3_remember pc else []) else (bif Nat.beq mi 14 then cd_X3_goBack pc else []))) else (bif Nat.blt mi 16 then (bif Nat.beq mi 15 then cd_X3_forget pc else []) else (bif Nat.blt mi 17 then (bif Nat.beq mi 16 then cd_X4_init pc else []) else (bif Nat.beq mi 17 then cd_X4_letGoBy pc else [])))) else (bif Nat.blt mi 21 then (bif Nat.blt mi 19 then (bif Nat.beq mi 18 then cd_X4_changeIce pc else []) else (bif Nat.blt mi 20 then (bif Nat.beq mi 19 then cd_X4_changeJoints pc else []) else (bif Nat.beq mi 20 then cd_X4_melt pc else []))) else (bif Nat.blt mi 22 then (bif Nat.beq mi 21 then cd_X4_warm pc else []) else (bif Nat.blt mi 23 then (bif Nat.beq mi 22 then cd_X4_removeMelted pc else []) else (bif Nat.beq mi 23 then cd_X4_dropUnsupported pc else [])))))) else (bif Nat.blt mi 36 then (bif Nat.blt mi 30 then (bif Nat.blt mi 27 then (bif Nat.blt mi 25 then (bif Nat.beq mi 24 then cd_X4_breakOverloaded pc else []) else (bif Nat.blt mi 26 then (bif Nat.beq mi 25 then cd_X5_init pc else []) else (bif Nat.beq mi 26 then cd_X5_loadOf pc else []))) else (bif Nat.blt mi 28 then (bif Nat.beq mi 27 then cd_X5_borneBy pc else []) else (bif Nat.blt mi 29 then (bif Nat.beq mi 28 then cd_X5_sumUp pc else []) else (bif Nat.beq mi 29 then cd_X5_handDown pc else [])))) else (bif Nat.blt mi 33 then (bif Nat.blt mi 31 then (bif Nat.beq mi 30 then cd_X5_loadFromAbove pc else []) else (bif Nat.blt mi 32 then (bif Nat.beq mi 31 then cd_X5_sumFromAbove pc else []) else (bif Nat.beq mi 32 then cd_X5_firstOverloaded pc else []))) else (bif Nat.blt mi 34 then (bif Nat.beq mi 33 then cd_X5_mostBurdened pc else []) else (bif Nat.blt mi 35 then (bif Nat.beq mi 34 then cd_X6_init pc else []) else (bif Nat.beq mi 35 then cd_X6_hasSpace pc else []))))) else (bif Nat.blt mi 42 then (bif Nat.blt mi 39 then (bif Nat.blt mi 37 then (bif Nat.beq mi 36 then cd_X6_add pc else []) else (bif Nat.blt mi 38 then (bif Nat.beq mi 37 then cd_X6_empty pc else []) else (bif Nat.beq mi 38 then cd_X6_inputLength pc else []))) else (bif Nat.blt mi 40 then (bif Nat.beq mi 39 then cd_X6_errorOffset pc else []) else (bif Nat.blt mi 41 then (bif Nat.beq mi 40 then cd_X6_number pc else []) else (bif Nat.beq mi 41 then cd_X6_signOf pc else [])))) else (bif Nat.blt mi 45 then (bif Nat.blt mi 43 then (bif Nat.beq mi 42 then cd_X6_firstOf pc else []) else (bif Nat.blt mi 44 then (bif Nat.beq mi 43 then cd_X6_secondOf pc else []) else (bif Nat.beq mi 44 then cd_X6_thirdOf pc else []))) else (bif Nat.blt mi 47 then (bif Nat.blt mi 46 then (bif Nat.beq mi 45 then cd_X6_understand pc else []) else (bif Nat.beq mi 46 then cd_X6_readOrder pc else [])) else (bif Nat.blt mi 48 then (bif Nat.beq mi 47 then cd_X6_readSawing pc else []) else (bif Nat.beq mi 48 then cd_X6_readLaying pc else []))))))) else (bif Nat.blt mi 74 then (bif Nat.blt mi 61 then (bif Nat.blt mi 55 then (bif Nat.blt mi 52 then (bif Nat.blt mi 50 then (bif Nat.beq mi 49 then cd_X6_readNumber pc else []) else (bif Nat.blt mi 51 then (bif Nat.beq mi 50 then cd_X6_readTemperature pc else []) else (bif Nat.beq mi 51 then cd_X6_note pc else []))) else (bif Nat.blt mi 53 then (bif Nat.beq mi 52 then cd_X6_goPast pc else []) else (bif Nat.blt mi 54 then (bif Nat.beq mi 53 then cd_X6_digits pc else []) else (bif Nat.beq mi 54 then cd_X7_init pc else [])))) else (bif Nat.blt mi 58 then (bif Nat.blt mi 56 then (bif Nat.beq mi 55 then cd_X7_heightOf pc else []) else (bif Nat.blt mi 57 then (bif Nat.beq mi 56 then cd_X7_measure pc else []) else (bif Nat.beq mi 57 then cd_X7_isInShadow pc else []))) else (bif Nat.blt mi 59 then (bif Nat.beq mi 58 then cd_X7_isShadedFromLeft pc else []) else (bif Nat.blt mi 60 then (bif Nat.beq mi 59 then cd_X7_isShadedFromRight pc else []) else (bif Nat.beq mi 60 then cd_X7_roomNumber pc else []))))) else (bif Nat.blt mi 67 then (bif Nat.blt mi 64 then (bif Nat.blt mi 62 then (bif Nat.beq mi 61 then cd_X8_init pc else []) else (bif Nat.blt mi 63 then (bif Nat.beq mi 62 then cd_X8_fill pc else []) else (bif Nat.beq mi 63 then cd_X8_copyRow pc else []))) else (bif Nat.blt mi 65 then (bif Nat.beq mi 64 then cd_X8_copyFrom pc else []) else (bif Nat.blt mi 66 then (bif Nat.beq mi 65 then cd_X8_isColumn pc else []) else (bif Nat.beq mi 66 then cd_X8_isCourse pc else [])))) else (bif Nat.blt mi 70 then (bif Nat.blt mi 68 then (bif Nat.beq mi 67 then cd_X8_isHour pc else []) else (bif Nat.blt mi 69 then (bif Nat.beq mi 68 then cd_X8_isRack pc else []) else (bif Nat.beq mi 69 then cd_X8_isSawn pc else []))) else (bif Nat.blt mi 72 then (bif Nat.blt mi 71 then (bif Nat.beq mi 70 then cd_X8_isOnWall pc else []) else (bif Nat.beq mi 71 then cd_X8_isInRack pc else [])) else (bif Nat.blt mi 73 then (bif Nat.beq mi 72 then cd_X8_isGone pc else []) else (bif Nat.beq mi 73 then cd_X8_massOf pc else [])))))) else (bif Nat.blt mi 86 then (bif Nat.blt mi 80 then (bif Nat.blt mi 77 then (bif Nat.blt mi 75 then (bif Nat.beq mi 74 then cd_X8_hourOfDay pc else []) else (bif Nat.blt mi 76 then (bif Nat.beq mi 75 then cd_X8_temperatureAt pc else []) else (bif Nat.beq mi 76 then cd_X8_blockAt pc else []))) else (bif Nat.blt mi 78 then (bif Nat.beq mi 77 then cd_X8_blockInRack pc else []) else (bif Nat.blt mi 79 then (bif Nat.beq mi 78 then cd_X8_freePlace pc else []) else (bif Nat.beq mi 79 then cd_X8_supportedColumns pc else [])))) else (bif Nat.blt mi 83 then (bif Nat.blt mi 81 then (bif Nat.beq mi 80 then cd_X8_supportOf pc else []) else (bif Nat.blt mi 82 then (bif Nat.beq mi 81 then cd_X8_isSupported pc else []) else (bif Nat.beq mi 82 then cd_X8_sharedColumns pc else []))) else (bif Nat.blt mi 84 then (bif Nat.beq mi 83 then cd_X8_addBlock pc else []) else (bif Nat.blt mi 85 then (bif Nat.beq mi 84 then cd_X8_putOnWall pc else []) else (bif Nat.beq mi 85 then cd_X8_remove pc else []))))) else (bif Nat.blt mi 92 then (bif Nat.blt mi 89 then (bif Nat.blt mi 87 then (bif Nat.beq mi 86 then cd_X8_leaveRack pc else []) else (bif Nat.blt mi 88 then (bif Nat.beq mi 87 then cd_X8_markColumns pc else []) else (bif Nat.beq mi 88 then cd_X8_numberOf pc else []))) else (bif Nat.blt mi 90 then (bif Nat.beq mi 89 then cd_X8_signOf pc else []) else (bif Nat.blt mi 91 then (bif Nat.beq mi 90 then cd_X8_accountOf pc else []) else (bif Nat.beq mi 91 then cd_X8_countOnWall pc else [])))) else (bif Nat.blt mi 95 then (bif Nat.blt mi 93 then (bif Nat.beq mi 92 then cd_X8_countStates pc else []) else (bif Nat.blt mi 94 then (bif Nat.beq mi 93 then cd_X8_countCauses pc else []) else (bif Nat.beq mi 94 then cd_X8_countFilledColumns pc else []))) else (bif Nat.blt mi 97 then (bif Nat.blt mi 96 then (bif Nat.beq mi 95 then cd_X8_sumOfMasses pc else []) else (bif Nat.beq mi 96 then cd_X9_init pc else [])) else (bif Nat.blt mi 98 then (bif Nat.beq mi 97 then cd_X9_faultOf pc else []) else (bif Nat.beq mi 98 then cd_X9_perform pc else [])))))))) else (bif Nat.blt mi 149 then (bif Nat.blt mi 124 then (bif Nat.blt mi 111 then (bif Nat.blt mi 105 then (bif Nat.blt mi 102 then (bif Nat.blt mi 100 then (bif Nat.beq mi 99 then cd_X9_refuse pc else []) else (bif Nat.blt mi 101 then (bif Nat.beq mi 100 then cd_X9_faultOfTemperature pc else []) else (bif Nat.beq mi 101 then cd_X9_setTemperature pc else []))) else (bif Nat.blt mi 103 then (bif Nat.beq mi 102 then cd_X9_setVisitors pc else []) else (bif Nat.blt mi 104 then (bif Nat.beq mi 103 then cd_X9_faultOfSawing pc else []) else (bif Nat.beq mi 104 then cd_X9_faultOfLaying pc else [])))) else (bif Nat.blt mi 108 then (bif Nat.blt mi 106 then (bif Nat.beq mi 105 then cd_X9_faultOfTaking pc else []) else (bif Nat.blt mi 107 then (bif Nat.beq mi 106 then cd_X10_init pc else []) else (bif Nat.beq mi 107 then cd_X10_heat pc else []))) else (bif Nat.blt mi 109 then (bif Nat.beq mi 108 then cd_X10_visit pc else []) else (bif Nat.blt mi 110 then (bif Nat.beq mi 109 then cd_X10_saw pc else []) else (bif Nat.beq mi 110 then cd_X10_lay pc else []))))) else (bif Nat.blt mi 117 then (bif Nat.blt mi 114 then (bif Nat.blt mi 112 then (bif Nat.beq mi 111 then cd_X10_take pc else []) else (bif Nat.blt mi 113 then (bif Nat.beq mi 112 then cd_X10_pass pc else []) else (bif Nat.beq mi 113 then cd_X10_blockOf pc else []))) else (bif Nat.blt mi 115 then (bif Nat.beq mi 114 then cd_X10_mass pc else []) else (bif Nat.blt mi 116 then (bif Nat.beq mi 115 then cd_X10_load pc else []) else (bif Nat.beq mi 116 then cd_X10_loadAgain pc else [])))) else (bif Nat.blt mi 120 then (bif Nat.blt mi 118 then (bif Nat.beq mi 117 then cd_X10_at pc else []) else (bif Nat.blt mi 119 then (bif Nat.beq mi 118 then cd_X10_height pc else []) else (bif Nat.beq mi 119 then cd_X10_isShady pc else []))) else (bif Nat.blt mi 122 then (bif Nat.blt mi 121 then (bif Nat.beq mi 120 then cd_X10_sign pc else []) else (bif Nat.beq mi 121 then cd_X10_rooms pc else [])) else (bif Nat.blt mi 123 then (bif Nat.beq mi 122 then cd_X10_inRack pc else []) else (bif Nat.beq mi 123 then cd_X10_worst pc else [])))))) else (bif Nat.blt mi 136 then (bif Nat.blt mi 130 then (bif Nat.blt mi 127 then (bif Nat.blt mi 125 then (bif Nat.beq mi 124 then cd_X10_goneIn pc else []) else (bif Nat.blt mi 126 then (bif Nat.beq mi 125 then cd_X10_massBits pc else []) else (bif Nat.beq mi 126 then cd_X10_safe pc else []))) else (bif Nat.blt mi 128 then (bif Nat.beq mi 127 then cd_X10_left pc else []) else (bif Nat.blt mi 129 then (bif Nat.beq mi 128 then cd_X10_append pc else []) else (bif Nat.beq mi 129 then cd_X10_read pc else [])))) else (bif Nat.blt mi 133 then (bif Nat.blt mi 131 then (bif Nat.beq mi 130 then cd_X10_errorPosition pc else []) else (bif Nat.blt mi 132 then (bif Nat.beq mi 131 then cd_X10_account pc else []) else (bif Nat.beq mi 132 then cd_X10_isWell pc else []))) else (bif Nat.blt mi 134 then (bif Nat.beq mi 133 then cd_X10_meanBits pc else []) else (bif Nat.blt mi 135 then (bif Nat.beq mi 134 then cd_X10_undo pc else []) else (bif Nat.beq mi 135 then cd_X10_save pc else []))))) else (bif Nat.blt mi 142 then (bif Nat.blt mi 139 then (bif Nat.blt mi 137 then (bif Nat.beq mi 136 then cd_X10_restore pc else []) else (bif Nat.blt mi 138 then (bif Nat.beq mi 137 then cd_X10_permit pc else []) else (bif Nat.beq mi 138 then cd_X10_requireSawn pc else []))) else (bif Nat.blt mi 140 then (bif Nat.beq mi 139 then cd_X10_requireOnWall pc else []) else (bif Nat.blt mi 141 then (bif Nat.beq mi 140 then cd_X10_requireHoursAhead pc else []) else (bif Nat.beq mi 141 then cd_Jx00060_init_a7421 pc else [])))) else (bif Nat.blt mi 145 then (bif Nat.blt mi 143 then (bif Nat.beq mi 142 then cd_J11_isValidCodePoint_9a6ad pc else []) else (bif Nat.blt mi 144 then (bif Nat.beq mi 143 then cd_J11_highSurrogate_5068e pc else []) else (bif Nat.beq mi 144 then cd_J11_lowSurrogate_5068e pc else []))) else (bif Nat.blt mi 147 then (bif Nat.blt mi 146 then (bif Nat.beq mi 145 then cd_Jxe99ae_isNaN_b9ae7 pc else []) else (bif Nat.beq mi 146 then cd_Jxe99ae_doubleToLongBits_ccdee pc else [])) else (bif Nat.blt mi 148 then (bif Nat.beq mi 147 then cd_J9_floorMod_7cf53 pc else []) else (bif Nat.beq mi 148 then cd_J9_max_7cf53 pc else []))))))) else (bif Nat.blt mi 174 then (bif Nat.blt mi 161 then (bif Nat.blt mi 155 then (bif Nat.blt mi 152 then (bif Nat.blt mi 150 then (bif Nat.beq mi 149 then cd_J9_min_7cf53 pc else []) else (bif Nat.blt mi 151 then (bif Nat.beq mi 150 then cd_J0_length_8abf5 pc else []) else (bif Nat.beq mi 151 then cd_J0_charAt_5068e pc else []))) else (bif Nat.blt mi 153 then (bif Nat.beq mi 152 then cd_J0_indexOf_0f7a4 pc else []) else (bif Nat.blt mi 154 then (bif Nat.beq mi 153 then cd_J0_indexOf_7cf53 pc else []) else (bif Nat.beq mi 154 then cd_J0_coder_7d493 pc else [])))) else (bif Nat.blt mi 158 then (bif Nat.blt mi 156 then (bif Nat.beq mi 155 then cd_J0_isLatin1_aae02 pc else []) else (bif Nat.blt mi 157 then (bif Nat.beq mi 156 then cd_J0_checkIndex_df160 pc else []) else (bif Nat.beq mi 157 then cd_J0_checkBoundsBeginEnd_23922 pc else []))) else (bif Nat.blt mi 159 then (bif Nat.beq mi 158 then cd_J1_charAt_3b067 pc else []) else (bif Nat.blt mi 160 then (bif Nat.beq mi 159 then cd_J1_canEncode_9a6ad pc else []) else (bif Nat.beq mi 160 then cd_J1_indexOf_4cfef pc else []))))) else (bif Nat.blt mi 167 then (bif Nat.blt mi 164 then (bif Nat.blt mi 162 then (bif Nat.beq mi 161 then cd_J1_indexOfChar_4cfef pc else []) else (bif Nat.blt mi 163 then (bif Nat.beq mi 162 then cd_J2_getChar_3b067 pc else []) else (bif Nat.beq mi 163 then cd_J2_length_9d52b pc else []))) else (bif Nat.blt mi 165 then (bif Nat.beq mi 164 then cd_J2_indexOf_4cfef pc else []) else (bif Nat.blt mi 166 then (bif Nat.beq mi 165 then cd_J2_indexOfChar_4cfef pc else []) else (bif Nat.beq mi 166 then cd_J2_indexOfCharUnsafe_4cfef pc else [])))) else (bif Nat.blt mi 170 then (bif Nat.blt mi 168 then (bif Nat.beq mi 167 then cd_J2_indexOfSupplementary_4cfef pc else []) else (bif Nat.blt mi 169 then (bif Nat.beq mi 168 then cd_J2_charAt_3b067 pc else []) else (bif Nat.beq mi 169 then cd_J2_checkIndex_2214a pc else []))) else (bif Nat.blt mi 172 then (bif Nat.blt mi 171 then (bif Nat.beq mi 170 then cd_J2_checkBoundsBeginEnd_d044e pc else []) else (bif Nat.beq mi 171 then cd_J3_checkIndex_8e157 pc else [])) else (bif Nat.blt mi 173 then (bif Nat.beq mi 172 then cd_J3_checkFromToIndex_8c36e pc else []) else (bif Nat.beq mi 173 then cd_L_cell pc else [])))))) else (bif Nat.blt mi 186 then (bif Nat.blt mi 180 then (bif Nat.blt mi 177 then (bif Nat.blt mi 175 then (bif Nat.beq mi 174 then cd_L_heat pc else []) else (bif Nat.blt mi 176 then (bif Nat.beq mi 175 then cd_L_visit pc else []) else (bif Nat.beq mi 176 then cd_L_saw pc else []))) else (bif Nat.blt mi 178 then (bif Nat.beq mi 177 then cd_L_lay pc else []) else (bif Nat.blt mi 179 then (bif Nat.beq mi 178 then cd_L_take pc else []) else (bif Nat.beq mi 179 then cd_L_pass pc else [])))) else (bif Nat.blt mi 183 then (bif Nat.blt mi 181 then (bif Nat.beq mi 180 then cd_L_goneIn pc else []) else (bif Nat.blt mi 182 then (bif Nat.beq mi 181 then cd_L_safe pc else []) else (bif Nat.beq mi 182 then cd_L_worst pc else []))) else (bif Nat.blt mi 184 then (bif Nat.beq mi 183 then cd_L_read pc else []) else (bif Nat.blt mi 185 then (bif Nat.beq mi 184 then cd_L_undo pc else []) else (bif Nat.beq mi 185 then cd_L_restore pc else []))))) else (bif Nat.blt mi 192 then (bif Nat.blt mi 189 then (bif Nat.blt mi 187 then (bif Nat.beq mi 186 then cd_L_meanBits pc else []) else (bif Nat.blt mi 188 then (bif Nat.beq mi 187 then cd_L_append pc else []) else (bif Nat.beq mi 188 then cd_L_write pc else []))) else (bif Nat.blt mi 190 then (bif Nat.beq mi 189 then cd_L_act pc else []) else (bif Nat.blt mi 191 then (bif Nat.beq mi 190 then cd_L_digest pc else []) else (bif Nat.beq mi 191 then cd_L_areBlocks pc else [])))) else (bif Nat.blt mi 195 then (bif Nat.blt mi 193 then (bif Nat.beq mi 192 then cd_L_areLoads pc else []) else (bif Nat.blt mi 194 then (bif Nat.beq mi 193 then cd_L_areRooms pc else []) else (bif Nat.beq mi 194 then cd_L_isFit pc else []))) else (bif Nat.blt mi 197 then (bif Nat.blt mi 196 then (bif Nat.beq mi 195 then cd_L_isAhead pc else []) else (bif Nat.beq mi 196 then cd_L_isGone pc else [])) else (bif Nat.blt mi 198 then (bif Nat.beq mi 197 then cd_L_isSafe pc else []) else (bif Nat.beq mi 198 then cd_L_law pc else []))))))))
def cdT (mi pc : Nat) : Option Ent := lk (cdS mi pc) pc
def cY (mi : Nat) : MethodName := bif Nat.blt mi 99 then (bif Nat.blt mi 49 then (bif Nat.blt mi 24 then (bif Nat.blt mi 12 then (bif Nat.blt mi 6 then (bif Nat.blt mi 3 then (bif Nat.blt mi 1 then (bif Nat.beq mi 0 then yX0_init else ⟨"", "", ""⟩) else (bif Nat.blt mi 2 then (bif Nat.beq mi 1 then yX0_hoursToFirstGone else ⟨"", "", ""⟩) else (bif Nat.beq mi 2 then yX0_bitsOfMass else ⟨"", "", ""⟩))) else (bif Nat.blt mi 4 then (bif Nat.beq mi 3 then yX0_blocksOnWall else ⟨"", "", ""⟩) else (bif Nat.blt mi 5 then (bif Nat.beq mi 4 then yX0_isSafeFor else ⟨"", "", ""⟩) else (bif Nat.beq mi 5 then yX1_isAllWell else ⟨"", "", ""⟩)))) else (bif Nat.blt mi 9 then (bif Nat.blt mi 7 then (bif Nat.beq mi 6 then yX1_isSomewhere else ⟨"", "", ""⟩) else (bif Nat.blt mi 8 then (bif Nat.beq mi 7 then yX1_isFirm else ⟨"", "", ""⟩) else (bif Nat.beq mi 8 then yX1_countIn else ⟨"", "", ""⟩))) else (bif Nat.blt mi 10 then (bif Nat.beq mi 9 then yX2_ofFloat else ⟨"", "", ""⟩) else (bif Nat.blt mi 11 then (bif Nat.beq mi 10 then yX2_ofDouble else ⟨"", "", ""⟩) else (bif Nat.beq mi 11 then yX3_init else ⟨"", "", ""⟩))))) else (bif Nat.blt mi 18 then (bif Nat.blt mi 15 then (bif Nat.blt mi 13 then (bif Nat.beq mi 12 then yX3_number else ⟨"", "", ""⟩) else (bif Nat.blt mi 14 then (bif Nat.beq mi 13 then yX3_remember else ⟨"", "", ""⟩) else (bif Nat.beq mi 14 then yX3_goBack else ⟨"", "", ""⟩))) else (bif Nat.blt mi 16 then (bif Nat.beq mi 15 then yX3_forget else ⟨"", "", ""⟩) else (bif Nat.blt mi 17 then (bif Nat.beq mi 16 then yX4_init else ⟨"", "", ""⟩) else (bif Nat.beq mi 17 then yX4_letGoBy else ⟨"", "", ""⟩)))) else (bif Nat.blt mi 21 then (bif Nat.blt mi 19 then (bif Nat.beq mi 18 then yX4_changeIce else ⟨"", "", ""⟩) else (bif Nat.blt mi 20 then (bif Nat.beq mi 19 then yX4_changeJoints else ⟨"", "", ""⟩) else (bif Nat.beq mi 20 then yX4_melt else ⟨"", "", ""⟩))) else (bif Nat.blt mi 22 then (bif Nat.beq mi 21 then yX4_warm else ⟨"", "", ""⟩) else (bif Nat.blt mi 23 then (bif Nat.beq mi 22 then yX4_removeMelted else ⟨"", "", ""⟩) else (bif Nat.beq mi 23 then yX4_dropUnsupported else ⟨"", "", ""⟩)))))) else (bif Nat.blt mi 36 then (bif Nat.blt mi 30 then (bif Nat.blt mi 27 then (bif Nat.blt mi 25 then (bif Nat.beq mi 24 then yX4_breakOverloaded else ⟨"", "", ""⟩) else (bif Nat.blt mi 26 then (bif Nat.beq mi 25 then yX5_init else ⟨"", "", ""⟩) else (bif Nat.beq mi 26 then yX5_loadOf else ⟨"", "", ""⟩))) else (bif Nat.blt mi 28 then (bif Nat.beq mi 27 then yX5_borneBy else ⟨"", "", ""⟩) else (bif Nat.blt mi 29 then (bif Nat.beq mi 28 then yX5_sumUp else ⟨"", "", ""⟩) else (bif Nat.beq mi 29 then yX5_handDown else ⟨"", "", ""⟩)))) else (bif Nat.blt mi 33 then (bif Nat.blt mi 31 then (bif Nat.beq mi 30 then yX5_loadFromAbove else ⟨"", "", ""⟩) else (bif Nat.blt mi 32 then (bif Nat.beq mi 31 then yX5_sumFromAbove else ⟨"", "", ""⟩) else (bif Nat.beq mi 32 then yX5_firstOverloaded else ⟨"", "", ""⟩))) else (bif Nat.blt mi 34 then (bif Nat.beq mi 33 then yX5_mostBurdened else ⟨"", "", ""⟩) else (bif Nat.blt mi 35 then (bif Nat.beq mi 34 then yX6_init else ⟨"", "", ""⟩) else (bif Nat.beq mi 35 then yX6_hasSpace else ⟨"", "", ""⟩))))) else (bif Nat.blt mi 42 then (bif Nat.blt mi 39 then (bif Nat.blt mi 37 then (bif Nat.beq mi 36 then yX6_add else ⟨"", "", ""⟩) else (bif Nat.blt mi 38 then (bif Nat.beq mi 37 then yX6_empty else ⟨"", "", ""⟩) else (bif Nat.beq mi 38 then yX6_inputLength else ⟨"", "", ""⟩))) else (bif Nat.blt mi 40 then (bif Nat.beq mi 39 then yX6_errorOffset else ⟨"", "", ""⟩) else (bif Nat.blt mi 41 then (bif Nat.beq mi 40 then yX6_number else ⟨"", "", ""⟩) else (bif Nat.beq mi 41 then yX6_signOf else ⟨"", "", ""⟩)))) else (bif Nat.blt mi 45 then (bif Nat.blt mi 43 then (bif Nat.beq mi 42 then yX6_firstOf else ⟨"", "", ""⟩) else (bif Nat.blt mi 44 then (bif Nat.beq mi 43 then yX6_secondOf else ⟨"", "", ""⟩) else (bif Nat.beq mi 44 then yX6_thirdOf else ⟨"", "", ""⟩))) else (bif Nat.blt mi 47 then (bif Nat.blt mi 46 then (bif Nat.beq mi 45 then yX6_understand else ⟨"", "", ""⟩) else (bif Nat.beq mi 46 then yX6_readOrder else ⟨"", "", ""⟩)) else (bif Nat.blt mi 48 then (bif Nat.beq mi 47 then yX6_readSawing else ⟨"", "", ""⟩) else (bif Nat.beq mi 48 then yX6_readLaying else ⟨"", "", ""⟩))))))) else (bif Nat.blt mi 74 then (bif Nat.blt mi 61 then (bif Nat.blt mi 55 then (bif Nat.blt mi 52 then (bif Nat.blt mi 50 then (bif Nat.beq mi 49 then yX6_readNumber else ⟨"", "", ""⟩) else (bif Nat.blt mi 51 then (bif Nat.beq mi 50 then yX6_readTemperature else ⟨"", "", ""⟩) else (bif Nat.beq mi 51 then yX6_note else ⟨"", "", ""⟩))) else (bif Nat.blt mi 53 then (bif Nat.beq mi 52 then yX6_goPast else ⟨"", "", ""⟩) else (bif Nat.blt mi 54 then (bif Nat.beq mi 53 then yX6_digits else ⟨"", "", ""⟩) else (bif Nat.beq mi 54 then yX7_init else ⟨"", "", ""⟩)))) else (bif Nat.blt mi 58 then (bif Nat.blt mi 56 then (bif Nat.beq mi 55 then yX7_heightOf else ⟨"", "", ""⟩) else (bif Nat.blt mi 57 then (bif Nat.beq mi 56 then yX7_measure else ⟨"", "", ""⟩) else (bif Nat.beq mi 57 then yX7_isInShadow else ⟨"", "", ""⟩))) else (bif Nat.blt mi 59 then (bif Nat.beq mi 58 then yX7_isShadedFromLeft else ⟨"", "", ""⟩) else (bif Nat.blt mi 60 then (bif Nat.beq mi 59 then yX7_isShadedFromRight else ⟨"", "", ""⟩) else (bif Nat.beq mi 60 then yX7_roomNumber else ⟨"", "", ""⟩))))) else (bif Nat.blt mi 67 then (bif Nat.blt mi 64 then (bif Nat.blt mi 62 then (bif Nat.beq mi 61 then yX8_init else ⟨"", "", ""⟩) else (bif Nat.blt mi 63 then (bif Nat.beq mi 62 then yX8_fill else ⟨"", "", ""⟩) else (bif Nat.beq mi 63 then yX8_copyRow else ⟨"", "", ""⟩))) else (bif Nat.blt mi 65 then (bif Nat.beq mi 64 then yX8_copyFrom else ⟨"", "", ""⟩) else (bif Nat.blt mi 66 then (bif Nat.beq mi 65 then yX8_isColumn else ⟨"", "", ""⟩) else (bif Nat.beq mi 66 then yX8_isCourse else ⟨"", "", ""⟩)))) else (bif Nat.blt mi 70 then (bif Nat.blt mi 68 then (bif Nat.beq mi 67 then yX8_isHour else ⟨"", "", ""⟩) else (bif Nat.blt mi 69 then (bif Nat.beq mi 68 then yX8_isRack else ⟨"", "", ""⟩) else (bif Nat.beq mi 69 then yX8_isSawn else ⟨"", "", ""⟩))) else (bif Nat.blt mi 72 then (bif Nat.blt mi 71 then (bif Nat.beq mi 70 then yX8_isOnWall else ⟨"", "", ""⟩) else (bif Nat.beq mi 71 then yX8_isInRack else ⟨"", "", ""⟩)) else (bif Nat.blt mi 73 then (bif Nat.beq mi 72 then yX8_isGone else ⟨"", "", ""⟩) else (bif Nat.beq mi 73 then yX8_massOf else ⟨"", "", ""⟩)))))) else (bif Nat.blt mi 86 then (bif Nat.blt mi 80 then (bif Nat.blt mi 77 then (bif Nat.blt mi 75 then (bif Nat.beq mi 74 then yX8_hourOfDay else ⟨"", "", ""⟩) else (bif Nat.blt mi 76 then (bif Nat.beq mi 75 then yX8_temperatureAt else ⟨"", "", ""⟩) else (bif Nat.beq mi 76 then yX8_blockAt else ⟨"", "", ""⟩))) else (bif Nat.blt mi 78 then (bif Nat.beq mi 77 then yX8_blockInRack else ⟨"", "", ""⟩) else (bif Nat.blt mi 79 then (bif Nat.beq mi 78 then yX8_freePlace else ⟨"", "", ""⟩) else (bif Nat.beq mi 79 then yX8_supportedColumns else ⟨"", "", ""⟩)))) else (bif Nat.blt mi 83 then (bif Nat.blt mi 81 then (bif Nat.beq mi 80 then yX8_supportOf else ⟨"", "", ""⟩) else (bif Nat.blt mi 82 then (bif Nat.beq mi 81 then yX8_isSupported else ⟨"", "", ""⟩) else (bif Nat.beq mi 82 then yX8_sharedColumns else ⟨"", "", ""⟩))) else (bif Nat.blt mi 84 then (bif Nat.beq mi 83 then yX8_addBlock else ⟨"", "", ""⟩) else (bif Nat.blt mi 85 then (bif Nat.beq mi 84 then yX8_putOnWall else ⟨"", "", ""⟩) else (bif Nat.beq mi 85 then yX8_remove else ⟨"", "", ""⟩))))) else (bif Nat.blt mi 92 then (bif Nat.blt mi 89 then (bif Nat.blt mi 87 then (bif Nat.beq mi 86 then yX8_leaveRack else ⟨"", "", ""⟩) else (bif Nat.blt mi 88 then (bif Nat.beq mi 87 then yX8_markColumns else ⟨"", "", ""⟩) else (bif Nat.beq mi 88 then yX8_numberOf else ⟨"", "", ""⟩))) else (bif Nat.blt mi 90 then (bif Nat.beq mi 89 then yX8_signOf else ⟨"", "", ""⟩) else (bif Nat.blt mi 91 then (bif Nat.beq mi 90 then yX8_accountOf else ⟨"", "", ""⟩) else (bif Nat.beq mi 91 then yX8_countOnWall else ⟨"", "", ""⟩)))) else (bif Nat.blt mi 95 then (bif Nat.blt mi 93 then (bif Nat.beq mi 92 then yX8_countStates else ⟨"", "", ""⟩) else (bif Nat.blt mi 94 then (bif Nat.beq mi 93 then yX8_countCauses else ⟨"", "", ""⟩) else (bif Nat.beq mi 94 then yX8_countFilledColumns else ⟨"", "", ""⟩))) else (bif Nat.blt mi 97 then (bif Nat.blt mi 96 then (bif Nat.beq mi 95 then yX8_sumOfMasses else ⟨"", "", ""⟩) else (bif Nat.beq mi 96 then yX9_init else ⟨"", "", ""⟩)) else (bif Nat.blt mi 98 then (bif Nat.beq mi 97 then yX9_faultOf else ⟨"", "", ""⟩) else (bif Nat.beq mi 98 then yX9_perform else ⟨"", "", ""⟩)))))))) else (bif Nat.blt mi 149 then (bif Nat.blt mi 124 then (bif Nat.blt mi 111 then (bif Nat.blt mi 105 then (bif Nat.blt mi 102 then (bif Nat.blt mi 100 then (bif Nat.beq mi 99 then yX9_refuse else ⟨"", "", ""⟩) else (bif Nat.blt mi 101 then (bif Nat.beq mi 100 then yX9_faultOfTemperature else ⟨"", "", ""⟩) else (bif Nat.beq mi 101 then yX9_setTemperature else ⟨"", "", ""⟩))) else (bif Nat.blt mi 103 then (bif Nat.beq mi 102 then yX9_setVisitors else ⟨"", "", ""⟩) else (bif Nat.blt mi 104 then (bif Nat.beq mi 103 then yX9_faultOfSawing else ⟨"", "", ""⟩) else (bif Nat.beq mi 104 then yX9_faultOfLaying else ⟨"", "", ""⟩)))) else (bif Nat.blt mi 108 then (bif Nat.blt mi 106 then (bif Nat.beq mi 105 then yX9_faultOfTaking else ⟨"", "", ""⟩) else (bif Nat.blt mi 107 then (bif Nat.beq mi 106 then yX10_init else ⟨"", "", ""⟩) else (bif Nat.beq mi 107 then yX10_heat else ⟨"", "", ""⟩))) else (bif Nat.blt mi 109 then (bif Nat.beq mi 108 then yX10_visit else ⟨"", "", ""⟩) else (bif Nat.blt mi 110 then (bif Nat.beq mi 109 then yX10_saw else ⟨"", "", ""⟩) else (bif Nat.beq mi 110 then yX10_lay else ⟨"", "", ""⟩))))) else (bif Nat.blt mi 117 then (bif Nat.blt mi 114 then (bif Nat.blt mi 112 then (bif Nat.beq mi 111 then yX10_take else ⟨"", "", ""⟩) else (bif Nat.blt mi 113 then (bif Nat.beq mi 112 then yX10_pass else ⟨"", "", ""⟩) else (bif Nat.beq mi 113 then yX10_blockOf else ⟨"", "", ""⟩))) else (bif Nat.blt mi 115 then (bif Nat.beq mi 114 then yX10_mass else ⟨"", "", ""⟩) else (bif Nat.blt mi 116 then (bif Nat.beq mi 115 then yX10_load else ⟨"", "", ""⟩) else (bif Nat.beq mi 116 then yX10_loadAgain else ⟨"", "", ""⟩)))) else (bif Nat.blt mi 120 then (bif Nat.blt mi 118 then (bif Nat.beq mi 117 then yX10_at else ⟨"", "", ""⟩) else (bif Nat.blt mi 119 then (bif Nat.beq mi 118 then yX10_height else ⟨"", "", ""⟩) else (bif Nat.beq mi 119 then yX10_isShady else ⟨"", "", ""⟩))) else (bif Nat.blt mi 122 then (bif Nat.blt mi 121 then (bif Nat.beq mi 120 then yX10_sign else ⟨"", "", ""⟩) else (bif Nat.beq mi 121 then yX10_rooms else ⟨"", "", ""⟩)) else (bif Nat.blt mi 123 then (bif Nat.beq mi 122 then yX10_inRack else ⟨"", "", ""⟩) else (bif Nat.beq mi 123 then yX10_worst else ⟨"", "", ""⟩)))))) else (bif Nat.blt mi 136 then (bif Nat.blt mi 130 then (bif Nat.blt mi 127 then (bif Nat.blt mi 125 then (bif Nat.beq mi 124 then yX10_goneIn else ⟨"", "", ""⟩) else (bif Nat.blt mi 126 then (bif Nat.beq mi 125 then yX10_massBits else ⟨"", "", ""⟩) else (bif Nat.beq mi 126 then yX10_safe else ⟨"", "", ""⟩))) else (bif Nat.blt mi 128 then (bif Nat.beq mi 127 then yX10_left else ⟨"", "", ""⟩) else (bif Nat.blt mi 129 then (bif Nat.beq mi 128 then yX10_append else ⟨"", "", ""⟩) else (bif Nat.beq mi 129 then yX10_read else ⟨"", "", ""⟩)))) else (bif Nat.blt mi 133 then (bif Nat.blt mi 131 then (bif Nat.beq mi 130 then yX10_errorPosition else ⟨"", "", ""⟩) else (bif Nat.blt mi 132 then (bif Nat.beq mi 131 then yX10_account else ⟨"", "", ""⟩) else (bif Nat.beq mi 132 then yX10_isWell else ⟨"", "", ""⟩))) else (bif Nat.blt mi 134 then (bif Nat.beq mi 133 then yX10_meanBits else ⟨"", "", ""⟩) else (bif Nat.blt mi 135 then (bif Nat.beq mi 134 then yX10_undo else ⟨"", "", ""⟩) else (bif Nat.beq mi 135 then yX10_save else ⟨"", "", ""⟩))))) else (bif Nat.blt mi 142 then (bif Nat.blt mi 139 then (bif Nat.blt mi 137 then (bif Nat.beq mi 136 then yX10_restore else ⟨"", "", ""⟩) else (bif Nat.blt mi 138 then (bif Nat.beq mi 137 then yX10_permit else ⟨"", "", ""⟩) else (bif Nat.beq mi 138 then yX10_requireSawn else ⟨"", "", ""⟩))) else (bif Nat.blt mi 140 then (bif Nat.beq mi 139 then yX10_requireOnWall else ⟨"", "", ""⟩) else (bif Nat.blt mi 141 then (bif Nat.beq mi 140 then yX10_requireHoursAhead else ⟨"", "", ""⟩) else (bif Nat.beq mi 141 then yJx00060_init_a7421 else ⟨"", "", ""⟩)))) else (bif Nat.blt mi 145 then (bif Nat.blt mi 143 then (bif Nat.beq mi 142 then yJ11_isValidCodePoint_9a6ad else ⟨"", "", ""⟩) else (bif Nat.blt mi 144 then (bif Nat.beq mi 143 then yJ11_highSurrogate_5068e else ⟨"", "", ""⟩) else (bif Nat.beq mi 144 then yJ11_lowSurrogate_5068e else ⟨"", "", ""⟩))) else (bif Nat.blt mi 147 then (bif Nat.blt mi 146 then (bif Nat.beq mi 145 then yJxe99ae_isNaN_b9ae7 else ⟨"", "", ""⟩) else (bif Nat.beq mi 146 then yJxe99ae_doubleToLongBits_ccdee else ⟨"", "", ""⟩)) else (bif Nat.blt mi 148 then (bif Nat.beq mi 147 then yJ9_floorMod_7cf53 else ⟨"", "", ""⟩) else (bif Nat.beq mi 148 then yJ9_max_7cf53 else ⟨"", "", ""⟩))))))) else (bif Nat.blt mi 174 then (bif Nat.blt mi 161 then (bif Nat.blt mi 155 then (bif Nat.blt mi 152 then (bif Nat.blt mi 150 then (bif Nat.beq mi 149 then yJ9_min_7cf53 else ⟨"", "", ""⟩) else (bif Nat.blt mi 151 then (bif Nat.beq mi 150 then yJ0_length_8abf5 else ⟨"", "", ""⟩) else (bif Nat.beq mi 151 then yJ0_charAt_5068e else ⟨"", "", ""⟩))) else (bif Nat.blt mi 153 then (bif Nat.beq mi 152 then yJ0_indexOf_0f7a4 else ⟨"", "", ""⟩) else (bif Nat.blt mi 154 then (bif Nat.beq mi 153 then yJ0_indexOf_7cf53 else ⟨"", "", ""⟩) else (bif Nat.beq mi 154 then yJ0_coder_7d493 else ⟨"", "", ""⟩)))) else (bif Nat.blt mi 158 then (bif Nat.blt mi 156 then (bif Nat.beq mi 155 then yJ0_isLatin1_aae02 else ⟨"", "", ""⟩) else (bif Nat.blt mi 157 then (bif Nat.beq mi 156 then yJ0_checkIndex_df160 else ⟨"", "", ""⟩) else (bif Nat.beq mi 157 then yJ0_checkBoundsBeginEnd_23922 else ⟨"", "", ""⟩))) else (bif Nat.blt mi 159 then (bif Nat.beq mi 158 then yJ1_charAt_3b067 else ⟨"", "", ""⟩) else (bif Nat.blt mi 160 then (bif Nat.beq mi 159 then yJ1_canEncode_9a6ad else ⟨"", "", ""⟩) else (bif Nat.beq mi 160 then yJ1_indexOf_4cfef else ⟨"", "", ""⟩))))) else (bif Nat.blt mi 167 then (bif Nat.blt mi 164 then (bif Nat.blt mi 162 then (bif Nat.beq mi 161 then yJ1_indexOfChar_4cfef else ⟨"", "", ""⟩) else (bif Nat.blt mi 163 then (bif Nat.beq mi 162 then yJ2_getChar_3b067 else ⟨"", "", ""⟩) else (bif Nat.beq mi 163 then yJ2_length_9d52b else ⟨"", "", ""⟩))) else (bif Nat.blt mi 165 then (bif Nat.beq mi 164 then yJ2_indexOf_4cfef else ⟨"", "", ""⟩) else (bif Nat.blt mi 166 then (bif Nat.beq mi 165 then yJ2_indexOfChar_4cfef else ⟨"", "", ""⟩) else (bif Nat.beq mi 166 then yJ2_indexOfCharUnsafe_4cfef else ⟨"", "", ""⟩)))) else (bif Nat.blt mi 170 then (bif Nat.blt mi 168 then (bif Nat.beq mi 167 then yJ2_indexOfSupplementary_4cfef else ⟨"", "", ""⟩) else (bif Nat.blt mi 169 then (bif Nat.beq mi 168 then yJ2_charAt_3b067 else ⟨"", "", ""⟩) else (bif Nat.beq mi 169 then yJ2_checkIndex_2214a else ⟨"", "", ""⟩))) else (bif Nat.blt mi 172 then (bif Nat.blt mi 171 then (bif Nat.beq mi 170 then yJ2_checkBoundsBeginEnd_d044e else ⟨"", "", ""⟩) else (bif Nat.beq mi 171 then yJ3_checkIndex_8e157 else ⟨"", "", ""⟩)) else (bif Nat.blt mi 173 then (bif Nat.beq mi 172 then yJ3_checkFromToIndex_8c36e else ⟨"", "", ""⟩) else (bif Nat.beq mi 173 then yL_cell else ⟨"", "", ""⟩)))))) else (bif Nat.blt mi 186 then (bif Nat.blt mi 180 then (bif Nat.blt mi 177 then (bif Nat.blt mi 175 then (bif Nat.beq mi 174 then yL_heat else ⟨"", "", ""⟩) else (bif Nat.blt mi 176 then (bif Nat.beq mi 175 then yL_visit else ⟨"", "", ""⟩) else (bif Nat.beq mi 176 then yL_saw else ⟨"", "", ""⟩))) else (bif Nat.blt mi 178 then (bif Nat.beq mi 177 then yL_lay else ⟨"", "", ""⟩) else (bif Nat.blt mi 179 then (bif Nat.beq mi 178 then yL_take else ⟨"", "", ""⟩) else (bif Nat.beq mi 179 then yL_pass else ⟨"", "", ""⟩)))) else (bif Nat.blt mi 183 then (bif Nat.blt mi 181 then (bif Nat.beq mi 180 then yL_goneIn else ⟨"", "", ""⟩) else (bif Nat.blt mi 182 then (bif Nat.beq mi 181 then yL_safe else ⟨"", "", ""⟩) else (bif Nat.beq mi 182 then yL_worst else ⟨"", "", ""⟩))) else (bif Nat.blt mi 184 then (bif Nat.beq mi 183 then yL_read else ⟨"", "", ""⟩) else (bif Nat.blt mi 185 then (bif Nat.beq mi 184 then yL_undo else ⟨"", "", ""⟩) else (bif Nat.beq mi 185 then yL_restore else ⟨"", "", ""⟩))))) else (bif Nat.blt mi 192 then (bif Nat.blt mi 189 then (bif Nat.blt mi 187 then (bif Nat.beq mi 186 then yL_meanBits else ⟨"", "", ""⟩) else (bif Nat.blt mi 188 then (bif Nat.beq mi 187 then yL_append else ⟨"", "", ""⟩) else (bif Nat.beq mi 188 then yL_write else ⟨"", "", ""⟩))) else (bif Nat.blt mi 190 then (bif Nat.beq mi 189 then yL_act else ⟨"", "", ""⟩) else (bif Nat.blt mi 191 then (bif Nat.beq mi 190 then yL_digest else ⟨"", "", ""⟩) else (bif Nat.beq mi 191 then yL_areBlocks else ⟨"", "", ""⟩)))) else (bif Nat.blt mi 195 then (bif Nat.blt mi 193 then (bif Nat.beq mi 192 then yL_areLoads else ⟨"", "", ""⟩) else (bif Nat.blt mi 194 then (bif Nat.beq mi 193 then yL_areRooms else ⟨"", "", ""⟩) else (bif Nat.beq mi 194 then yL_isFit else ⟨"", "", ""⟩))) else (bif Nat.blt mi 197 then (bif Nat.blt mi 196 then (bif Nat.beq mi 195 then yL_isAhead else ⟨"", "", ""⟩) else (bif Nat.beq mi 196 then yL_isGone else ⟨"", "", ""⟩)) else (bif Nat.blt mi 198 then (bif Nat.beq mi 197 then yL_isSafe else ⟨"", "", ""⟩) else (bif Nat.beq mi 198 then yL_law else ⟨"", "", ""⟩))))))))
def cB (mi : Nat) : ByteArray := bif Nat.blt mi 99 then (bif Nat.blt mi 49 then (bif Nat.blt mi 24 then (bif Nat.blt mi 12 then (bif Nat.blt mi 6 then (bif Nat.blt mi 3 then (bif Nat.blt mi 1 then (bif Nat.beq mi 0 then cX0_init else ⟨#[]⟩) else (bif Nat.blt mi 2 then (bif Nat.beq mi 1 then cX0_hoursToFirstGone else ⟨#[]⟩) else (bif Nat.beq mi 2 then cX0_bitsOfMass else ⟨#[]⟩))) else (bif Nat.blt mi 4 then (bif Nat.beq mi 3 then cX0_blocksOnWall else ⟨#[]⟩) else (bif Nat.blt mi 5 then (bif Nat.beq mi 4 then cX0_isSafeFor else ⟨#[]⟩) else (bif Nat.beq mi 5 then cX1_isAllWell else ⟨#[]⟩)))) else (bif Nat.blt mi 9 then (bif Nat.blt mi 7 then (bif Nat.beq mi 6 then cX1_isSomewhere else ⟨#[]⟩) else (bif Nat.blt mi 8 then (bif Nat.beq mi 7 then cX1_isFirm else ⟨#[]⟩) else (bif Nat.beq mi 8 then cX1_countIn else ⟨#[]⟩))) else (bif Nat.blt mi 10 then (bif Nat.beq mi 9 then cX2_ofFloat else ⟨#[]⟩) else (bif Nat.blt mi 11 then (bif Nat.beq mi 10 then cX2_ofDouble else ⟨#[]⟩) else (bif Nat.beq mi 11 then cX3_init else ⟨#[]⟩))))) else (bif Nat.blt mi 18 then (bif Nat.blt mi 15 then (bif Nat.blt mi 13 then (bif Nat.beq mi 12 then cX3_number else ⟨#[]⟩) else (bif Nat.blt mi 14 then (bif Nat.beq mi 13 then cX3_remember else ⟨#[]⟩) else (bif Nat.beq mi 14 then cX3_goBack else ⟨#[]⟩))) else (bif Nat.blt mi 16 then (bif Nat.beq mi 15 then cX3_forget else ⟨#[]⟩) else (bif Nat.blt mi 17 then (bif Nat.beq mi 16 then cX4_init else ⟨#[]⟩) else (bif Nat.beq mi 17 then cX4_letGoBy else ⟨#[]⟩)))) else (bif Nat.blt mi 21 then (bif Nat.blt mi 19 then (bif Nat.beq mi 18 then cX4_changeIce else ⟨#[]⟩) else (bif Nat.blt mi 20 then (bif Nat.beq mi 19 then cX4_changeJoints else ⟨#[]⟩) else (bif Nat.beq mi 20 then cX4_melt else ⟨#[]⟩))) else (bif Nat.blt mi 22 then (bif Nat.beq mi 21 then cX4_warm else ⟨#[]⟩) else (bif Nat.blt mi 23 then (bif Nat.beq mi 22 then cX4_removeMelted else ⟨#[]⟩) else (bif Nat.beq mi 23 then cX4_dropUnsupported else ⟨#[]⟩)))))) else (bif Nat.blt mi 36 then (bif Nat.blt mi 30 then (bif Nat.blt mi 27 then (bif Nat.blt mi 25 then (bif Nat.beq mi 24 then cX4_breakOverloaded else ⟨#[]⟩) else (bif Nat.blt mi 26 then (bif Nat.beq mi 25 then cX5_init else ⟨#[]⟩) else (bif Nat.beq mi 26 then cX5_loadOf else ⟨#[]⟩))) else (bif Nat.blt mi 28 then (bif Nat.beq mi 27 then cX5_borneBy else ⟨#[]⟩) else (bif Nat.blt mi 29 then (bif Nat.beq mi 28 then cX5_sumUp else ⟨#[]⟩) else (bif Nat.beq mi 29 then cX5_handDown else ⟨#[]⟩)))) else (bif Nat.blt mi 33 then (bif Nat.blt mi 31 then (bif Nat.beq mi 30 then cX5_loadFromAbove else ⟨#[]⟩) else (bif Nat.blt mi 32 then (bif Nat.beq mi 31 then cX5_sumFromAbove else ⟨#[]⟩) else (bif Nat.beq mi 32 then cX5_firstOverloaded else ⟨#[]⟩))) else (bif Nat.blt mi 34 then (bif Nat.beq mi 33 then cX5_mostBurdened else ⟨#[]⟩) else (bif Nat.blt mi 35 then (bif Nat.beq mi 34 then cX6_init else ⟨#[]⟩) else (bif Nat.beq mi 35 then cX6_hasSpace else ⟨#[]⟩))))) else (bif Nat.blt mi 42 then (bif Nat.blt mi 39 then (bif Nat.blt mi 37 then (bif Nat.beq mi 36 then cX6_add else ⟨#[]⟩) else (bif Nat.blt mi 38 then (bif Nat.beq mi 37 then cX6_empty else ⟨#[]⟩) else (bif Nat.beq mi 38 then cX6_inputLength else ⟨#[]⟩))) else (bif Nat.blt mi 40 then (bif Nat.beq mi 39 then cX6_errorOffset else ⟨#[]⟩) else (bif Nat.blt mi 41 then (bif Nat.beq mi 40 then cX6_number else ⟨#[]⟩) else (bif Nat.beq mi 41 then cX6_signOf else ⟨#[]⟩)))) else (bif Nat.blt mi 45 then (bif Nat.blt mi 43 then (bif Nat.beq mi 42 then cX6_firstOf else ⟨#[]⟩) else (bif Nat.blt mi 44 then (bif Nat.beq mi 43 then cX6_secondOf else ⟨#[]⟩) else (bif Nat.beq mi 44 then cX6_thirdOf else ⟨#[]⟩))) else (bif Nat.blt mi 47 then (bif Nat.blt mi 46 then (bif Nat.beq mi 45 then cX6_understand else ⟨#[]⟩) else (bif Nat.beq mi 46 then cX6_readOrder else ⟨#[]⟩)) else (bif Nat.blt mi 48 then (bif Nat.beq mi 47 then cX6_readSawing else ⟨#[]⟩) else (bif Nat.beq mi 48 then cX6_readLaying else ⟨#[]⟩))))))) else (bif Nat.blt mi 74 then (bif Nat.blt mi 61 then (bif Nat.blt mi 55 then (bif Nat.blt mi 52 then (bif Nat.blt mi 50 then (bif Nat.beq mi 49 then cX6_readNumber else ⟨#[]⟩) else (bif Nat.blt mi 51 then (bif Nat.beq mi 50 then cX6_readTemperature else ⟨#[]⟩) else (bif Nat.beq mi 51 then cX6_note else ⟨#[]⟩))) else (bif Nat.blt mi 53 then (bif Nat.beq mi 52 then cX6_goPast else ⟨#[]⟩) else (bif Nat.blt mi 54 then (bif Nat.beq mi 53 then cX6_digits else ⟨#[]⟩) else (bif Nat.beq mi 54 then cX7_init else ⟨#[]⟩)))) else (bif Nat.blt mi 58 then (bif Nat.blt mi 56 then (bif Nat.beq mi 55 then cX7_heightOf else ⟨#[]⟩) else (bif Nat.blt mi 57 then (bif Nat.beq mi 56 then cX7_measure else ⟨#[]⟩) else (bif Nat.beq mi 57 then cX7_isInShadow else ⟨#[]⟩))) else (bif Nat.blt mi 59 then (bif Nat.beq mi 58 then cX7_isShadedFromLeft else ⟨#[]⟩) else (bif Nat.blt mi 60 then (bif Nat.beq mi 59 then cX7_isShadedFromRight else ⟨#[]⟩) else (bif Nat.beq mi 60 then cX7_roomNumber else ⟨#[]⟩))))) else (bif Nat.blt mi 67 then (bif Nat.blt mi 64 then (bif Nat.blt mi 62 then (bif Nat.beq mi 61 then cX8_init else ⟨#[]⟩) else (bif Nat.blt mi 63 then (bif Nat.beq mi 62 then cX8_fill else ⟨#[]⟩) else (bif Nat.beq mi 63 then cX8_copyRow else ⟨#[]⟩))) else (bif Nat.blt mi 65 then (bif Nat.beq mi 64 then cX8_copyFrom else ⟨#[]⟩) else (bif Nat.blt mi 66 then (bif Nat.beq mi 65 then cX8_isColumn else ⟨#[]⟩) else (bif Nat.beq mi 66 then cX8_isCourse else ⟨#[]⟩)))) else (bif Nat.blt mi 70 then (bif Nat.blt mi 68 then (bif Nat.beq mi 67 then cX8_isHour else ⟨#[]⟩) else (bif Nat.blt mi 69 then (bif Nat.beq mi 68 then cX8_isRack else ⟨#[]⟩) else (bif Nat.beq mi 69 then cX8_isSawn else ⟨#[]⟩))) else (bif Nat.blt mi 72 then (bif Nat.blt mi 71 then (bif Nat.beq mi 70 then cX8_isOnWall else ⟨#[]⟩) else (bif Nat.beq mi 71 then cX8_isInRack else ⟨#[]⟩)) else (bif Nat.blt mi 73 then (bif Nat.beq mi 72 then cX8_isGone else ⟨#[]⟩) else (bif Nat.beq mi 73 then cX8_massOf else ⟨#[]⟩)))))) else (bif Nat.blt mi 86 then (bif Nat.blt mi 80 then (bif Nat.blt mi 77 then (bif Nat.blt mi 75 then (bif Nat.beq mi 74 then cX8_hourOfDay else ⟨#[]⟩) else (bif Nat.blt mi 76 then (bif Nat.beq mi 75 then cX8_temperatureAt else ⟨#[]⟩) else (bif Nat.beq mi 76 then cX8_blockAt else ⟨#[]⟩))) else (bif Nat.blt mi 78 then (bif Nat.beq mi 77 then cX8_blockInRack else ⟨#[]⟩) else (bif Nat.blt mi 79 then (bif Nat.beq mi 78 then cX8_freePlace else ⟨#[]⟩) else (bif Nat.beq mi 79 then cX8_supportedColumns else ⟨#[]⟩)))) else (bif Nat.blt mi 83 then (bif Nat.blt mi 81 then (bif Nat.beq mi 80 then cX8_supportOf else ⟨#[]⟩) else (bif Nat.blt mi 82 then (bif Nat.beq mi 81 then cX8_isSupported else ⟨#[]⟩) else (bif Nat.beq mi 82 then cX8_sharedColumns else ⟨#[]⟩))) else (bif Nat.blt mi 84 then (bif Nat.beq mi 83 then cX8_addBlock else ⟨#[]⟩) else (bif Nat.blt mi 85 then (bif Nat.beq mi 84 then cX8_putOnWall else ⟨#[]⟩) else (bif Nat.beq mi 85 then cX8_remove else ⟨#[]⟩))))) else (bif Nat.blt mi 92 then (bif Nat.blt mi 89 then (bif Nat.blt mi 87 then (bif Nat.beq mi 86 then cX8_leaveRack else ⟨#[]⟩) else (bif Nat.blt mi 88 then (bif Nat.beq mi 87 then cX8_markColumns else ⟨#[]⟩) else (bif Nat.beq mi 88 then cX8_numberOf else ⟨#[]⟩))) else (bif Nat.blt mi 90 then (bif Nat.beq mi 89 then cX8_signOf else ⟨#[]⟩) else (bif Nat.blt mi 91 then (bif Nat.beq mi 90 then cX8_accountOf else ⟨#[]⟩) else (bif Nat.beq mi 91 then cX8_countOnWall else ⟨#[]⟩)))) else (bif Nat.blt mi 95 then (bif Nat.blt mi 93 then (bif Nat.beq mi 92 then cX8_countStates else ⟨#[]⟩) else (bif Nat.blt mi 94 then (bif Nat.beq mi 93 then cX8_countCauses else ⟨#[]⟩) else (bif Nat.beq mi 94 then cX8_countFilledColumns else ⟨#[]⟩))) else (bif Nat.blt mi 97 then (bif Nat.blt mi 96 then (bif Nat.beq mi 95 then cX8_sumOfMasses else ⟨#[]⟩) else (bif Nat.beq mi 96 then cX9_init else ⟨#[]⟩)) else (bif Nat.blt mi 98 then (bif Nat.beq mi 97 then cX9_faultOf else ⟨#[]⟩) else (bif Nat.beq mi 98 then cX9_perform else ⟨#[]⟩)))))))) else (bif Nat.blt mi 149 then (bif Nat.blt mi 124 then (bif Nat.blt mi 111 then (bif Nat.blt mi 105 then (bif Nat.blt mi 102 then (bif Nat.blt mi 100 then (bif Nat.beq mi 99 then cX9_refuse else ⟨#[]⟩) else (bif Nat.blt mi 101 then (bif Nat.beq mi 100 then cX9_faultOfTemperature else ⟨#[]⟩) else (bif Nat.beq mi 101 then cX9_setTemperature else ⟨#[]⟩))) else (bif Nat.blt mi 103 then (bif Nat.beq mi 102 then cX9_setVisitors else ⟨#[]⟩) else (bif Nat.blt mi 104 then (bif Nat.beq mi 103 then cX9_faultOfSawing else ⟨#[]⟩) else (bif Nat.beq mi 104 then cX9_faultOfLaying else ⟨#[]⟩)))) else (bif Nat.blt mi 108 then (bif Nat.blt mi 106 then (bif Nat.beq mi 105 then cX9_faultOfTaking else ⟨#[]⟩) else (bif Nat.blt mi 107 then (bif Nat.beq mi 106 then cX10_init else ⟨#[]⟩) else (bif Nat.beq mi 107 then cX10_heat else ⟨#[]⟩))) else (bif Nat.blt mi 109 then (bif Nat.beq mi 108 then cX10_visit else ⟨#[]⟩) else (bif Nat.blt mi 110 then (bif Nat.beq mi 109 then cX10_saw else ⟨#[]⟩) else (bif Nat.beq mi 110 then cX10_lay else ⟨#[]⟩))))) else (bif Nat.blt mi 117 then (bif Nat.blt mi 114 then (bif Nat.blt mi 112 then (bif Nat.beq mi 111 then cX10_take else ⟨#[]⟩) else (bif Nat.blt mi 113 then (bif Nat.beq mi 112 then cX10_pass else ⟨#[]⟩) else (bif Nat.beq mi 113 then cX10_blockOf else ⟨#[]⟩))) else (bif Nat.blt mi 115 then (bif Nat.beq mi 114 then cX10_mass else ⟨#[]⟩) else (bif Nat.blt mi 116 then (bif Nat.beq mi 115 then cX10_load else ⟨#[]⟩) else (bif Nat.beq mi 116 then cX10_loadAgain else ⟨#[]⟩)))) else (bif Nat.blt mi 120 then (bif Nat.blt mi 118 then (bif Nat.beq mi 117 then cX10_at else ⟨#[]⟩) else (bif Nat.blt mi 119 then (bif Nat.beq mi 118 then cX10_height else ⟨#[]⟩) else (bif Nat.beq mi 119 then cX10_isShady else ⟨#[]⟩))) else (bif Nat.blt mi 122 then (bif Nat.blt mi 121 then (bif Nat.beq mi 120 then cX10_sign else ⟨#[]⟩) else (bif Nat.beq mi 121 then cX10_rooms else ⟨#[]⟩)) else (bif Nat.blt mi 123 then (bif Nat.beq mi 122 then cX10_inRack else ⟨#[]⟩) else (bif Nat.beq mi 123 then cX10_worst else ⟨#[]⟩)))))) else (bif Nat.blt mi 136 then (bif Nat.blt mi 130 then (bif Nat.blt mi 127 then (bif Nat.blt mi 125 then (bif Nat.beq mi 124 then cX10_goneIn else ⟨#[]⟩) else (bif Nat.blt mi 126 then (bif Nat.beq mi 125 then cX10_massBits else ⟨#[]⟩) else (bif Nat.beq mi 126 then cX10_safe else ⟨#[]⟩))) else (bif Nat.blt mi 128 then (bif Nat.beq mi 127 then cX10_left else ⟨#[]⟩) else (bif Nat.blt mi 129 then (bif Nat.beq mi 128 then cX10_append else ⟨#[]⟩) else (bif Nat.beq mi 129 then cX10_read else ⟨#[]⟩)))) else (bif Nat.blt mi 133 then (bif Nat.blt mi 131 then (bif Nat.beq mi 130 then cX10_errorPosition else ⟨#[]⟩) else (bif Nat.blt mi 132 then (bif Nat.beq mi 131 then cX10_account else ⟨#[]⟩) else (bif Nat.beq mi 132 then cX10_isWell else ⟨#[]⟩))) else (bif Nat.blt mi 134 then (bif Nat.beq mi 133 then cX10_meanBits else ⟨#[]⟩) else (bif Nat.blt mi 135 then (bif Nat.beq mi 134 then cX10_undo else ⟨#[]⟩) else (bif Nat.beq mi 135 then cX10_save else ⟨#[]⟩))))) else (bif Nat.blt mi 142 then (bif Nat.blt mi 139 then (bif Nat.blt mi 137 then (bif Nat.beq mi 136 then cX10_restore else ⟨#[]⟩) else (bif Nat.blt mi 138 then (bif Nat.beq mi 137 then cX10_permit else ⟨#[]⟩) else (bif Nat.beq mi 138 then cX10_requireSawn else ⟨#[]⟩))) else (bif Nat.blt mi 140 then (bif Nat.beq mi 139 then cX10_requireOnWall else ⟨#[]⟩) else (bif Nat.blt mi 141 then (bif Nat.beq mi 140 then cX10_requireHoursAhead else ⟨#[]⟩) else (bif Nat.beq mi 141 then cJx00060_init_a7421 else ⟨#[]⟩)))) else (bif Nat.blt mi 145 then (bif Nat.blt mi 143 then (bif Nat.beq mi 142 then cJ11_isValidCodePoint_9a6ad else ⟨#[]⟩) else (bif Nat.blt mi 144 then (bif Nat.beq mi 143 then cJ11_highSurrogate_5068e else ⟨#[]⟩) else (bif Nat.beq mi 144 then cJ11_lowSurrogate_5068e else ⟨#[]⟩))) else (bif Nat.blt mi 147 then (bif Nat.blt mi 146 then (bif Nat.beq mi 145 then cJxe99ae_isNaN_b9ae7 else ⟨#[]⟩) else (bif Nat.beq mi 146 then cJxe99ae_doubleToLongBits_ccdee else ⟨#[]⟩)) else (bif Nat.blt mi 148 then (bif Nat.beq mi 147 then cJ9_floorMod_7cf53 else ⟨#[]⟩) else (bif Nat.beq mi 148 then cJ9_max_7cf53 else ⟨#[]⟩))))))) else (bif Nat.blt mi 174 then (bif Nat.blt mi 161 then (bif Nat.blt mi 155 then (bif Nat.blt mi 152 then (bif Nat.blt mi 150 then (bif Nat.beq mi 149 then cJ9_min_7cf53 else ⟨#[]⟩) else (bif Nat.blt mi 151 then (bif Nat.beq mi 150 then cJ0_length_8abf5 else ⟨#[]⟩) else (bif Nat.beq mi 151 then cJ0_charAt_5068e else ⟨#[]⟩))) else (bif Nat.blt mi 153 then (bif Nat.beq mi 152 then cJ0_indexOf_0f7a4 else ⟨#[]⟩) else (bif Nat.blt mi 154 then (bif Nat.beq mi 153 then cJ0_indexOf_7cf53 else ⟨#[]⟩) else (bif Nat.beq mi 154 then cJ0_coder_7d493 else ⟨#[]⟩)))) else (bif Nat.blt mi 158 then (bif Nat.blt mi 156 then (bif Nat.beq mi 155 then cJ0_isLatin1_aae02 else ⟨#[]⟩) else (bif Nat.blt mi 157 then (bif Nat.beq mi 156 then cJ0_checkIndex_df160 else ⟨#[]⟩) else (bif Nat.beq mi 157 then cJ0_checkBoundsBeginEnd_23922 else ⟨#[]⟩))) else (bif Nat.blt mi 159 then (bif Nat.beq mi 158 then cJ1_charAt_3b067 else ⟨#[]⟩) else (bif Nat.blt mi 160 then (bif Nat.beq mi 159 then cJ1_canEncode_9a6ad else ⟨#[]⟩) else (bif Nat.beq mi 160 then cJ1_indexOf_4cfef else ⟨#[]⟩))))) else (bif Nat.blt mi 167 then (bif Nat.blt mi 164 then (bif Nat.blt mi 162 then (bif Nat.beq mi 161 then cJ1_indexOfChar_4cfef else ⟨#[]⟩) else (bif Nat.blt mi 163 then (bif Nat.beq mi 162 then cJ2_getChar_3b067 else ⟨#[]⟩) else (bif Nat.beq mi 163 then cJ2_length_9d52b else ⟨#[]⟩))) else (bif Nat.blt mi 165 then (bif Nat.beq mi 164 then cJ2_indexOf_4cfef else ⟨#[]⟩) else (bif Nat.blt mi 166 then (bif Nat.beq mi 165 then cJ2_indexOfChar_4cfef else ⟨#[]⟩) else (bif Nat.beq mi 166 then cJ2_indexOfCharUnsafe_4cfef else ⟨#[]⟩)))) else (bif Nat.blt mi 170 then (bif Nat.blt mi 168 then (bif Nat.beq mi 167 then cJ2_indexOfSupplementary_4cfef else ⟨#[]⟩) else (bif Nat.blt mi 169 then (bif Nat.beq mi 168 then cJ2_charAt_3b067 else ⟨#[]⟩) else (bif Nat.beq mi 169 then cJ2_checkIndex_2214a else ⟨#[]⟩))) else (bif Nat.blt mi 172 then (bif Nat.blt mi 171 then (bif Nat.beq mi 170 then cJ2_checkBoundsBeginEnd_d044e else ⟨#[]⟩) else (bif Nat.beq mi 171 then cJ3_checkIndex_8e157 else ⟨#[]⟩)) else (bif Nat.blt mi 173 then (bif Nat.beq mi 172 then cJ3_checkFromToIndex_8c36e else ⟨#[]⟩) else (bif Nat.beq mi 173 then cL_cell else ⟨#[]⟩)))))) else (bif Nat.blt mi 186 then (bif Nat.blt mi 180 then (bif Nat.blt mi 177 then (bif Nat.blt mi 175 then (bif Nat.beq mi 174 then cL_heat else ⟨#[]⟩) else (bif Nat.blt mi 176 then (bif Nat.beq mi 175 then cL_visit else ⟨#[]⟩) else (bif Nat.beq mi 176 then cL_saw else ⟨#[]⟩))) else (bif Nat.blt mi 178 then (bif Nat.beq mi 177 then cL_lay else ⟨#[]⟩) else (bif Nat.blt mi 179 then (bif Nat.beq mi 178 then cL_take else ⟨#[]⟩) else (bif Nat.beq mi 179 then cL_pass else ⟨#[]⟩)))) else (bif Nat.blt mi 183 then (bif Nat.blt mi 181 then (bif Nat.beq mi 180 then cL_goneIn else ⟨#[]⟩) else (bif Nat.blt mi 182 then (bif Nat.beq mi 181 then cL_safe else ⟨#[]⟩) else (bif Nat.beq mi 182 then cL_worst else ⟨#[]⟩))) else (bif Nat.blt mi 184 then (bif Nat.beq mi 183 then cL_read else ⟨#[]⟩) else (bif Nat.blt mi 185 then (bif Nat.beq mi 184 then cL_undo else ⟨#[]⟩) else (bif Nat.beq mi 185 then cL_restore else ⟨#[]⟩))))) else (bif Nat.blt mi 192 then (bif Nat.blt mi 189 then (bif Nat.blt mi 187 then (bif Nat.beq mi 186 then cL_meanBits else ⟨#[]⟩) else (bif Nat.blt mi 188 then (bif Nat.beq mi 187 then cL_append else ⟨#[]⟩) else (bif Nat.beq mi 188 then cL_write else ⟨#[]⟩))) else (bif Nat.blt mi 190 then (bif Nat.beq mi 189 then cL_act else ⟨#[]⟩) else (bif Nat.blt mi 191 then (bif Nat.beq mi 190 then cL_digest else ⟨#[]⟩) else (bif Nat.beq mi 191 then cL_areBlocks else ⟨#[]⟩)))) else (bif Nat.blt mi 195 then (bif Nat.blt mi 193 then (bif Nat.beq mi 192 then cL_areLoads else ⟨#[]⟩) else (bif Nat.blt mi 194 then (bif Nat.beq mi 193 then cL_areRooms else ⟨#[]⟩) else (bif Nat.beq mi 194 then cL_isFit else ⟨#[]⟩))) else (bif Nat.blt mi 197 then (bif Nat.blt mi 196 then (bif Nat.beq mi 195 then cL_isAhead else ⟨#[]⟩) else (bif Nat.beq mi 196 then cL_isGone else ⟨#[]⟩)) else (bif Nat.blt mi 198 then (bif Nat.beq mi 197 then cL_isSafe else ⟨#[]⟩) else (bif Nat.beq mi 198 then cL_law else ⟨#[]⟩))))))))
def cM (mi : Nat) : Nat := bif Nat.blt mi 99 then (bif Nat.blt mi 49 then (bif Nat.blt mi 24 then (bif Nat.blt mi 12 then (bif Nat.blt mi 6 then (bif Nat.blt mi 3 then (bif Nat.blt mi 1 then (bif Nat.beq mi 0 then 1 else 0) else (bif Nat.blt mi 2 then (bif Nat.beq mi 1 then 3 else 0) else (bif Nat.beq mi 2 then 4 else 0))) else (bif Nat.blt mi 4 then (bif Nat.beq mi 3 then 3 else 0) else (bif Nat.blt mi 5 then (bif Nat.beq mi 4 then 5 else 0) else (bif Nat.beq mi 5 then 4 else 0)))) else (bif Nat.blt mi 9 then (bif Nat.blt mi 7 then (bif Nat.beq mi 6 then 4 else 0) else (bif Nat.blt mi 8 then (bif Nat.beq mi 7 then 3 else 0) else (bif Nat.beq mi 8 then 4 else 0))) else (bif Nat.blt mi 10 then (bif Nat.beq mi 9 then 4 else 0) else (bif Nat.blt mi 11 then (bif Nat.beq mi 10 then 7 else 0) else (bif Nat.beq mi 11 then 2 else 0))))) else (bif Nat.blt mi 18 then (bif Nat.blt mi 15 then (bif Nat.blt mi 13 then (bif Nat.beq mi 12 then 1 else 0) else (bif Nat.blt mi 14 then (bif Nat.beq mi 13 then 2 else 0) else (bif Nat.beq mi 14 then 2 else 0))) else (bif Nat.blt mi 16 then (bif Nat.beq mi 15 then 1 else 0) else (bif Nat.blt mi 17 then (bif Nat.beq mi 16 then 1 else 0) else (bif Nat.beq mi 17 then 7 else 0)))) else (bif Nat.blt mi 21 then (bif Nat.blt mi 19 then (bif Nat.beq mi 18 then 4 else 0) else (bif Nat.blt mi 20 then (bif Nat.beq mi 19 then 5 else 0) else (bif Nat.beq mi 20 then 6 else 0))) else (bif Nat.blt mi 22 then (bif Nat.beq mi 21 then 4 else 0) else (bif Nat.blt mi 23 then (bif Nat.beq mi 22 then 3 else 0) else (bif Nat.beq mi 23 then 4 else 0)))))) else (bif Nat.blt mi 36 then (bif Nat.blt mi 30 then (bif Nat.blt mi 27 then (bif Nat.blt mi 25 then (bif Nat.beq mi 24 then 4 else 0) else (bif Nat.blt mi 26 then (bif Nat.beq mi 25 then 1 else 0) else (bif Nat.beq mi 26 then 2 else 0))) else (bif Nat.blt mi 28 then (bif Nat.beq mi 27 then 3 else 0) else (bif Nat.blt mi 29 then (bif Nat.beq mi 28 then 4 else 0) else (bif Nat.beq mi 29 then 10 else 0)))) else (bif Nat.blt mi 33 then (bif Nat.blt mi 31 then (bif Nat.beq mi 30 then 2 else 0) else (bif Nat.blt mi 32 then (bif Nat.beq mi 31 then 9 else 0) else (bif Nat.beq mi 32 then 3 else 0))) else (bif Nat.blt mi 34 then (bif Nat.beq mi 33 then 7 else 0) else (bif Nat.blt mi 35 then (bif Nat.beq mi 34 then 1 else 0) else (bif Nat.beq mi 35 then 1 else 0))))) else (bif Nat.blt mi 42 then (bif Nat.blt mi 39 then (bif Nat.blt mi 37 then (bif Nat.beq mi 36 then 2 else 0) else (bif Nat.blt mi 38 then (bif Nat.beq mi 37 then 1 else 0) else (bif Nat.beq mi 38 then 1 else 0))) else (bif Nat.blt mi 40 then (bif Nat.beq mi 39 then 1 else 0) else (bif Nat.blt mi 41 then (bif Nat.beq mi 40 then 1 else 0) else (bif Nat.beq mi 41 then 2 else 0)))) else (bif Nat.blt mi 45 then (bif Nat.blt mi 43 then (bif Nat.beq mi 42 then 2 else 0) else (bif Nat.blt mi 44 then (bif Nat.beq mi 43 then 2 else 0) else (bif Nat.beq mi 44 then 2 else 0))) else (bif Nat.blt mi 47 then (bif Nat.blt mi 46 then (bif Nat.beq mi 45 then 3 else 0) else (bif Nat.beq mi 46 then 1 else 0)) else (bif Nat.blt mi 48 then (bif Nat.beq mi 47 then 4 else 0) else (bif Nat.beq mi 48 then 4 else 0))))))) else (bif Nat.blt mi 74 then (bif Nat.blt mi 61 then (bif Nat.blt mi 55 then (bif Nat.blt mi 52 then (bif Nat.blt mi 50 then (bif Nat.beq mi 49 then 3 else 0) else (bif Nat.blt mi 51 then (bif Nat.beq mi 50 then 4 else 0) else (bif Nat.beq mi 51 then 5 else 0))) else (bif Nat.blt mi 53 then (bif Nat.beq mi 52 then 2 else 0) else (bif Nat.blt mi 54 then (bif Nat.beq mi 53 then 5 else 0) else (bif Nat.beq mi 54 then 1 else 0)))) else (bif Nat.blt mi 58 then (bif Nat.blt mi 56 then (bif Nat.beq mi 55 then 3 else 0) else (bif Nat.blt mi 57 then (bif Nat.beq mi 56 then 3 else 0) else (bif Nat.beq mi 57 then 6 else 0))) else (bif Nat.blt mi 59 then (bif Nat.beq mi 58 then 4 else 0) else (bif Nat.blt mi 60 then (bif Nat.beq mi 59 then 4 else 0) else (bif Nat.beq mi 60 then 10 else 0))))) else (bif Nat.blt mi 67 then (bif Nat.blt mi 64 then (bif Nat.blt mi 62 then (bif Nat.beq mi 61 then 1 else 0) else (bif Nat.blt mi 63 then (bif Nat.beq mi 62 then 3 else 0) else (bif Nat.beq mi 63 then 2 else 0))) else (bif Nat.blt mi 65 then (bif Nat.beq mi 64 then 2 else 0) else (bif Nat.blt mi 66 then (bif Nat.beq mi 65 then 1 else 0) else (bif Nat.beq mi 66 then 1 else 0)))) else (bif Nat.blt mi 70 then (bif Nat.blt mi 68 then (bif Nat.beq mi 67 then 1 else 0) else (bif Nat.blt mi 69 then (bif Nat.beq mi 68 then 1 else 0) else (bif Nat.beq mi 69 then 2 else 0))) else (bif Nat.blt mi 72 then (bif Nat.blt mi 71 then (bif Nat.beq mi 70 then 2 else 0) else (bif Nat.beq mi 71 then 2 else 0)) else (bif Nat.blt mi 73 then (bif Nat.beq mi 72 then 2 else 0) else (bif Nat.beq mi 73 then 2 else 0)))))) else (bif Nat.blt mi 86 then (bif Nat.blt mi 80 then (bif Nat.blt mi 77 then (bif Nat.blt mi 75 then (bif Nat.beq mi 74 then 1 else 0) else (bif Nat.blt mi 76 then (bif Nat.beq mi 75 then 2 else 0) else (bif Nat.beq mi 76 then 3 else 0))) else (bif Nat.blt mi 78 then (bif Nat.beq mi 77 then 3 else 0) else (bif Nat.blt mi 79 then (bif Nat.beq mi 78 then 3 else 0) else (bif Nat.beq mi 79 then 6 else 0)))) else (bif Nat.blt mi 83 then (bif Nat.blt mi 81 then (bif Nat.beq mi 80 then 2 else 0) else (bif Nat.blt mi 82 then (bif Nat.beq mi 81 then 2 else 0) else (bif Nat.beq mi 82 then 5 else 0))) else (bif Nat.blt mi 84 then (bif Nat.beq mi 83 then 6 else 0) else (bif Nat.blt mi 85 then (bif Nat.beq mi 84 then 4 else 0) else (bif Nat.beq mi 85 then 3 else 0))))) else (bif Nat.blt mi 92 then (bif Nat.blt mi 89 then (bif Nat.blt mi 87 then (bif Nat.beq mi 86 then 3 else 0) else (bif Nat.blt mi 88 then (bif Nat.beq mi 87 then 5 else 0) else (bif Nat.beq mi 88 then 3 else 0))) else (bif Nat.blt mi 90 then (bif Nat.beq mi 89 then 2 else 0) else (bif Nat.blt mi 91 then (bif Nat.beq mi 90 then 2 else 0) else (bif Nat.beq mi 91 then 1 else 0)))) else (bif Nat.blt mi 95 then (bif Nat.blt mi 93 then (bif Nat.beq mi 92 then 4 else 0) else (bif Nat.blt mi 94 then (bif Nat.beq mi 93 then 4 else 0) else (bif Nat.beq mi 94 then 3 else 0))) else (bif Nat.blt mi 97 then (bif Nat.blt mi 96 then (bif Nat.beq mi 95 then 4 else 0) else (bif Nat.beq mi 96 then 1 else 0)) else (bif Nat.blt mi 98 then (bif Nat.beq mi 97 then 6 else 0) else (bif Nat.beq mi 98 then 6 else 0)))))))) else (bif Nat.blt mi 148 then (bif Nat.blt mi 123 then (bif Nat.blt mi 111 then (bif Nat.blt mi 105 then (bif Nat.blt mi 102 then (bif Nat.blt mi 100 then (bif Nat.beq mi 99 then 3 else 0) else (bif Nat.blt mi 101 then (bif Nat.beq mi 100 then 3 else 0) else (bif Nat.beq mi 101 then 5 else 0))) else (bif Nat.blt mi 103 then (bif Nat.beq mi 102 then 4 else 0) else (bif Nat.blt mi 104 then (bif Nat.beq mi 103 then 5 else 0) else (bif Nat.beq mi 104 then 8 else 0)))) else (bif Nat.blt mi 108 then (bif Nat.blt mi 106 then (bif Nat.beq mi 105 then 3 else 0) else (bif Nat.blt mi 107 then (bif Nat.beq mi 106 then 1 else 0) else (bif Nat.beq mi 107 then 3 else 0))) else (bif Nat.blt mi 109 then (bif Nat.beq mi 108 then 2 else 0) else (bif Nat.blt mi 110 then (bif Nat.beq mi 109 then 4 else 0) else (bif Nat.beq mi 110 then 4 else 0))))) else (bif Nat.blt mi 117 then (bif Nat.blt mi 114 then (bif Nat.blt mi 112 then (bif Nat.beq mi 111 then 2 else 0) else (bif Nat.blt mi 113 then (bif Nat.beq mi 112 then 2 else 0) else (bif Nat.beq mi 113 then 3 else 0))) else (bif Nat.blt mi 115 then (bif Nat.beq mi 114 then 2 else 0) else (bif Nat.blt mi 116 then (bif Nat.beq mi 115 then 3 else 0) else (bif Nat.beq mi 116 then 2 else 0)))) else (bif Nat.blt mi 120 then (bif Nat.blt mi 118 then (bif Nat.beq mi 117 then 3 else 0) else (bif Nat.blt mi 119 then (bif Nat.beq mi 118 then 2 else 0) else (bif Nat.beq mi 119 then 3 else 0))) else (bif Nat.blt mi 121 then (bif Nat.beq mi 120 then 2 else 0) else (bif Nat.blt mi 122 then (bif Nat.beq mi 121 then 3 else 0) else (bif Nat.beq mi 122 then 3 else 0)))))) else (bif Nat.blt mi 135 then (bif Nat.blt mi 129 then (bif Nat.blt mi 126 then (bif Nat.blt mi 124 then (bif Nat.beq mi 123 then 2 else 0) else (bif Nat.blt mi 125 then (bif Nat.beq mi 124 then 2 else 0) else (bif Nat.beq mi 125 then 3 else 0))) else (bif Nat.blt mi 127 then (bif Nat.beq mi 126 then 2 else 0) else (bif Nat.blt mi 128 then (bif Nat.beq mi 127 then 2 else 0) else (bif Nat.beq mi 128 then 2 else 0)))) else (bif Nat.blt mi 132 then (bif Nat.blt mi 130 then (bif Nat.beq mi 129 then 4 else 0) else (bif Nat.blt mi 131 then (bif Nat.beq mi 130 then 1 else 0) else (bif Nat.beq mi 131 then 2 else 0))) else (bif Nat.blt mi 133 then (bif Nat.beq mi 132 then 1 else 0) else (bif Nat.blt mi 134 then (bif Nat.beq mi 133 then 2 else 0) else (bif Nat.beq mi 134 then 1 else 0))))) else (bif Nat.blt mi 141 then (bif Nat.blt mi 138 then (bif Nat.blt mi 136 then (bif Nat.beq mi 135 then 1 else 0) else (bif Nat.blt mi 137 then (bif Nat.beq mi 136 then 1 else 0) else (bif Nat.beq mi 137 then 2 else 0))) else (bif Nat.blt mi 139 then (bif Nat.beq mi 138 then 2 else 0) else (bif Nat.blt mi 140 then (bif Nat.beq mi 139 then 2 else 0) else (bif Nat.beq mi 140 then 2 else 0)))) else (bif Nat.blt mi 144 then (bif Nat.blt mi 142 then (bif Nat.beq mi 141 then 2 else 0) else (bif Nat.blt mi 143 then (bif Nat.beq mi 142 then 2 else 0) else (bif Nat.beq mi 143 then 1 else 0))) else (bif Nat.blt mi 146 then (bif Nat.blt mi 145 then (bif Nat.beq mi 144 then 1 else 0) else (bif Nat.beq mi 145 then 2 else 0)) else (bif Nat.blt mi 147 then (bif Nat.beq mi 146 then 2 else 0) else (bif Nat.beq mi 147 then 3 else 0))))))) else (bif Nat.blt mi 173 then (bif Nat.blt mi 160 then (bif Nat.blt mi 154 then (bif Nat.blt mi 151 then (bif Nat.blt mi 149 then (bif Nat.beq mi 148 then 2 else 0) else (bif Nat.blt mi 150 then (bif Nat.beq mi 149 then 2 else 0) else (bif Nat.beq mi 150 then 1 else 0))) else (bif Nat.blt mi 152 then (bif Nat.beq mi 151 then 2 else 0) else (bif Nat.blt mi 153 then (bif Nat.beq mi 152 then 2 else 0) else (bif Nat.beq mi 153 then 3 else 0)))) else (bif Nat.blt mi 157 then (bif Nat.blt mi 155 then (bif Nat.beq mi 154 then 1 else 0) else (bif Nat.blt mi 156 then (bif Nat.beq mi 155 then 1 else 0) else (bif Nat.beq mi 156 then 2 else 0))) else (bif Nat.blt mi 158 then (bif Nat.beq mi 157 then 3 else 0) else (bif Nat.blt mi 159 then (bif Nat.beq mi 158 then 2 else 0) else (bif Nat.beq mi 159 then 1 else 0))))) else (bif Nat.blt mi 166 then (bif Nat.blt mi 163 then (bif Nat.blt mi 161 then (bif Nat.beq mi 160 then 4 else 0) else (bif Nat.blt mi 162 then (bif Nat.beq mi 161 then 6 else 0) else (bif Nat.beq mi 162 then 2 else 0))) else (bif Nat.blt mi 164 then (bif Nat.beq mi 163 then 1 else 0) else (bif Nat.blt mi 165 then (bif Nat.beq mi 164 then 4 else 0) else (bif Nat.beq mi 165 then 4 else 0)))) else (bif Nat.blt mi 169 then (bif Nat.blt mi 167 then (bif Nat.beq mi 166 then 5 else 0) else (bif Nat.blt mi 168 then (bif Nat.beq mi 167 then 7 else 0) else (bif Nat.beq mi 168 then 2 else 0))) else (bif Nat.blt mi 171 then (bif Nat.blt mi 170 then (bif Nat.beq mi 169 then 2 else 0) else (bif Nat.beq mi 170 then 3 else 0)) else (bif Nat.blt mi 172 then (bif Nat.beq mi 171 then 3 else 0) else (bif Nat.beq mi 172 then 4 else 0)))))) else (bif Nat.blt mi 185 then (bif Nat.blt mi 179 then (bif Nat.blt mi 176 then (bif Nat.blt mi 174 then (bif Nat.beq mi 173 then 2 else 0) else (bif Nat.blt mi 175 then (bif Nat.beq mi 174 then 5 else 0) else (bif Nat.beq mi 175 then 4 else 0))) else (bif Nat.blt mi 177 then (bif Nat.beq mi 176 then 6 else 0) else (bif Nat.blt mi 178 then (bif Nat.beq mi 177 then 6 else 0) else (bif Nat.beq mi 178 then 4 else 0)))) else (bif Nat.blt mi 182 then (bif Nat.blt mi 180 then (bif Nat.beq mi 179 then 4 else 0) else (bif Nat.blt mi 181 then (bif Nat.beq mi 180 then 3 else 0) else (bif Nat.beq mi 181 then 3 else 0))) else (bif Nat.blt mi 183 then (bif Nat.beq mi 182 then 3 else 0) else (bif Nat.blt mi 184 then (bif Nat.beq mi 183 then 3 else 0) else (bif Nat.beq mi 184 then 3 else 0))))) else (bif Nat.blt mi 191 then (bif Nat.blt mi 188 then (bif Nat.blt mi 186 then (bif Nat.beq mi 185 then 3 else 0) else (bif Nat.blt mi 187 then (bif Nat.beq mi 186 then 4 else 0) else (bif Nat.beq mi 187 then 3 else 0))) else (bif Nat.blt mi 189 then (bif Nat.beq mi 188 then 3 else 0) else (bif Nat.blt mi 190 then (bif Nat.beq mi 189 then 6 else 0) else (bif Nat.beq mi 190 then 4 else 0)))) else (bif Nat.blt mi 194 then (bif Nat.blt mi 192 then (bif Nat.beq mi 191 then 10 else 0) else (bif Nat.blt mi 193 then (bif Nat.beq mi 192 then 9 else 0) else (bif Nat.beq mi 193 then 8 else 0))) else (bif Nat.blt mi 196 then (bif Nat.blt mi 195 then (bif Nat.beq mi 194 then 3 else 0) else (bif Nat.beq mi 195 then 9 else 0)) else (bif Nat.blt mi 197 then (bif Nat.beq mi 196 then 3 else 0) else (bif Nat.beq mi 197 then 8 else 0))))))))
def cR (mi : Nat) : Option FieldType := bif Nat.blt mi 99 then (bif Nat.blt mi 49 then (bif Nat.blt mi 24 then (bif Nat.blt mi 12 then (bif Nat.blt mi 6 then (bif Nat.blt mi 3 then (bif Nat.blt mi 1 then (bif Nat.beq mi 0 then none else none) else (bif Nat.blt mi 2 then (bif Nat.beq mi 1 then (some .int) else none) else (bif Nat.beq mi 2 then (some .int) else none))) else (bif Nat.blt mi 4 then (bif Nat.beq mi 3 then (some .int) else none) else (bif Nat.blt mi 5 then (bif Nat.beq mi 4 then (some .boolean) else none) else (bif Nat.beq mi 5 then (some .boolean) else none)))) else (bif Nat.blt mi 9 then (bif Nat.blt mi 7 then (bif Nat.beq mi 6 then (some .boolean) else none) else (bif Nat.blt mi 8 then (bif Nat.beq mi 7 then (some .boolean) else none) else (bif Nat.beq mi 8 then (some .int) else none))) else (bif Nat.blt mi 10 then (bif Nat.beq mi 9 then (some .int) else none) else (bif Nat.blt mi 11 then (bif Nat.beq mi 10 then (some .long) else none) else (bif Nat.beq mi 11 then none else none))))) else (bif Nat.blt mi 18 then (bif Nat.blt mi 15 then (bif Nat.blt mi 13 then (bif Nat.beq mi 12 then (some .int) else none) else (bif Nat.blt mi 14 then (bif Nat.beq mi 13 then none else none) else (bif Nat.beq mi 14 then none else none))) else (bif Nat.blt mi 16 then (bif Nat.beq mi 15 then none else none) else (bif Nat.blt mi 17 then (bif Nat.beq mi 16 then none else none) else (bif Nat.beq mi 17 then (some .int) else none)))) else (bif Nat.blt mi 21 then (bif Nat.blt mi 19 then (bif Nat.beq mi 18 then none else none) else (bif Nat.blt mi 20 then (bif Nat.beq mi 19 then none else none) else (bif Nat.beq mi 20 then none else none))) else (bif Nat.blt mi 22 then (bif Nat.beq mi 21 then none else none) else (bif Nat.blt mi 23 then (bif Nat.beq mi 22 then none else none) else (bif Nat.beq mi 23 then none else none)))))) else (bif Nat.blt mi 36 then (bif Nat.blt mi 30 then (bif Nat.blt mi 27 then (bif Nat.blt mi 25 then (bif Nat.beq mi 24 then none else none) else (bif Nat.blt mi 26 then (bif Nat.beq mi 25 then none else none) else (bif Nat.beq mi 26 then (some .float) else none))) else (bif Nat.blt mi 28 then (bif Nat.beq mi 27 then (some .float) else none) else (bif Nat.blt mi 29 then (bif Nat.beq mi 28 then none else none) else (bif Nat.beq mi 29 then none else none)))) else (bif Nat.blt mi 33 then (bif Nat.blt mi 31 then (bif Nat.beq mi 30 then (some .float) else none) else (bif Nat.blt mi 32 then (bif Nat.beq mi 31 then (some .float) else none) else (bif Nat.beq mi 32 then (some .int) else none))) else (bif Nat.blt mi 34 then (bif Nat.beq mi 33 then (some .int) else none) else (bif Nat.blt mi 35 then (bif Nat.beq mi 34 then none else none) else (bif Nat.beq mi 35 then (some .boolean) else none))))) else (bif Nat.blt mi 42 then (bif Nat.blt mi 39 then (bif Nat.blt mi 37 then (bif Nat.beq mi 36 then none else none) else (bif Nat.blt mi 38 then (bif Nat.beq mi 37 then none else none) else (bif Nat.beq mi 38 then (some .int) else none))) else (bif Nat.blt mi 40 then (bif Nat.beq mi 39 then (some .int) else none) else (bif Nat.blt mi 41 then (bif Nat.beq mi 40 then (some .int) else none) else (bif Nat.beq mi 41 then (some .char) else none)))) else (bif Nat.blt mi 45 then (bif Nat.blt mi 43 then (bif Nat.beq mi 42 then (some .int) else none) else (bif Nat.blt mi 44 then (bif Nat.beq mi 43 then (some .int) else none) else (bif Nat.beq mi 44 then (some .int) else none))) else (bif Nat.blt mi 47 then (bif Nat.blt mi 46 then (bif Nat.beq mi 45 then (some .boolean) else none) else (bif Nat.beq mi 46 then (some .boolean) else none)) else (bif Nat.blt mi 48 then (bif Nat.beq mi 47 then (some .boolean) else none) else (bif Nat.beq mi 48 then (some .boolean) else none))))))) else (bif Nat.blt mi 74 then (bif Nat.blt mi 61 then (bif Nat.blt mi 55 then (bif Nat.blt mi 52 then (bif Nat.blt mi 50 then (bif Nat.beq mi 49 then (some .boolean) else none) else (bif Nat.blt mi 51 then (bif Nat.beq mi 50 then (some .boolean) else none) else (bif Nat.beq mi 51 then (some .boolean) else none))) else (bif Nat.blt mi 53 then (bif Nat.beq mi 52 then (some .boolean) else none) else (bif Nat.blt mi 54 then (bif Nat.beq mi 53 then (some .int) else none) else (bif Nat.beq mi 54 then none else none)))) else (bif Nat.blt mi 58 then (bif Nat.blt mi 56 then (bif Nat.beq mi 55 then (some .int) else none) else (bif Nat.blt mi 57 then (bif Nat.beq mi 56 then none else none) else (bif Nat.beq mi 57 then (some .boolean) else none))) else (bif Nat.blt mi 59 then (bif Nat.beq mi 58 then (some .boolean) else none) else (bif Nat.blt mi 60 then (bif Nat.beq mi 59 then (some .boolean) else none) else (bif Nat.beq mi 60 then (some .int) else none))))) else (bif Nat.blt mi 67 then (bif Nat.blt mi 64 then (bif Nat.blt mi 62 then (bif Nat.beq mi 61 then none else none) else (bif Nat.blt mi 63 then (bif Nat.beq mi 62 then none else none) else (bif Nat.beq mi 63 then none else none))) else (bif Nat.blt mi 65 then (bif Nat.beq mi 64 then none else none) else (bif Nat.blt mi 66 then (bif Nat.beq mi 65 then (some .boolean) else none) else (bif Nat.beq mi 66 then (some .boolean) else none)))) else (bif Nat.blt mi 70 then (bif Nat.blt mi 68 then (bif Nat.beq mi 67 then (some .boolean) else none) else (bif Nat.blt mi 69 then (bif Nat.beq mi 68 then (some .boolean) else none) else (bif Nat.beq mi 69 then (some .boolean) else none))) else (bif Nat.blt mi 72 then (bif Nat.blt mi 71 then (bif Nat.beq mi 70 then (some .boolean) else none) else (bif Nat.beq mi 71 then (some .boolean) else none)) else (bif Nat.blt mi 73 then (bif Nat.beq mi 72 then (some .boolean) else none) else (bif Nat.beq mi 73 then (some .float) else none)))))) else (bif Nat.blt mi 86 then (bif Nat.blt mi 80 then (bif Nat.blt mi 77 then (bif Nat.blt mi 75 then (bif Nat.beq mi 74 then (some .int) else none) else (bif Nat.blt mi 76 then (bif Nat.beq mi 75 then (some .int) else none) else (bif Nat.beq mi 76 then (some .int) else none))) else (bif Nat.blt mi 78 then (bif Nat.beq mi 77 then (some .int) else none) else (bif Nat.blt mi 79 then (bif Nat.beq mi 78 then (some .int) else none) else (bif Nat.beq mi 79 then (some .int) else none)))) else (bif Nat.blt mi 83 then (bif Nat.blt mi 81 then (bif Nat.beq mi 80 then (some .int) else none) else (bif Nat.blt mi 82 then (bif Nat.beq mi 81 then (some .boolean) else none) else (bif Nat.beq mi 82 then (some .int) else none))) else (bif Nat.blt mi 84 then (bif Nat.beq mi 83 then (some .int) else none) else (bif Nat.blt mi 85 then (bif Nat.beq mi 84 then none else none) else (bif Nat.beq mi 85 then none else none))))) else (bif Nat.blt mi 92 then (bif Nat.blt mi 89 then (bif Nat.blt mi 87 then (bif Nat.beq mi 86 then none else none) else (bif Nat.blt mi 88 then (bif Nat.beq mi 87 then none else none) else (bif Nat.beq mi 88 then (some .int) else none))) else (bif Nat.blt mi 90 then (bif Nat.beq mi 89 then (some .char) else none) else (bif Nat.blt mi 91 then (bif Nat.beq mi 90 then (some .int) else none) else (bif Nat.beq mi 91 then (some .int) else none)))) else (bif Nat.blt mi 95 then (bif Nat.blt mi 93 then (bif Nat.beq mi 92 then (some .int) else none) else (bif Nat.blt mi 94 then (bif Nat.beq mi 93 then (some .int) else none) else (bif Nat.beq mi 94 then (some .int) else none))) else (bif Nat.blt mi 97 then (bif Nat.blt mi 96 then (bif Nat.beq mi 95 then (some .double) else none) else (bif Nat.beq mi 96 then none else none)) else (bif Nat.blt mi 98 then (bif Nat.beq mi 97 then (some .int) else none) else (bif Nat.beq mi 98 then (some .int) else none)))))))) else (bif Nat.blt mi 148 then (bif Nat.blt mi 123 then (bif Nat.blt mi 111 then (bif Nat.blt mi 105 then (bif Nat.blt mi 102 then (bif Nat.blt mi 100 then (bif Nat.beq mi 99 then (some .int) else none) else (bif Nat.blt mi 101 then (bif Nat.beq mi 100 then (some .int) else none) else (bif Nat.beq mi 101 then (some .int) else none))) else (bif Nat.blt mi 103 then (bif Nat.beq mi 102 then (some .int) else none) else (bif Nat.blt mi 104 then (bif Nat.beq mi 103 then (some .int) else none) else (bif Nat.beq mi 104 then (some .int) else none)))) else (bif Nat.blt mi 108 then (bif Nat.blt mi 106 then (bif Nat.beq mi 105 then (some .int) else none) else (bif Nat.blt mi 107 then (bif Nat.beq mi 106 then none else none) else (bif Nat.beq mi 107 then (some .int) else none))) else (bif Nat.blt mi 109 then (bif Nat.beq mi 108 then (some .int) else none) else (bif Nat.blt mi 110 then (bif Nat.beq mi 109 then (some .int) else none) else (bif Nat.beq mi 110 then (some .int) else none))))) else (bif Nat.blt mi 117 then (bif Nat.blt mi 114 then (bif Nat.blt mi 112 then (bif Nat.beq mi 111 then (some .int) else none) else (bif Nat.blt mi 113 then (bif Nat.beq mi 112 then (some .int) else none) else (bif Nat.beq mi 113 then (some .int) else none))) else (bif Nat.blt mi 115 then (bif Nat.beq mi 114 then (some .float) else none) else (bif Nat.blt mi 116 then (bif Nat.beq mi 115 then (some .int) else none) else (bif Nat.beq mi 116 then (some .int) else none)))) else (bif Nat.blt mi 120 then (bif Nat.blt mi 118 then (bif Nat.beq mi 117 then (some .int) else none) else (bif Nat.blt mi 119 then (bif Nat.beq mi 118 then (some .int) else none) else (bif Nat.beq mi 119 then (some .boolean) else none))) else (bif Nat.blt mi 121 then (bif Nat.beq mi 120 then (some .char) else none) else (bif Nat.blt mi 122 then (bif Nat.beq mi 121 then (some .int) else none) else (bif Nat.beq mi 122 then (some .int) else none)))))) else (bif Nat.blt mi 135 then (bif Nat.blt mi 129 then (bif Nat.blt mi 126 then (bif Nat.blt mi 124 then (bif Nat.beq mi 123 then (some .int) else none) else (bif Nat.blt mi 125 then (bif Nat.beq mi 124 then (some .int) else none) else (bif Nat.beq mi 125 then (some .int) else none))) else (bif Nat.blt mi 127 then (bif Nat.beq mi 126 then (some .int) else none) else (bif Nat.blt mi 128 then (bif Nat.beq mi 127 then (some .int) else none) else (bif Nat.beq mi 128 then (some .int) else none)))) else (bif Nat.blt mi 132 then (bif Nat.blt mi 130 then (bif Nat.beq mi 129 then (some .int) else none) else (bif Nat.blt mi 131 then (bif Nat.beq mi 130 then (some .int) else none) else (bif Nat.beq mi 131 then (some .int) else none))) else (bif Nat.blt mi 133 then (bif Nat.beq mi 132 then (some .boolean) else none) else (bif Nat.blt mi 134 then (bif Nat.beq mi 133 then (some .long) else none) else (bif Nat.beq mi 134 then (some .int) else none))))) else (bif Nat.blt mi 141 then (bif Nat.blt mi 138 then (bif Nat.blt mi 136 then (bif Nat.beq mi 135 then (some .int) else none) else (bif Nat.blt mi 137 then (bif Nat.beq mi 136 then (some .int) else none) else (bif Nat.beq mi 137 then none else none))) else (bif Nat.blt mi 139 then (bif Nat.beq mi 138 then none else none) else (bif Nat.blt mi 140 then (bif Nat.beq mi 139 then none else none) else (bif Nat.beq mi 140 then none else none)))) else (bif Nat.blt mi 144 then (bif Nat.blt mi 142 then (bif Nat.beq mi 141 then none else none) else (bif Nat.blt mi 143 then (bif Nat.beq mi 142 then (some .boolean) else none) else (bif Nat.beq mi 143 then (some .char) else none))) else (bif Nat.blt mi 146 then (bif Nat.blt mi 145 then (bif Nat.beq mi 144 then (some .char) else none) else (bif Nat.beq mi 145 then (some .boolean) else none)) else (bif Nat.blt mi 147 then (bif Nat.beq mi 146 then (some .long) else none) else (bif Nat.beq mi 147 then (some .int) else none))))))) else (bif Nat.blt mi 173 then (bif Nat.blt mi 160 then (bif Nat.blt mi 154 then (bif Nat.blt mi 151 then (bif Nat.blt mi 149 then (bif Nat.beq mi 148 then (some .int) else none) else (bif Nat.blt mi 150 then (bif Nat.beq mi 149 then (some .int) else none) else (bif Nat.beq mi 150 then (some .int) else none))) else (bif Nat.blt mi 152 then (bif Nat.beq mi 151 then (some .char) else none) else (bif Nat.blt mi 153 then (bif Nat.beq mi 152 then (some .int) else none) else (bif Nat.beq mi 153 then (some .int) else none)))) else (bif Nat.blt mi 157 then (bif Nat.blt mi 155 then (bif Nat.beq mi 154 then (some .byte) else none) else (bif Nat.blt mi 156 then (bif Nat.beq mi 155 then (some .boolean) else none) else (bif Nat.beq mi 156 then none else none))) else (bif Nat.blt mi 158 then (bif Nat.beq mi 157 then none else none) else (bif Nat.blt mi 159 then (bif Nat.beq mi 158 then (some .char) else none) else (bif Nat.beq mi 159 then (some .boolean) else none))))) else (bif Nat.blt mi 166 then (bif Nat.blt mi 163 then (bif Nat.blt mi 161 then (bif Nat.beq mi 160 then (some .int) else none) else (bif Nat.blt mi 162 then (bif Nat.beq mi 161 then (some .int) else none) else (bif Nat.beq mi 162 then (some .char) else none))) else (bif Nat.blt mi 164 then (bif Nat.beq mi 163 then (some .int) else none) else (bif Nat.blt mi 165 then (bif Nat.beq mi 164 then (some .int) else none) else (bif Nat.beq mi 165 then (some .int) else none)))) else (bif Nat.blt mi 169 then (bif Nat.blt mi 167 then (bif Nat.beq mi 166 then (some .int) else none) else (bif Nat.blt mi 168 then (bif Nat.beq mi 167 then (some .int) else none) else (bif Nat.beq mi 168 then (some .char) else none))) else (bif Nat.blt mi 171 then (bif Nat.blt mi 170 then (bif Nat.beq mi 169 then none else none) else (bif Nat.beq mi 170 then none else none)) else (bif Nat.blt mi 172 then (bif Nat.beq mi 171 then (some .int) else none) else (bif Nat.beq mi 172 then (some .int) else none)))))) else (bif Nat.blt mi 185 then (bif Nat.blt mi 179 then (bif Nat.blt mi 176 then (bif Nat.blt mi 174 then (bif Nat.beq mi 173 then (some .int) else none) else (bif Nat.blt mi 175 then (bif Nat.beq mi 174 then (some .int) else none) else (bif Nat.beq mi 175 then (some .int) else none))) else (bif Nat.blt mi 177 then (bif Nat.beq mi 176 then (some .int) else none) else (bif Nat.blt mi 178 then (bif Nat.beq mi 177 then (some .int) else none) else (bif Nat.beq mi 178 then (some .int) else none)))) else (bif Nat.blt mi 182 then (bif Nat.blt mi 180 then (bif Nat.beq mi 179 then (some .int) else none) else (bif Nat.blt mi 181 then (bif Nat.beq mi 180 then (some .int) else none) else (bif Nat.beq mi 181 then (some .int) else none))) else (bif Nat.blt mi 183 then (bif Nat.beq mi 182 then (some .int) else none) else (bif Nat.blt mi 184 then (bif Nat.beq mi 183 then (some .int) else none) else (bif Nat.beq mi 184 then (some .int) else none))))) else (bif Nat.blt mi 191 then (bif Nat.blt mi 188 then (bif Nat.blt mi 186 then (bif Nat.beq mi 185 then (some .int) else none) else (bif Nat.blt mi 187 then (bif Nat.beq mi 186 then (some .long) else none) else (bif Nat.beq mi 187 then (some .boolean) else none))) else (bif Nat.blt mi 189 then (bif Nat.beq mi 188 then (some (.object "SawnIce")) else none) else (bif Nat.blt mi 190 then (bif Nat.beq mi 189 then (some .int) else none) else (bif Nat.beq mi 190 then (some .long) else none)))) else (bif Nat.blt mi 194 then (bif Nat.blt mi 192 then (bif Nat.beq mi 191 then (some .boolean) else none) else (bif Nat.blt mi 193 then (bif Nat.beq mi 192 then (some .boolean) else none) else (bif Nat.beq mi 193 then (some .boolean) else none))) else (bif Nat.blt mi 196 then (bif Nat.blt mi 195 then (bif Nat.beq mi 194 then (some .boolean) else none) else (bif Nat.beq mi 195 then (some .boolean) else none)) else (bif Nat.blt mi 197 then (bif Nat.beq mi 196 then (some .boolean) else none) else (bif Nat.beq mi 197 then (some .boolean) else none))))))))
abbrev vcls : List vw_C := [(RX0, TX0, 2), (RX3, TX3, 3), (RX4, TX4, 2), (RX5, TX5, 1), (RX6, TX6, 9), (RX7, TX7, 1), (RX8, TX8, 17), (RX9, TX9, 3), (RX10, TX10, 10)]
abbrev mX0_init : Nat := 0
abbrev mX0_hoursToFirstGone : Nat := 1
abbrev mX0_bitsOfMass : Nat := 2
abbrev mX0_blocksOnWall : Nat := 3
abbrev mX0_isSafeFor : Nat := 4
abbrev mX1_isAllWell : Nat := 5
abbrev mX1_isSomewhere : Nat := 6
abbrev mX1_isFirm : Nat := 7
abbrev mX1_countIn : Nat := 8
abbrev mX2_ofFloat : Nat := 9
abbrev mX2_ofDouble : Nat := 10
abbrev mX3_init : Nat := 11
abbrev mX3_number : Nat := 12
abbrev mX3_remember : Nat := 13
abbrev mX3_goBack : Nat := 14
abbrev mX3_forget : Nat := 15
abbrev mX4_init : Nat := 16
abbrev mX4_letGoBy : Nat := 17
abbrev mX4_changeIce : Nat := 18
abbrev mX4_changeJoints : Nat := 19
abbrev mX4_melt : Nat := 20
abbrev mX4_warm : Nat := 21
abbrev mX4_removeMelted : Nat := 22
abbrev mX4_dropUnsupported : Nat := 23
abbrev mX4_breakOverloaded : Nat := 24
abbrev mX5_init : Nat := 25
abbrev mX5_loadOf : Nat := 26
abbrev mX5_borneBy : Nat := 27
abbrev mX5_sumUp : Nat := 28
abbrev mX5_handDown : Nat := 29
abbrev mX5_loadFromAbove : Nat := 30
abbrev mX5_sumFromAbove : Nat := 31
abbrev mX5_firstOverloaded : Nat := 32
abbrev mX5_mostBurdened : Nat := 33
abbrev mX6_init : Nat := 34
abbrev mX6_hasSpace : Nat := 35
abbrev mX6_add : Nat := 36
abbrev mX6_empty : Nat := 37
abbrev mX6_inputLength : Nat := 38
abbrev mX6_errorOffset : Nat := 39
abbrev mX6_number : Nat := 40
abbrev mX6_signOf : Nat := 41
abbrev mX6_firstOf : Nat := 42
abbrev mX6_secondOf : Nat := 43
abbrev mX6_thirdOf : Nat := 44
abbrev mX6_understand : Nat := 45
abbrev mX6_readOrder : Nat := 46
abbrev mX6_readSawing : Nat := 47
abbrev mX6_readLaying : Nat := 48
abbrev mX6_readNumber : Nat := 49
abbrev mX6_readTemperature : Nat := 50
abbrev mX6_note : Nat := 51
abbrev mX6_goPast : Nat := 52
abbrev mX6_digits : Nat := 53
abbrev mX7_init : Nat := 54
abbrev mX7_heightOf : Nat := 55
abbrev mX7_measure : Nat := 56
abbrev mX7_isInShadow : Nat := 57
abbrev mX7_isShadedFromLeft : Nat := 58
abbrev mX7_isShadedFromRight : Nat := 59
abbrev mX7_roomNumber : Nat := 60
abbrev mX8_init : Nat := 61
abbrev mX8_fill : Nat := 62
abbrev mX8_copyRow : Nat := 63
abbrev mX8_copyFrom : Nat := 64
abbrev mX8_isColumn : Nat := 65
abbrev mX8_isCourse : Nat := 66
abbrev mX8_isHour : Nat := 67
abbrev mX8_isRack : Nat := 68
abbrev mX8_isSawn : Nat := 69
abbrev mX8_isOnWall : Nat := 70
abbrev mX8_isInRack : Nat := 71
abbrev mX8_isGone : Nat := 72
abbrev mX8_massOf : Nat := 73
abbrev mX8_hourOfDay : Nat := 74
abbrev mX8_temperatureAt : Nat := 75
abbrev mX8_blockAt : Nat := 76
abbrev mX8_blockInRack : Nat := 77
abbrev mX8_freePlace : Nat := 78
abbrev mX8_supportedColumns : Nat := 79
abbrev mX8_supportOf : Nat := 80
abbrev mX8_isSupported : Nat := 81
abbrev mX8_sharedColumns : Nat := 82
abbrev mX8_addBlock : Nat := 83
abbrev mX8_putOnWall : Nat := 84
abbrev mX8_remove : Nat := 85
abbrev mX8_leaveRack : Nat := 86
abbrev mX8_markColumns : Nat := 87
abbrev mX8_numberOf : Nat := 88
abbrev mX8_signOf : Nat := 89
abbrev mX8_accountOf : Nat := 90
abbrev mX8_countOnWall : Nat := 91
abbrev mX8_countStates : Nat := 92
abbrev mX8_countCauses : Nat := 93
abbrev mX8_countFilledColumns : Nat := 94
abbrev mX8_sumOfMasses : Nat := 95
abbrev mX9_init : Nat := 96
abbrev mX9_faultOf : Nat := 97
abbrev mX9_perform : Nat := 98
abbrev mX9_refuse : Nat := 99
abbrev mX9_faultOfTemperature : Nat := 100
abbrev mX9_setTemperature : Nat := 101
abbrev mX9_setVisitors : Nat := 102
abbrev mX9_faultOfSawing : Nat := 103
abbrev mX9_faultOfLaying : Nat := 104
abbrev mX9_faultOfTaking : Nat := 105
abbrev mX10_init : Nat := 106
abbrev mX10_heat : Nat := 107
abbrev mX10_visit : Nat := 108
abbrev mX10_saw : Nat := 109
abbrev mX10_lay : Nat := 110
abbrev mX10_take : Nat := 111
abbrev mX10_pass : Nat := 112
abbrev mX10_blockOf : Nat := 113
abbrev mX10_mass : Nat := 114
abbrev mX10_load : Nat := 115
abbrev mX10_loadAgain : Nat := 116
abbrev mX10_at : Nat := 117
abbrev mX10_height : Nat := 118
abbrev mX10_isShady : Nat := 119
abbrev mX10_sign : Nat := 120
abbrev mX10_rooms : Nat := 121
abbrev mX10_inRack : Nat := 122
abbrev mX10_worst : Nat := 123
abbrev mX10_goneIn : Nat := 124
abbrev mX10_massBits : Nat := 125
abbrev mX10_safe : Nat := 126
abbrev mX10_left : Nat := 127
abbrev mX10_append : Nat := 128
abbrev mX10_read : Nat := 129
abbrev mX10_errorPosition : Nat := 130
abbrev mX10_account : Nat := 131
abbrev mX10_isWell : Nat := 132
abbrev mX10_meanBits : Nat := 133
abbrev mX10_undo : Nat := 134
abbrev mX10_save : Nat := 135
abbrev mX10_restore : Nat := 136
abbrev mX10_permit : Nat := 137
abbrev mX10_requireSawn : Nat := 138
abbrev mX10_requireOnWall : Nat := 139
abbrev mX10_requireHoursAhead : Nat := 140
abbrev mJx00060_init_a7421 : Nat := 141
abbrev mJ11_isValidCodePoint_9a6ad : Nat := 142
abbrev mJ11_highSurrogate_5068e : Nat := 143
abbrev mJ11_lowSurrogate_5068e : Nat := 144
abbrev mJxe99ae_isNaN_b9ae7 : Nat := 145
abbrev mJxe99ae_doubleToLongBits_ccdee : Nat := 146
abbrev mJ9_floorMod_7cf53 : Nat := 147
abbrev mJ9_max_7cf53 : Nat := 148
abbrev mJ9_min_7cf53 : Nat := 149
abbrev mJ0_length_8abf5 : Nat := 150
abbrev mJ0_charAt_5068e : Nat := 151
abbrev mJ0_indexOf_0f7a4 : Nat := 152
abbrev mJ0_indexOf_7cf53 : Nat := 153
abbrev mJ0_coder_7d493 : Nat := 154
abbrev mJ0_isLatin1_aae02 : Nat := 155
abbrev mJ0_checkIndex_df160 : Nat := 156
abbrev mJ0_checkBoundsBeginEnd_23922 : Nat := 157
abbrev mJ1_charAt_3b067 : Nat := 158
abbrev mJ1_canEncode_9a6ad : Nat := 159
abbrev mJ1_indexOf_4cfef : Nat := 160
abbrev mJ1_indexOfChar_4cfef : Nat := 161
abbrev mJ2_getChar_3b067 : Nat := 162
abbrev mJ2_length_9d52b : Nat := 163
abbrev mJ2_indexOf_4cfef : Nat := 164
abbrev mJ2_indexOfChar_4cfef : Nat := 165
abbrev mJ2_indexOfCharUnsafe_4cfef : Nat := 166
abbrev mJ2_indexOfSupplementary_4cfef : Nat := 167
abbrev mJ2_charAt_3b067 : Nat := 168
abbrev mJ2_checkIndex_2214a : Nat := 169
abbrev mJ2_checkBoundsBeginEnd_d044e : Nat := 170
abbrev mJ3_checkIndex_8e157 : Nat := 171
abbrev mJ3_checkFromToIndex_8c36e : Nat := 172
abbrev mL_cell : Nat := 173
abbrev mL_heat : Nat := 174
abbrev mL_visit : Nat := 175
abbrev mL_saw : Nat := 176
abbrev mL_lay : Nat := 177
abbrev mL_take : Nat := 178
abbrev mL_pass : Nat := 179
abbrev mL_goneIn : Nat := 180
abbrev mL_safe : Nat := 181
abbrev mL_worst : Nat := 182
abbrev mL_read : Nat := 183
abbrev mL_undo : Nat := 184
abbrev mL_restore : Nat := 185
abbrev mL_meanBits : Nat := 186
abbrev mL_append : Nat := 187
abbrev mL_write : Nat := 188
abbrev mL_act : Nat := 189
abbrev mL_digest : Nat := 190
abbrev mL_areBlocks : Nat := 191
abbrev mL_areLoads : Nat := 192
abbrev mL_areRooms : Nat := 193
abbrev mL_isFit : Nat := 194
abbrev mL_isAhead : Nat := 195
abbrev mL_isGone : Nat := 196
abbrev mL_isSafe : Nat := 197
abbrev mL_law : Nat := 198
def nMeth : Nat := 199
def oN (o : Nat) : String := bif Nat.blt o 10 then (bif Nat.blt o 5 then (bif Nat.blt o 2 then (bif Nat.blt o 1 then (bif Nat.beq o 0 then RX0 else "") else (bif Nat.beq o 1 then RX1 else "")) else (bif Nat.blt o 3 then (bif Nat.beq o 2 then RX2 else "") else (bif Nat.blt o 4 then (bif Nat.beq o 3 then RX3 else "") else (bif Nat.beq o 4 then RX4 else "")))) else (bif Nat.blt o 7 then (bif Nat.blt o 6 then (bif Nat.beq o 5 then RX5 else "") else (bif Nat.beq o 6 then RX6 else "")) else (bif Nat.blt o 8 then (bif Nat.beq o 7 then RX7 else "") else (bif Nat.blt o 9 then (bif Nat.beq o 8 then RX8 else "") else (bif Nat.beq o 9 then RX9 else ""))))) else (bif Nat.blt o 15 then (bif Nat.blt o 12 then (bif Nat.blt o 11 then (bif Nat.beq o 10 then RX10 else "") else (bif Nat.beq o 11 then RJx00060 else "")) else (bif Nat.blt o 13 then (bif Nat.beq o 12 then RJ11 else "") else (bif Nat.blt o 14 then (bif Nat.beq o 13 then RJxe99ae else "") else (bif Nat.beq o 14 then RJ9 else "")))) else (bif Nat.blt o 17 then (bif Nat.blt o 16 then (bif Nat.beq o 15 then RJ0 else "") else (bif Nat.beq o 16 then RJ1 else "")) else (bif Nat.blt o 18 then (bif Nat.beq o 17 then RJ2 else "") else (bif Nat.blt o 19 then (bif Nat.beq o 18 then RJ3 else "") else (bif Nat.beq o 19 then RL else "")))))
def cO (mi : Nat) : Nat := bif Nat.blt mi 99 then (bif Nat.blt mi 49 then (bif Nat.blt mi 24 then (bif Nat.blt mi 12 then (bif Nat.blt mi 6 then (bif Nat.blt mi 3 then (bif Nat.blt mi 1 then (bif Nat.beq mi 0 then 0 else 999) else (bif Nat.blt mi 2 then (bif Nat.beq mi 1 then 0 else 999) else (bif Nat.beq mi 2 then 0 else 999))) else (bif Nat.blt mi 4 then (bif Nat.beq mi 3 then 0 else 999) else (bif Nat.blt mi 5 then (bif Nat.beq mi 4 then 0 else 999) else (bif Nat.beq mi 5 then 1 else 999)))) else (bif Nat.blt mi 9 then (bif Nat.blt mi 7 then (bif Nat.beq mi 6 then 1 else 999) else (bif Nat.blt mi 8 then (bif Nat.beq mi 7 then 1 else 999) else (bif Nat.beq mi 8 then 1 else 999))) else (bif Nat.blt mi 10 then (bif Nat.beq mi 9 then 2 else 999) else (bif Nat.blt mi 11 then (bif Nat.beq mi 10 then 2 else 999) else (bif Nat.beq mi 11 then 3 else 999))))) else (bif Nat.blt mi 18 then (bif Nat.blt mi 15 then (bif Nat.blt mi 13 then (bif Nat.beq mi 12 then 3 else 999) else (bif Nat.blt mi 14 then (bif Nat.beq mi 13 then 3 else 999) else (bif Nat.beq mi 14 then 3 else 999))) else (bif Nat.blt mi 16 then (bif Nat.beq mi 15 then 3 else 999) else (bif Nat.blt mi 17 then (bif Nat.beq mi 16 then 4 else 999) else (bif Nat.beq mi 17 then 4 else 999)))) else (bif Nat.blt mi 21 then (bif Nat.blt mi 19 then (bif Nat.beq mi 18 then 4 else 999) else (bif Nat.blt mi 20 then (bif Nat.beq mi 19 then 4 else 999) else (bif Nat.beq mi 20 then 4 else 999))) else (bif Nat.blt mi 22 then (bif Nat.beq mi 21 then 4 else 999) else (bif Nat.blt mi 23 then (bif Nat.beq mi 22 then 4 else 999) else (bif Nat.beq mi 23 then 4 else 999)))))) else (bif Nat.blt mi 36 then (bif Nat.blt mi 30 then (bif Nat.blt mi 27 then (bif Nat.blt mi 25 then (bif Nat.beq mi 24 then 4 else 999) else (bif Nat.blt mi 26 then (bif Nat.beq mi 25 then 5 else 999) else (bif Nat.beq mi 26 then 5 else 999))) else (bif Nat.blt mi 28 then (bif Nat.beq mi 27 then 5 else 999) else (bif Nat.blt mi 29 then (bif Nat.beq mi 28 then 5 else 999) else (bif Nat.beq mi 29 then 5 else 999)))) else (bif Nat.blt mi 33 then (bif Nat.blt mi 31 then (bif Nat.beq mi 30 then 5 else 999) else (bif Nat.blt mi 32 then (bif Nat.beq mi 31 then 5 else 999) else (bif Nat.beq mi 32 then 5 else 999))) else (bif Nat.blt mi 34 then (bif Nat.beq mi 33 then 5 else 999) else (bif Nat.blt mi 35 then (bif Nat.beq mi 34 then 6 else 999) else (bif Nat.beq mi 35 then 6 else 999))))) else (bif Nat.blt mi 42 then (bif Nat.blt mi 39 then (bif Nat.blt mi 37 then (bif Nat.beq mi 36 then 6 else 999) else (bif Nat.blt mi 38 then (bif Nat.beq mi 37 then 6 else 999) else (bif Nat.beq mi 38 then 6 else 999))) else (bif Nat.blt mi 40 then (bif Nat.beq mi 39 then 6 else 999) else (bif Nat.blt mi 41 then (bif Nat.beq mi 40 then 6 else 999) else (bif Nat.beq mi 41 then 6 else 999)))) else (bif Nat.blt mi 45 then (bif Nat.blt mi 43 then (bif Nat.beq mi 42 then 6 else 999) else (bif Nat.blt mi 44 then (bif Nat.beq mi 43 then 6 else 999) else (bif Nat.beq mi 44 then 6 else 999))) else (bif Nat.blt mi 47 then (bif Nat.blt mi 46 then (bif Nat.beq mi 45 then 6 else 999) else (bif Nat.beq mi 46 then 6 else 999)) else (bif Nat.blt mi 48 then (bif Nat.beq mi 47 then 6 else 999) else (bif Nat.beq mi 48 then 6 else 999))))))) else (bif Nat.blt mi 74 then (bif Nat.blt mi 61 then (bif Nat.blt mi 55 then (bif Nat.blt mi 52 then (bif Nat.blt mi 50 then (bif Nat.beq mi 49 then 6 else 999) else (bif Nat.blt mi 51 then (bif Nat.beq mi 50 then 6 else 999) else (bif Nat.beq mi 51 then 6 else 999))) else (bif Nat.blt mi 53 then (bif Nat.beq mi 52 then 6 else 999) else (bif Nat.blt mi 54 then (bif Nat.beq mi 53 then 6 else 999) else (bif Nat.beq mi 54 then 7 else 999)))) else (bif Nat.blt mi 58 then (bif Nat.blt mi 56 then (bif Nat.beq mi 55 then 7 else 999) else (bif Nat.blt mi 57 then (bif Nat.beq mi 56 then 7 else 999) else (bif Nat.beq mi 57 then 7 else 999))) else (bif Nat.blt mi 59 then (bif Nat.beq mi 58 then 7 else 999) else (bif Nat.blt mi 60 then (bif Nat.beq mi 59 then 7 else 999) else (bif Nat.beq mi 60 then 7 else 999))))) else (bif Nat.blt mi 67 then (bif Nat.blt mi 64 then (bif Nat.blt mi 62 then (bif Nat.beq mi 61 then 8 else 999) else (bif Nat.blt mi 63 then (bif Nat.beq mi 62 then 8 else 999) else (bif Nat.beq mi 63 then 8 else 999))) else (bif Nat.blt mi 65 then (bif Nat.beq mi 64 then 8 else 999) else (bif Nat.blt mi 66 then (bif Nat.beq mi 65 then 8 else 999) else (bif Nat.beq mi 66 then 8 else 999)))) else (bif Nat.blt mi 70 then (bif Nat.blt mi 68 then (bif Nat.beq mi 67 then 8 else 999) else (bif Nat.blt mi 69 then (bif Nat.beq mi 68 then 8 else 999) else (bif Nat.beq mi 69 then 8 else 999))) else (bif Nat.blt mi 72 then (bif Nat.blt mi 71 then (bif Nat.beq mi 70 then 8 else 999) else (bif Nat.beq mi 71 then 8 else 999)) else (bif Nat.blt mi 73 then (bif Nat.beq mi 72 then 8 else 999) else (bif Nat.beq mi 73 then 8 else 999)))))) else (bif Nat.blt mi 86 then (bif Nat.blt mi 80 then (bif Nat.blt mi 77 then (bif Nat.blt mi 75 then (bif Nat.beq mi 74 then 8 else 999) else (bif Nat.blt mi 76 then (bif Nat.beq mi 75 then 8 else 999) else (bif Nat.beq mi 76 then 8 else 999))) else (bif Nat.blt mi 78 then (bif Nat.beq mi 77 then 8 else 999) else (bif Nat.blt mi 79 then (bif Nat.beq mi 78 then 8 else 999) else (bif Nat.beq mi 79 then 8 else 999)))) else (bif Nat.blt mi 83 then (bif Nat.blt mi 81 then (bif Nat.beq mi 80 then 8 else 999) else (bif Nat.blt mi 82 then (bif Nat.beq mi 81 then 8 else 999) else (bif Nat.beq mi 82 then 8 else 999))) else (bif Nat.blt mi 84 then (bif Nat.beq mi 83 then 8 else 999) else (bif Nat.blt mi 85 then (bif Nat.beq mi 84 then 8 else 999) else (bif Nat.beq mi 85 then 8 else 999))))) else (bif Nat.blt mi 92 then (bif Nat.blt mi 89 then (bif Nat.blt mi 87 then (bif Nat.beq mi 86 then 8 else 999) else (bif Nat.blt mi 88 then (bif Nat.beq mi 87 then 8 else 999) else (bif Nat.beq mi 88 then 8 else 999))) else (bif Nat.blt mi 90 then (bif Nat.beq mi 89 then 8 else 999) else (bif Nat.blt mi 91 then (bif Nat.beq mi 90 then 8 else 999) else (bif Nat.beq mi 91 then 8 else 999)))) else (bif Nat.blt mi 95 then (bif Nat.blt mi 93 then (bif Nat.beq mi 92 then 8 else 999) else (bif Nat.blt mi 94 then (bif Nat.beq mi 93 then 8 else 999) else (bif Nat.beq mi 94 then 8 else 999))) else (bif Nat.blt mi 97 then (bif Nat.blt mi 96 then (bif Nat.beq mi 95 then 8 else 999) else (bif Nat.beq mi 96 then 9 else 999)) else (bif Nat.blt mi 98 then (bif Nat.beq mi 97 then 9 else 999) else (bif Nat.beq mi 98 then 9 else 999)))))))) else (bif Nat.blt mi 149 then (bif Nat.blt mi 124 then (bif Nat.blt mi 111 then (bif Nat.blt mi 105 then (bif Nat.blt mi 102 then (bif Nat.blt mi 100 then (bif Nat.beq mi 99 then 9 else 999) else (bif Nat.blt mi 101 then (bif Nat.beq mi 100 then 9 else 999) else (bif Nat.beq mi 101 then 9 else 999))) else (bif Nat.blt mi 103 then (bif Nat.beq mi 102 then 9 else 999) else (bif Nat.blt mi 104 then (bif Nat.beq mi 103 then 9 else 999) else (bif Nat.beq mi 104 then 9 else 999)))) else (bif Nat.blt mi 108 then (bif Nat.blt mi 106 then (bif Nat.beq mi 105 then 9 else 999) else (bif Nat.blt mi 107 then (bif Nat.beq mi 106 then 10 else 999) else (bif Nat.beq mi 107 then 10 else 999))) else (bif Nat.blt mi 109 then (bif Nat.beq mi 108 then 10 else 999) else (bif Nat.blt mi 110 then (bif Nat.beq mi 109 then 10 else 999) else (bif Nat.beq mi 110 then 10 else 999))))) else (bif Nat.blt mi 117 then (bif Nat.blt mi 114 then (bif Nat.blt mi 112 then (bif Nat.beq mi 111 then 10 else 999) else (bif Nat.blt mi 113 then (bif Nat.beq mi 112 then 10 else 999) else (bif Nat.beq mi 113 then 10 else 999))) else (bif Nat.blt mi 115 then (bif Nat.beq mi 114 then 10 else 999) else (bif Nat.blt mi 116 then (bif Nat.beq mi 115 then 10 else 999) else (bif Nat.beq mi 116 then 10 else 999)))) else (bif Nat.blt mi 120 then (bif Nat.blt mi 118 then (bif Nat.beq mi 117 then 10 else 999) else (bif Nat.blt mi 119 then (bif Nat.beq mi 118 then 10 else 999) else (bif Nat.beq mi 119 then 10 else 999))) else (bif Nat.blt mi 122 then (bif Nat.blt mi 121 then (bif Nat.beq mi 120 then 10 else 999) else (bif Nat.beq mi 121 then 10 else 999)) else (bif Nat.blt mi 123 then (bif Nat.beq mi 122 then 10 else 999) else (bif Nat.beq mi 123 then 10 else 999)))))) else (bif Nat.blt mi 136 then (bif Nat.blt mi 130 then (bif Nat.blt mi 127 then (bif Nat.blt mi 125 then (bif Nat.beq mi 124 then 10 else 999) else (bif Nat.blt mi 126 then (bif Nat.beq mi 125 then 10 else 999) else (bif Nat.beq mi 126 then 10 else 999))) else (bif Nat.blt mi 128 then (bif Nat.beq mi 127 then 10 else 999) else (bif Nat.blt mi 129 then (bif Nat.beq mi 128 then 10 else 999) else (bif Nat.beq mi 129 then 10 else 999)))) else (bif Nat.blt mi 133 then (bif Nat.blt mi 131 then (bif Nat.beq mi 130 then 10 else 999) else (bif Nat.blt mi 132 then (bif Nat.beq mi 131 then 10 else 999) else (bif Nat.beq mi 132 then 10 else 999))) else (bif Nat.blt mi 134 then (bif Nat.beq mi 133 then 10 else 999) else (bif Nat.blt mi 135 then (bif Nat.beq mi 134 then 10 else 999) else (bif Nat.beq mi 135 then 10 else 999))))) else (bif Nat.blt mi 142 then (bif Nat.blt mi 139 then (bif Nat.blt mi 137 then (bif Nat.beq mi 136 then 10 else 999) else (bif Nat.blt mi 138 then (bif Nat.beq mi 137 then 10 else 999) else (bif Nat.beq mi 138 then 10 else 999))) else (bif Nat.blt mi 140 then (bif Nat.beq mi 139 then 10 else 999) else (bif Nat.blt mi 141 then (bif Nat.beq mi 140 then 10 else 999) else (bif Nat.beq mi 141 then 11 else 999)))) else (bif Nat.blt mi 145 then (bif Nat.blt mi 143 then (bif Nat.beq mi 142 then 12 else 999) else (bif Nat.blt mi 144 then (bif Nat.beq mi 143 then 12 else 999) else (bif Nat.beq mi 144 then 12 else 999))) else (bif Nat.blt mi 147 then (bif Nat.blt mi 146 then (bif Nat.beq mi 145 then 13 else 999) else (bif Nat.beq mi 146 then 13 else 999)) else (bif Nat.blt mi 148 then (bif Nat.beq mi 147 then 14 else 999) else (bif Nat.beq mi 148 then 14 else 999))))))) else (bif Nat.blt mi 174 then (bif Nat.blt mi 161 then (bif Nat.blt mi 155 then (bif Nat.blt mi 152 then (bif Nat.blt mi 150 then (bif Nat.beq mi 149 then 14 else 999) else (bif Nat.blt mi 151 then (bif Nat.beq mi 150 then 15 else 999) else (bif Nat.beq mi 151 then 15 else 999))) else (bif Nat.blt mi 153 then (bif Nat.beq mi 152 then 15 else 999) else (bif Nat.blt mi 154 then (bif Nat.beq mi 153 then 15 else 999) else (bif Nat.beq mi 154 then 15 else 999)))) else (bif Nat.blt mi 158 then (bif Nat.blt mi 156 then (bif Nat.beq mi 155 then 15 else 999) else (bif Nat.blt mi 157 then (bif Nat.beq mi 156 then 15 else 999) else (bif Nat.beq mi 157 then 15 else 999))) else (bif Nat.blt mi 159 then (bif Nat.beq mi 158 then 16 else 999) else (bif Nat.blt mi 160 then (bif Nat.beq mi 159 then 16 else 999) else (bif Nat.beq mi 160 then 16 else 999))))) else (bif Nat.blt mi 167 then (bif Nat.blt mi 164 then (bif Nat.blt mi 162 then (bif Nat.beq mi 161 then 16 else 999) else (bif Nat.blt mi 163 then (bif Nat.beq mi 162 then 17 else 999) else (bif Nat.beq mi 163 then 17 else 999))) else (bif Nat.blt mi 165 then (bif Nat.beq mi 164 then 17 else 999) else (bif Nat.blt mi 166 then (bif Nat.beq mi 165 then 17 else 999) else (bif Nat.beq mi 166 then 17 else 999)))) else (bif Nat.blt mi 170 then (bif Nat.blt mi 168 then (bif Nat.beq mi 167 then 17 else 999) else (bif Nat.blt mi 169 then (bif Nat.beq mi 168 then 17 else 999) else (bif Nat.beq mi 169 then 17 else 999))) else (bif Nat.blt mi 172 then (bif Nat.blt mi 171 then (bif Nat.beq mi 170 then 17 else 999) else (bif Nat.beq mi 171 then 18 else 999)) else (bif Nat.blt mi 173 then (bif Nat.beq mi 172 then 18 else 999) else (bif Nat.beq mi 173 then 19 else 999)))))) else (bif Nat.blt mi 186 then (bif Nat.blt mi 180 then (bif Nat.blt mi 177 then (bif Nat.blt mi 175 then (bif Nat.beq mi 174 then 19 else 999) else (bif Nat.blt mi 176 then (bif Nat.beq mi 175 then 19 else 999) else (bif Nat.beq mi 176 then 19 else 999))) else (bif Nat.blt mi 178 then (bif Nat.beq mi 177 then 19 else 999) else (bif Nat.blt mi 179 then (bif Nat.beq mi 178 then 19 else 999) else (bif Nat.beq mi 179 then 19 else 999)))) else (bif Nat.blt mi 183 then (bif Nat.blt mi 181 then (bif Nat.beq mi 180 then 19 else 999) else (bif Nat.blt mi 182 then (bif Nat.beq mi 181 then 19 else 999) else (bif Nat.beq mi 182 then 19 else 999))) else (bif Nat.blt mi 184 then (bif Nat.beq mi 183 then 19 else 999) else (bif Nat.blt mi 185 then (bif Nat.beq mi 184 then 19 else 999) else (bif Nat.beq mi 185 then 19 else 999))))) else (bif Nat.blt mi 192 then (bif Nat.blt mi 189 then (bif Nat.blt mi 187 then (bif Nat.beq mi 186 then 19 else 999) else (bif Nat.blt mi 188 then (bif Nat.beq mi 187 then 19 else 999) else (bif Nat.beq mi 188 then 19 else 999))) else (bif Nat.blt mi 190 then (bif Nat.beq mi 189 then 19 else 999) else (bif Nat.blt mi 191 then (bif Nat.beq mi 190 then 19 else 999) else (bif Nat.beq mi 191 then 19 else 999)))) else (bif Nat.blt mi 195 then (bif Nat.blt mi 193 then (bif Nat.beq mi 192 then 19 else 999) else (bif Nat.blt mi 194 then (bif Nat.beq mi 193 then 19 else 999) else (bif Nat.beq mi 194 then 19 else 999))) else (bif Nat.blt mi 197 then (bif Nat.blt mi 196 then (bif Nat.beq mi 195 then 19 else 999) else (bif Nat.beq mi 196 then 19 else 999)) else (bif Nat.blt mi 198 then (bif Nat.beq mi 197 then 19 else 999) else (bif Nat.beq mi 198 then 19 else 999))))))))
def cT (ci : Nat) : u_T := bif Nat.blt ci 4 then (bif Nat.blt ci 2 then (bif Nat.blt ci 1 then (bif Nat.beq ci 0 then TX0 else TX0) else (bif Nat.beq ci 1 then TX3 else TX0)) else (bif Nat.blt ci 3 then (bif Nat.beq ci 2 then TX4 else TX0) else (bif Nat.beq ci 3 then TX5 else TX0))) else (bif Nat.blt ci 6 then (bif Nat.blt ci 5 then (bif Nat.beq ci 4 then TX6 else TX0) else (bif Nat.beq ci 5 then TX7 else TX0)) else (bif Nat.blt ci 7 then (bif Nat.beq ci 6 then TX8 else TX0) else (bif Nat.blt ci 8 then (bif Nat.beq ci 7 then TX9 else TX0) else (bif Nat.beq ci 8 then TX10 else TX0))))
def cN (ci : Nat) : Nat := bif Nat.blt ci 4 then (bif Nat.blt ci 2 then (bif Nat.blt ci 1 then (bif Nat.beq ci 0 then 2 else 0) else (bif Nat.beq ci 1 then 3 else 0)) else (bif Nat.blt ci 3 then (bif Nat.beq ci 2 then 2 else 0) else (bif Nat.beq ci 3 then 1 else 0))) else (bif Nat.blt ci 6 then (bif Nat.blt ci 5 then (bif Nat.beq ci 4 then 9 else 0) else (bif Nat.beq ci 5 then 1 else 0)) else (bif Nat.blt ci 7 then (bif Nat.beq ci 6 then 17 else 0) else (bif Nat.blt ci 8 then (bif Nat.beq ci 7 then 3 else 0) else (bif Nat.beq ci 8 then 10 else 0))))
def cC (ci : Nat) : String := bif Nat.blt ci 4 then (bif Nat.blt ci 2 then (bif Nat.blt ci 1 then (bif Nat.beq ci 0 then RX0 else "") else (bif Nat.beq ci 1 then RX3 else "")) else (bif Nat.blt ci 3 then (bif Nat.beq ci 2 then RX4 else "") else (bif Nat.beq ci 3 then RX5 else ""))) else (bif Nat.blt ci 6 then (bif Nat.blt ci 5 then (bif Nat.beq ci 4 then RX6 else "") else (bif Nat.beq ci 5 then RX7 else "")) else (bif Nat.blt ci 7 then (bif Nat.beq ci 6 then RX8 else "") else (bif Nat.blt ci 8 then (bif Nat.beq ci 7 then RX9 else "") else (bif Nat.beq ci 8 then RX10 else ""))))
def cTy (ci : Nat) : Nat → FieldType := bif Nat.blt ci 4 then (bif Nat.blt ci 2 then (bif Nat.blt ci 1 then (bif Nat.beq ci 0 then tyX0 else tyX0) else (bif Nat.beq ci 1 then tyX3 else tyX0)) else (bif Nat.blt ci 3 then (bif Nat.beq ci 2 then tyX4 else tyX0) else (bif Nat.beq ci 3 then tyX5 else tyX0))) else (bif Nat.blt ci 6 then (bif Nat.blt ci 5 then (bif Nat.beq ci 4 then tyX6 else tyX0) else (bif Nat.beq ci 5 then tyX7 else tyX0)) else (bif Nat.blt ci 7 then (bif Nat.beq ci 6 then tyX8 else tyX0) else (bif Nat.blt ci 8 then (bif Nat.beq ci 7 then tyX9 else tyX0) else (bif Nat.beq ci 8 then tyX10 else tyX0))))
def kOf (o : Nat) : Nat := bif Nat.blt o 6 then (bif Nat.blt o 4 then (bif Nat.blt o 3 then (bif Nat.beq o 0 then 0 else 99) else (bif Nat.beq o 3 then 1 else 99)) else (bif Nat.blt o 5 then (bif Nat.beq o 4 then 2 else 99) else (bif Nat.beq o 5 then 3 else 99))) else (bif Nat.blt o 8 then (bif Nat.blt o 7 then (bif Nat.beq o 6 then 4 else 99) else (bif Nat.beq o 7 then 5 else 99)) else (bif Nat.blt o 9 then (bif Nat.beq o 8 then 6 else 99) else (bif Nat.blt o 10 then (bif Nat.beq o 9 then 7 else 99) else (bif Nat.beq o 10 then 8 else 99))))
def tb (k : Nat) : List Cond := match k with | 0 => k2_sels lw_privs | 1 => tables_1_1 | 2 => tables_1_2 | 3 => tables_1_3 | 4 => tables_1_4 | 5 => tables_1_5 | 6 => tables_1_6 | _ => []
theorem tb_in {w : Cond} (k j : Nat) (h : (tb k)[j]? = some w) : w ∈ lw_tbl := by
  have hm : w ∈ tb k := List.mem_of_getElem? h
  unfold lw_tbl tables_1
  simp only [List.mem_append]
  match k, hm with
  | 0, hm => exact Or.inl hm
  | 1, hm => exact Or.inr (Or.inl hm)
  | 2, hm => exact Or.inr (Or.inr (Or.inl hm))
  | 3, hm => exact Or.inr (Or.inr (Or.inr (Or.inl hm)))
  | 4, hm => exact Or.inr (Or.inr (Or.inr (Or.inr (Or.inl hm))))
  | 5, hm => exact Or.inr (Or.inr (Or.inr (Or.inr (Or.inr (Or.inl hm)))))
  | 6, hm => exact Or.inr (Or.inr (Or.inr (Or.inr (Or.inr (Or.inr (hm))))))
  | k + 7, hm => exact absurd hm List.not_mem_nil
def fP : List (Nat × Nat × Nat × Nat × Nat × Nat) := [(0, 12, 0, 0, 1, 192), (0, 21, 0, 1, 1, 193), (0, 51, 6, 3, 1, 58), (1, 9, 6, 2, 1, 55), (1, 15, 6, 4, 1, 62), (1, 18, 6, 7, 1, 72), (1, 32, 6, 16, 1, 95), (1, 39, 6, 15, 1, 93), (10, 10, 8, 0, 2, 17), (10, 16, 8, 1, 2, 18), (10, 19, 8, 2, 2, 19), (10, 25, 8, 3, 2, 20), (10, 32, 8, 4, 2, 21), (10, 39, 8, 5, 2, 22), (10, 46, 8, 6, 2, 23), (10, 53, 8, 7, 2, 24), (10, 60, 8, 8, 2, 25), (10, 64, 8, 9, 2, 26), (10, 264, 6, 4, 1, 66), (3, 11, 1, 0, 1, 212), (3, 17, 1, 1, 1, 213), (3, 21, 1, 2, 1, 214), (4, 12, 2, 0, 1, 165), (4, 21, 2, 1, 1, 166), (4, 62, 6, 0, 1, 50), (4, 66, 6, 1, 1, 52), (4, 78, 6, 4, 1, 63), (4, 85, 6, 12, 1, 89), (4, 98, 6, 8, 1, 78), (4, 103, 6, 3, 1, 59), (4, 106, 6, 11, 1, 86), (5, 9, 3, 0, 1, 151), (5, 21, 6, 6, 1, 70), (5, 26, 6, 8, 1, 77), (5, 30, 6, 12, 1, 88), (5, 33, 6, 4, 1, 64), (5, 37, 6, 11, 1, 85), (5, 44, 6, 10, 1, 82), (5, 47, 6, 7, 1, 74), (6, 9, 4, 0, 1, 228), (6, 15, 4, 1, 1, 229), (6, 18, 4, 2, 1, 230), (6, 22, 4, 3, 1, 231), (6, 25, 4, 4, 1, 232), (6, 28, 4, 5, 1, 233), (6, 32, 4, 6, 1, 234), (6, 35, 4, 7, 1, 235), (6, 38, 4, 8, 1, 236), (7, 9, 5, 0, 1, 161), (7, 29, 6, 11, 1, 84), (7, 32, 6, 10, 1, 81), (7, 39, 6, 7, 1, 73), (8, 9, 6, 0, 1, 49), (8, 15, 6, 1, 1, 51), (8, 18, 6, 2, 1, 54), (8, 21, 6, 3, 1, 57), (8, 24, 6, 4, 1, 61), (8, 27, 6, 5, 1, 67), (8, 31, 6, 6, 1, 69), (8, 34, 6, 7, 1, 71), (8, 37, 6, 8, 1, 76), (8, 41, 6, 9, 1, 79), (8, 44, 6, 10, 1, 80), (8, 47, 6, 11, 1, 83), (8, 50, 6, 12, 1, 87), (8, 53, 6, 13, 1, 90), (8, 56, 6, 14, 1, 91), (8, 59, 6, 15, 1, 92), (8, 62, 6, 16, 1, 94), (9, 12, 7, 0, 1, 172), (9, 18, 7, 1, 1, 173), (9, 22, 7, 2, 1, 174), (9, 78, 6, 5, 1, 68), (9, 82, 6, 3, 1, 60), (9, 88, 6, 4, 1, 65), (9, 94, 6, 1, 1, 53), (9, 97, 6, 2, 1, 56), (9, 115, 6, 7, 1, 75)]
def mP : List (Nat × Nat × Nat × Nat × Nat) := [(15, 335, 154, 4, 108), (15, 492, 155, 4, 118), (15, 495, 158, 4, 122), (15, 498, 168, 4, 133), (15, 505, 150, 5, 47), (15, 633, 153, 5, 43), (15, 637, 160, 5, 48), (15, 640, 164, 5, 59), (15, 1059, 171, 4, 130), (15, 1062, 172, 5, 74), (16, 9, 156, 4, 125), (16, 88, 159, 5, 51), (16, 95, 161, 5, 56), (17, 48, 163, 4, 139), (17, 67, 169, 4, 136), (17, 71, 162, 4, 143), (17, 96, 170, 5, 68), (17, 157, 143, 5, 86), (17, 161, 144, 5, 90), (17, 164, 142, 5, 83), (17, 228, 165, 5, 65), (17, 232, 167, 5, 80), (17, 241, 157, 5, 71), (17, 244, 166, 5, 77), (17, 414, 156, 4, 142), (13, 122, 145, 6, 1), (19, 11, 107, 4, 177), (19, 21, 108, 2, 82), (19, 25, 109, 3, 212), (19, 31, 110, 3, 219), (19, 34, 111, 4, 184), (19, 37, 112, 3, 226), (19, 40, 124, 6, 36), (19, 46, 126, 6, 50), (19, 49, 123, 5, 140), (19, 52, 129, 3, 233), (19, 59, 134, 4, 62), (19, 64, 136, 4, 93), (19, 69, 133, 5, 217), (19, 75, 128, 4, 155), (19, 79, 150, 4, 104), (19, 84, 151, 4, 114), (19, 88, 187, 4, 152), (19, 91, 174, 4, 174), (19, 94, 175, 2, 77), (19, 97, 176, 3, 175), (19, 100, 178, 4, 181), (19, 102, 179, 3, 223), (19, 108, 188, 4, 101), (19, 112, 183, 3, 230), (19, 115, 135, 2, 56), (19, 118, 185, 4, 90), (19, 120, 184, 4, 58), (19, 122, 118, 4, 190), (19, 125, 177, 3, 216), (19, 131, 131, 4, 201), (19, 134, 113, 4, 220), (19, 137, 125, 4, 230), (19, 140, 117, 5, 17), (19, 145, 120, 5, 30), (19, 148, 152, 5, 39), (19, 151, 122, 5, 94), (19, 154, 132, 5, 103), (19, 158, 182, 5, 136), (19, 160, 115, 5, 166), (19, 170, 114, 5, 181), (19, 173, 116, 5, 187), (19, 176, 119, 5, 192), (19, 180, 186, 5, 199), (19, 183, 146, 5, 238), (19, 189, 121, 6, 11), (19, 192, 191, 5, 26), (19, 196, 192, 5, 163), (19, 199, 193, 6, 8), (19, 203, 190, 4, 196), (19, 206, 127, 6, 21), (19, 209, 194, 5, 23), (19, 212, 180, 6, 33), (19, 214, 181, 6, 47), (19, 216, 106, 1, 34), (19, 217, 173, 2, 73), (19, 221, 189, 4, 171), (19, 224, 196, 6, 30), (19, 227, 197, 6, 44), (19, 230, 195, 6, 18), (19, 233, 130, 2, 48), (0, 11, 61, 1, 189), (0, 25, 64, 5, 2), (0, 29, 17, 5, 3), (0, 33, 72, 5, 4), (0, 37, 73, 5, 8), (0, 41, 9, 5, 12), (0, 47, 91, 6, 29), (0, 55, 74, 6, 58), (0, 58, 147, 6, 59), (1, 22, 6, 5, 111), (1, 28, 7, 5, 121), (1, 35, 8, 5, 114), (1, 42, 71, 5, 117), (1, 46, 70, 5, 118), (1, 49, 88, 5, 119), (1, 53, 72, 5, 120), (1, 56, 81, 5, 124), (1, 59, 26, 5, 125), (1, 65, 30, 5, 129), (10, 9, 61, 1, 42), (10, 52, 11, 1, 205), (10, 68, 97, 2, 86), (10, 72, 137, 2, 144), (10, 76, 98, 3, 12), (10, 79, 138, 4, 224), (10, 85, 88, 4, 229), (10, 89, 72, 5, 185), (10, 96, 73, 5, 186), (10, 100, 139, 5, 170), (10, 103, 27, 5, 175), (10, 107, 9, 5, 176), (10, 113, 28, 5, 107), (10, 117, 26, 5, 177), (10, 120, 30, 5, 191), (10, 123, 65, 4, 194), (10, 126, 66, 5, 21), (10, 132, 76, 5, 22), (10, 135, 55, 4, 195), (10, 139, 67, 5, 196), (10, 142, 56, 5, 197), (10, 145, 57, 5, 198), (10, 149, 89, 5, 34), (10, 153, 60, 6, 15), (10, 157, 68, 5, 98), (10, 160, 77, 5, 99), (10, 163, 33, 5, 144), (10, 167, 1, 6, 40), (10, 170, 140, 4, 234), (10, 173, 2, 4, 238), (10, 176, 4, 6, 54), (10, 180, 3, 6, 25), (10, 183, 35, 4, 159), (10, 190, 36, 4, 163), (10, 194, 38, 4, 167), (10, 198, 45, 3, 237), (10, 201, 37, 4, 34), (10, 204, 64, 2, 60), (10, 207, 40, 4, 38), (10, 210, 41, 4, 42), (10, 211, 42, 4, 46), (10, 215, 43, 4, 50), (10, 218, 44, 4, 54), (10, 224, 13, 3, 6), (10, 227, 39, 2, 52), (10, 237, 12, 4, 66), (10, 238, 90, 4, 205), (10, 241, 5, 5, 108), (10, 247, 91, 5, 221), (10, 253, 95, 5, 227), (10, 257, 10, 5, 231), (10, 261, 14, 4, 85), (10, 267, 15, 4, 97), (10, 270, 69, 4, 228), (10, 273, 70, 5, 174), (3, 24, 61, 1, 211), (3, 25, 64, 3, 10), (4, 25, 91, 3, 72), (4, 31, 74, 3, 80), (4, 34, 75, 3, 87), (4, 38, 18, 3, 88), (4, 42, 19, 3, 96), (4, 45, 20, 3, 101), (4, 49, 21, 3, 128), (4, 53, 22, 3, 133), (4, 56, 23, 3, 138), (4, 59, 24, 3, 146), (4, 81, 70, 3, 100), (4, 89, 56, 3, 105), (4, 92, 57, 3, 113), (4, 109, 85, 3, 137), (4, 113, 81, 3, 142), (4, 116, 28, 3, 150), (4, 119, 32, 3, 165), (5, 15, 70, 3, 169), (5, 40, 29, 3, 154), (5, 50, 79, 3, 158), (5, 54, 76, 3, 159), (5, 58, 82, 3, 160), (5, 61, 31, 5, 132), (5, 65, 80, 5, 135), (5, 69, 27, 3, 170), (6, 41, 46, 4, 1), (6, 45, 52, 4, 5), (6, 49, 47, 4, 9), (6, 52, 48, 4, 22), (6, 55, 49, 4, 26), (6, 58, 50, 4, 30), (6, 61, 53, 4, 13), (6, 65, 51, 4, 18), (7, 15, 76, 3, 112), (7, 21, 55, 3, 109), (7, 25, 70, 3, 117), (7, 35, 58, 3, 118), (7, 42, 59, 3, 122), (8, 65, 62, 1, 46), (8, 81, 63, 2, 64), (8, 85, 147, 3, 84), (8, 88, 67, 3, 24), (8, 92, 68, 2, 112), (8, 95, 76, 2, 139), (8, 98, 70, 3, 54), (8, 101, 79, 3, 58), (8, 108, 78, 3, 33), (8, 113, 71, 3, 39), (8, 116, 86, 3, 40), (8, 120, 87, 3, 44), (8, 124, 65, 3, 48), (8, 127, 66, 3, 49), (8, 130, 69, 3, 67), (8, 133, 72, 5, 38), (8, 136, 92, 3, 76), (8, 139, 91, 4, 209), (8, 143, 94, 4, 210), (8, 146, 74, 4, 214), (8, 149, 75, 4, 215), (8, 152, 93, 4, 216), (9, 25, 100, 2, 90), (9, 29, 103, 2, 97), (9, 33, 104, 2, 113), (9, 36, 105, 2, 140), (9, 40, 101, 3, 16), (9, 44, 102, 3, 25), (9, 47, 83, 3, 29), (9, 53, 84, 3, 35), (9, 57, 80, 3, 50), (9, 61, 85, 3, 59), (9, 65, 88, 3, 63), (9, 68, 17, 3, 68), (9, 71, 67, 2, 94), (9, 75, 75, 3, 20), (9, 85, 68, 2, 101), (9, 91, 99, 2, 104), (9, 100, 78, 2, 108), (9, 103, 69, 2, 117), (9, 106, 65, 2, 121), (9, 109, 66, 2, 124), (9, 112, 71, 2, 127), (9, 118, 76, 2, 131), (9, 121, 79, 2, 135)]
def pP : List (Nat × Nat × Nat × Nat × Nat) := [(16, 38, 3, 5, 55), (16, 92, 2, 5, 54), (17, 183, 3, 5, 63), (17, 224, 2, 5, 62), (13, 134, 5, 6, 4), (19, 164, 4, 5, 178), (3, 29, 3, 3, 11), (3, 35, 2, 4, 89), (4, 69, 3, 3, 92), (4, 75, 2, 3, 93), (6, 69, 2, 4, 17), (8, 69, 3, 2, 67), (8, 75, 6, 2, 70), (8, 105, 2, 3, 164)]
def kP : List (Nat × Nat × Value × Nat × Nat) := [(12, 76, Value.int 56320, 5, 93), (12, 110, Value.int 55232, 5, 89), (17, 227, Value.int 65536, 5, 64), (13, 137, Value.long 9221120237041090560, 6, 7), (19, 7, Value.int 65535, 2, 76), (19, 10, Value.int (-100000000), 2, 81), (19, 67, Value.long (-1), 5, 216), (19, 127, Value.long 7, 4, 199), (19, 129, Value.long 31, 4, 200), (2, 7, Value.float 1056964608, 5, 15), (2, 8, Value.float 1258291200, 5, 16), (2, 9, Value.long 1023, 5, 234), (2, 11, Value.double 4611686018427387904, 5, 235), (2, 13, Value.double 4602678819172646912, 5, 236), (2, 15, Value.double 4841369599423283200, 5, 237), (4, 96, Value.float 1000593162, 3, 126), (4, 97, Value.float 1008981770, 3, 127), (4, 102, Value.float 1036831949, 3, 132), (5, 25, Value.float 1082130432, 3, 173), (5, 29, Value.float 1036831949, 3, 174), (8, 112, Value.float 1056964608, 3, 34)]
def iP : List (Nat × Nat × Nat) := [(1, 6, 41), (2, 4, 239), (3, 6, 26), (4, 6, 55), (11, 1, 206), (12, 4, 67), (13, 3, 7), (14, 4, 86), (15, 4, 98), (17, 3, 69), (18, 3, 90), (19, 3, 98), (20, 3, 103), (21, 3, 130), (22, 3, 135), (23, 3, 140), (24, 3, 148), (26, 5, 126), (28, 3, 151), (29, 3, 156), (32, 3, 166), (33, 5, 145), (35, 4, 160), (36, 4, 164), (37, 4, 35), (38, 4, 168), (39, 2, 53), (40, 4, 39), (41, 4, 43), (42, 4, 47), (43, 4, 51), (44, 4, 55), (45, 3, 238), (46, 4, 3), (47, 4, 11), (48, 4, 24), (49, 4, 28), (50, 4, 32), (51, 4, 20), (52, 4, 7), (53, 4, 15), (56, 3, 106), (57, 3, 114), (58, 3, 120), (59, 3, 124), (61, 1, 43), (64, 2, 61), (69, 2, 118), (70, 3, 55), (71, 2, 128), (72, 5, 5), (73, 5, 9), (74, 3, 81), (75, 3, 21), (76, 2, 132), (77, 5, 100), (78, 2, 109), (79, 2, 136), (80, 3, 51), (81, 3, 143), (82, 3, 161), (83, 3, 30), (84, 3, 36), (85, 3, 60), (86, 3, 42), (87, 3, 46), (88, 3, 64), (89, 5, 35), (90, 4, 206), (91, 3, 73), (92, 3, 78), (93, 4, 218), (94, 4, 212), (95, 5, 228), (97, 2, 87), (98, 3, 13), (99, 2, 106), (100, 2, 92), (101, 3, 18), (102, 3, 27), (103, 2, 99), (104, 2, 115), (105, 2, 142), (106, 1, 35), (107, 4, 178), (108, 2, 83), (109, 3, 213), (110, 3, 220), (111, 4, 185), (112, 3, 227), (113, 4, 221), (114, 5, 182), (115, 5, 167), (116, 5, 188), (117, 5, 18), (118, 4, 191), (119, 5, 193), (120, 5, 31), (121, 6, 12), (122, 5, 95), (123, 5, 141), (124, 6, 37), (125, 4, 231), (126, 6, 51), (127, 6, 22), (128, 4, 156), (129, 3, 234), (130, 2, 49), (131, 4, 202), (132, 5, 104), (133, 5, 218), (134, 4, 63), (135, 2, 57), (136, 4, 94), (137, 2, 146), (138, 4, 226), (139, 5, 172), (140, 4, 236), (150, 4, 105), (151, 4, 115), (152, 5, 40), (153, 5, 44), (154, 4, 109), (155, 4, 119)]
def sP : List (Nat × Nat × Nat) := [(1, 6, 42), (2, 5, 0), (3, 6, 27), (4, 6, 56), (12, 4, 68), (13, 3, 8), (14, 4, 87), (15, 4, 99), (17, 3, 70), (18, 0, 12), (19, 0, 13), (20, 0, 14), (21, 0, 17), (22, 0, 18), (23, 0, 19), (24, 0, 20), (26, 5, 127), (28, 3, 152), (29, 0, 21), (32, 3, 167), (33, 5, 146), (35, 4, 161), (36, 4, 165), (37, 4, 36), (38, 4, 169), (39, 2, 54), (40, 4, 40), (41, 4, 44), (42, 4, 48), (43, 4, 52), (44, 4, 56), (45, 3, 239), (46, 0, 22), (47, 0, 24), (48, 0, 27), (49, 0, 28), (50, 0, 29), (51, 0, 26), (52, 0, 23), (53, 0, 25), (56, 3, 107), (57, 3, 115), (58, 0, 15), (59, 0, 16), (64, 2, 62), (69, 2, 119), (70, 3, 56), (71, 2, 129), (72, 5, 6), (73, 5, 10), (74, 3, 82), (75, 3, 22), (76, 2, 133), (77, 5, 101), (78, 2, 110), (79, 2, 137), (80, 3, 52), (81, 3, 144), (82, 3, 162), (83, 3, 31), (84, 3, 37), (85, 3, 61), (86, 0, 9), (87, 0, 10), (88, 3, 65), (89, 5, 36), (90, 4, 207), (91, 3, 74), (92, 0, 11), (93, 0, 31), (94, 0, 30), (95, 5, 229), (97, 2, 88), (98, 3, 14), (99, 0, 2), (100, 0, 0), (101, 0, 7), (102, 0, 8), (103, 0, 1), (104, 0, 3), (105, 0, 4), (107, 4, 179), (108, 2, 84), (109, 3, 214), (110, 3, 221), (111, 4, 186), (112, 3, 228), (113, 4, 222), (114, 5, 183), (115, 5, 168), (116, 5, 189), (117, 5, 19), (118, 4, 192), (119, 5, 194), (120, 5, 32), (121, 6, 13), (122, 5, 96), (123, 5, 142), (124, 6, 38), (125, 4, 232), (126, 6, 52), (127, 6, 23), (128, 4, 157), (129, 3, 235), (130, 2, 50), (131, 4, 203), (132, 5, 105), (133, 5, 219), (134, 4, 64), (135, 2, 58), (136, 4, 95), (137, 0, 5), (138, 0, 32), (139, 0, 34), (140, 0, 33), (150, 4, 106), (151, 4, 116), (152, 5, 41), (153, 5, 45), (154, 4, 110), (155, 4, 120)]
def tP : List (Nat × Nat × Nat) := [(5, 5, 109), (6, 5, 112), (7, 5, 122), (8, 5, 115), (9, 5, 13), (10, 5, 232), (27, 3, 171), (30, 5, 130), (31, 5, 133), (55, 3, 110), (60, 6, 16), (62, 1, 47), (63, 2, 65), (65, 2, 122), (66, 2, 125), (67, 2, 95), (68, 2, 102), (142, 5, 84), (143, 5, 87), (144, 5, 91), (145, 6, 2), (146, 5, 239), (147, 3, 85), (156, 4, 126), (157, 5, 72), (158, 4, 123), (159, 5, 52), (160, 5, 49), (161, 5, 57), (162, 4, 144), (163, 4, 140), (164, 5, 60), (165, 5, 66), (166, 5, 78), (167, 5, 81), (168, 4, 134), (169, 4, 137), (170, 5, 69), (171, 4, 131), (172, 5, 75), (173, 2, 74), (174, 4, 175), (175, 2, 78), (176, 3, 176), (177, 3, 217), (178, 4, 182), (179, 3, 224), (180, 6, 34), (181, 6, 48), (182, 5, 137), (183, 3, 231), (184, 4, 59), (185, 4, 91), (186, 5, 200), (187, 4, 153), (188, 4, 102), (189, 4, 172), (190, 4, 197), (191, 5, 27), (192, 5, 164), (193, 6, 9), (194, 5, 24), (195, 6, 19), (196, 6, 31), (197, 6, 45)]
def nP : List (Nat × Nat × Nat) := [(0, 1, 7), (1, 1, 26), (2, 1, 20), (3, 1, 8), (4, 1, 4), (5, 1, 5), (6, 1, 9), (7, 1, 6), (8, 1, 2), (9, 1, 3), (10, 1, 1), (11, 1, 14), (12, 1, 25), (13, 1, 31), (14, 1, 18), (15, 1, 15), (16, 1, 21), (17, 1, 23), (18, 1, 22), (19, 1, 0)]
def kW (o i : Nat) (v : Value) : Cond := match v with | .int x => Cond.constant (oN o) i x | .float x => Cond.constantFloat (oN o) i x | .long x => Cond.constantLong (oN o) i x | .double x => Cond.constantDouble (oN o) i x | _ => Cond.count 0
def pW (r : Nat) : MethodName := match r with | 2 => Lib.Math.max.name | 3 => Lib.Math.min.name | 4 => ⟨"java/lang/Float", "intBitsToFloat", "(I)F"⟩ | 5 => ⟨"java/lang/Double", "doubleToRawLongBits", "(D)J"⟩ | _ => arraycopyName
set_option maxRecDepth 100000 in
theorem fP_ok : ∀ q ∈ fP, (tb q.2.2.2.2.1)[q.2.2.2.2.2]? = some (Cond.fieldLink (oN q.1) q.2.1 (cT q.2.2.1 q.2.2.2.1).1 (cT q.2.2.1 q.2.2.2.1).2.1 (cT q.2.2.1 q.2.2.2.1).2.2.1) := by decide +kernel
set_option maxRecDepth 100000 in
theorem mP_ok : ∀ q ∈ mP, (tb q.2.2.2.1)[q.2.2.2.2]? = some (Cond.methodLink (oN q.1) q.2.1 (cY q.2.2.1)) := by decide +kernel
set_option maxRecDepth 100000 in
theorem pP_ok : ∀ q ∈ pP, (tb q.2.2.2.1)[q.2.2.2.2]? = some (Cond.methodLink (oN q.1) q.2.1 (pW q.2.2.1)) := by decide +kernel
set_option maxRecDepth 100000 in
theorem kP_ok : ∀ q ∈ kP, (tb q.2.2.2.1)[q.2.2.2.2]? = some (kW q.1 q.2.1 q.2.2.1) := by decide +kernel
set_option maxRecDepth 100000 in
theorem iP_ok : ∀ q ∈ iP, (tb q.2.1)[q.2.2]? = some (Cond.instanceMethod (cY q.1)) := by decide +kernel
set_option maxRecDepth 100000 in
theorem sP_ok : ∀ q ∈ sP, (tb q.2.1)[q.2.2]? = some (Cond.selects (cY q.1).cls (cY q.1) (cY q.1)) := by decide +kernel
set_option maxRecDepth 100000 in
theorem tP_ok : ∀ q ∈ tP, (tb q.2.1)[q.2.2]? = some (Cond.static (cY q.1)) := by decide +kernel
set_option maxRecDepth 100000 in
theorem nP_ok : ∀ q ∈ nP, (tb q.2.1)[q.2.2]? = some (Cond.initialized (oN q.1)) := by decide +kernel
set_option maxRecDepth 100000 in
theorem cw_X0_hoursToFirstGone : Cond.code yX0_hoursToFirstGone cX0_hoursToFirstGone 3 (some .int) ∈ lw_tbl := tb_in 6 43 rfl
set_option maxRecDepth 100000 in
theorem cw_X0_bitsOfMass : Cond.code yX0_bitsOfMass cX0_bitsOfMass 4 (some .int) ∈ lw_tbl := tb_in 5 1 rfl
set_option maxRecDepth 100000 in
theorem cw_X0_blocksOnWall : Cond.code yX0_blocksOnWall cX0_blocksOnWall 3 (some .int) ∈ lw_tbl := tb_in 6 28 rfl
set_option maxRecDepth 100000 in
theorem cw_X0_isSafeFor : Cond.code yX0_isSafeFor cX0_isSafeFor 5 (some .boolean) ∈ lw_tbl := tb_in 6 57 rfl
set_option maxRecDepth 100000 in
theorem cw_X1_isAllWell : Cond.code yX1_isAllWell cX1_isAllWell 4 (some .boolean) ∈ lw_tbl := tb_in 5 110 rfl
set_option maxRecDepth 100000 in
theorem cw_X1_isSomewhere : Cond.code yX1_isSomewhere cX1_isSomewhere 4 (some .boolean) ∈ lw_tbl := tb_in 5 113 rfl
set_option maxRecDepth 100000 in
theorem cw_X1_isFirm : Cond.code yX1_isFirm cX1_isFirm 3 (some .boolean) ∈ lw_tbl := tb_in 5 123 rfl
set_option maxRecDepth 100000 in
theorem cw_X1_countIn : Cond.code yX1_countIn cX1_countIn 4 (some .int) ∈ lw_tbl := tb_in 5 116 rfl
set_option maxRecDepth 100000 in
theorem cw_X2_ofFloat : Cond.code yX2_ofFloat cX2_ofFloat 4 (some .int) ∈ lw_tbl := tb_in 5 14 rfl
set_option maxRecDepth 100000 in
theorem cw_X2_ofDouble : Cond.code yX2_ofDouble cX2_ofDouble 7 (some .long) ∈ lw_tbl := tb_in 5 233 rfl
set_option maxRecDepth 100000 in
theorem cw_X3_init : Cond.code yX3_init cX3_init 2 none ∈ lw_tbl := tb_in 1 207 rfl
set_option maxRecDepth 100000 in
theorem cw_X3_number : Cond.code yX3_number cX3_number 1 (some .int) ∈ lw_tbl := tb_in 4 69 rfl
set_option maxRecDepth 100000 in
theorem cw_X3_remember : Cond.code yX3_remember cX3_remember 2 none ∈ lw_tbl := tb_in 3 9 rfl
set_option maxRecDepth 100000 in
theorem cw_X3_goBack : Cond.code yX3_goBack cX3_goBack 2 none ∈ lw_tbl := tb_in 4 88 rfl
set_option maxRecDepth 100000 in
theorem cw_X3_forget : Cond.code yX3_forget cX3_forget 1 none ∈ lw_tbl := tb_in 4 100 rfl
set_option maxRecDepth 100000 in
theorem cw_X4_letGoBy : Cond.code yX4_letGoBy cX4_letGoBy 7 (some .int) ∈ lw_tbl := tb_in 3 71 rfl
set_option maxRecDepth 100000 in
theorem cw_X4_changeIce : Cond.code yX4_changeIce cX4_changeIce 4 none ∈ lw_tbl := tb_in 3 91 rfl
set_option maxRecDepth 100000 in
theorem cw_X4_changeJoints : Cond.code yX4_changeJoints cX4_changeJoints 5 none ∈ lw_tbl := tb_in 3 99 rfl
set_option maxRecDepth 100000 in
theorem cw_X4_melt : Cond.code yX4_melt cX4_melt 6 none ∈ lw_tbl := tb_in 3 104 rfl
set_option maxRecDepth 100000 in
theorem cw_X4_warm : Cond.code yX4_warm cX4_warm 4 none ∈ lw_tbl := tb_in 3 131 rfl
set_option maxRecDepth 100000 in
theorem cw_X4_removeMelted : Cond.code yX4_removeMelted cX4_removeMelted 3 none ∈ lw_tbl := tb_in 3 136 rfl
set_option maxRecDepth 100000 in
theorem cw_X4_dropUnsupported : Cond.code yX4_dropUnsupported cX4_dropUnsupported 4 none ∈ lw_tbl := tb_in 3 141 rfl
set_option maxRecDepth 100000 in
theorem cw_X4_breakOverloaded : Cond.code yX4_breakOverloaded cX4_breakOverloaded 4 none ∈ lw_tbl := tb_in 3 149 rfl
set_option maxRecDepth 100000 in
theorem cw_X5_loadOf : Cond.code yX5_loadOf cX5_loadOf 2 (some .float) ∈ lw_tbl := tb_in 5 128 rfl
set_option maxRecDepth 100000 in
theorem cw_X5_borneBy : Cond.code yX5_borneBy cX5_borneBy 3 (some .float) ∈ lw_tbl := tb_in 3 172 rfl
set_option maxRecDepth 100000 in
theorem cw_X5_sumUp : Cond.code yX5_sumUp cX5_sumUp 4 none ∈ lw_tbl := tb_in 3 153 rfl
set_option maxRecDepth 100000 in
theorem cw_X5_handDown : Cond.code yX5_handDown cX5_handDown 10 none ∈ lw_tbl := tb_in 3 157 rfl
set_option maxRecDepth 100000 in
theorem cw_X5_loadFromAbove : Cond.code yX5_loadFromAbove cX5_loadFromAbove 2 (some .float) ∈ lw_tbl := tb_in 5 131 rfl
set_option maxRecDepth 100000 in
theorem cw_X5_sumFromAbove : Cond.code yX5_sumFromAbove cX5_sumFromAbove 9 (some .float) ∈ lw_tbl := tb_in 5 134 rfl
set_option maxRecDepth 100000 in
theorem cw_X5_firstOverloaded : Cond.code yX5_firstOverloaded cX5_firstOverloaded 3 (some .int) ∈ lw_tbl := tb_in 3 168 rfl
set_option maxRecDepth 100000 in
theorem cw_X5_mostBurdened : Cond.code yX5_mostBurdened cX5_mostBurdened 7 (some .int) ∈ lw_tbl := tb_in 5 147 rfl
set_option maxRecDepth 100000 in
theorem cw_X6_hasSpace : Cond.code yX6_hasSpace cX6_hasSpace 1 (some .boolean) ∈ lw_tbl := tb_in 4 162 rfl
set_option maxRecDepth 100000 in
theorem cw_X6_add : Cond.code yX6_add cX6_add 2 none ∈ lw_tbl := tb_in 4 166 rfl
set_option maxRecDepth 100000 in
theorem cw_X6_empty : Cond.code yX6_empty cX6_empty 1 none ∈ lw_tbl := tb_in 4 37 rfl
set_option maxRecDepth 100000 in
theorem cw_X6_inputLength : Cond.code yX6_inputLength cX6_inputLength 1 (some .int) ∈ lw_tbl := tb_in 4 170 rfl
set_option maxRecDepth 100000 in
theorem cw_X6_errorOffset : Cond.code yX6_errorOffset cX6_errorOffset 1 (some .int) ∈ lw_tbl := tb_in 2 55 rfl
set_option maxRecDepth 100000 in
theorem cw_X6_number : Cond.code yX6_number cX6_number 1 (some .int) ∈ lw_tbl := tb_in 4 41 rfl
set_option maxRecDepth 100000 in
theorem cw_X6_signOf : Cond.code yX6_signOf cX6_signOf 2 (some .char) ∈ lw_tbl := tb_in 4 45 rfl
set_option maxRecDepth 100000 in
theorem cw_X6_firstOf : Cond.code yX6_firstOf cX6_firstOf 2 (some .int) ∈ lw_tbl := tb_in 4 49 rfl
set_option maxRecDepth 100000 in
theorem cw_X6_secondOf : Cond.code yX6_secondOf cX6_secondOf 2 (some .int) ∈ lw_tbl := tb_in 4 53 rfl
set_option maxRecDepth 100000 in
theorem cw_X6_thirdOf : Cond.code yX6_thirdOf cX6_thirdOf 2 (some .int) ∈ lw_tbl := tb_in 4 57 rfl
set_option maxRecDepth 100000 in
theorem cw_X6_understand : Cond.code yX6_understand cX6_understand 3 (some .boolean) ∈ lw_tbl := tb_in 4 0 rfl
set_option maxRecDepth 100000 in
theorem cw_X6_readOrder : Cond.code yX6_readOrder cX6_readOrder 1 (some .boolean) ∈ lw_tbl := tb_in 4 4 rfl
set_option maxRecDepth 100000 in
theorem cw_X6_readSawing : Cond.code yX6_readSawing cX6_readSawing 4 (some .boolean) ∈ lw_tbl := tb_in 4 12 rfl
set_option maxRecDepth 100000 in
theorem cw_X6_readLaying : Cond.code yX6_readLaying cX6_readLaying 4 (some .boolean) ∈ lw_tbl := tb_in 4 25 rfl
set_option maxRecDepth 100000 in
theorem cw_X6_readNumber : Cond.code yX6_readNumber cX6_readNumber 3 (some .boolean) ∈ lw_tbl := tb_in 4 29 rfl
set_option maxRecDepth 100000 in
theorem cw_X6_readTemperature : Cond.code yX6_readTemperature cX6_readTemperature 4 (some .boolean) ∈ lw_tbl := tb_in 4 33 rfl
set_option maxRecDepth 100000 in
theorem cw_X6_note : Cond.code yX6_note cX6_note 5 (some .boolean) ∈ lw_tbl := tb_in 4 21 rfl
set_option maxRecDepth 100000 in
theorem cw_X6_goPast : Cond.code yX6_goPast cX6_goPast 2 (some .boolean) ∈ lw_tbl := tb_in 4 8 rfl
set_option maxRecDepth 100000 in
theorem cw_X6_digits : Cond.code yX6_digits cX6_digits 5 (some .int) ∈ lw_tbl := tb_in 4 16 rfl
set_option maxRecDepth 100000 in
theorem cw_X7_heightOf : Cond.code yX7_heightOf cX7_heightOf 3 (some .int) ∈ lw_tbl := tb_in 3 111 rfl
set_option maxRecDepth 100000 in
theorem cw_X7_measure : Cond.code yX7_measure cX7_measure 3 none ∈ lw_tbl := tb_in 3 108 rfl
set_option maxRecDepth 100000 in
theorem cw_X7_isInShadow : Cond.code yX7_isInShadow cX7_isInShadow 6 (some .boolean) ∈ lw_tbl := tb_in 3 116 rfl
set_option maxRecDepth 100000 in
theorem cw_X7_isShadedFromLeft : Cond.code yX7_isShadedFromLeft cX7_isShadedFromLeft 4 (some .boolean) ∈ lw_tbl := tb_in 3 121 rfl
set_option maxRecDepth 100000 in
theorem cw_X7_isShadedFromRight : Cond.code yX7_isShadedFromRight cX7_isShadedFromRight 4 (some .boolean) ∈ lw_tbl := tb_in 3 125 rfl
set_option maxRecDepth 100000 in
theorem cw_X7_roomNumber : Cond.code yX7_roomNumber cX7_roomNumber 10 (some .int) ∈ lw_tbl := tb_in 6 17 rfl
set_option maxRecDepth 100000 in
theorem cw_X8_init : Cond.code yX8_init cX8_init 1 none ∈ lw_tbl := tb_in 1 44 rfl
set_option maxRecDepth 100000 in
theorem cw_X8_fill : Cond.code yX8_fill cX8_fill 3 none ∈ lw_tbl := tb_in 1 48 rfl
set_option maxRecDepth 100000 in
theorem cw_X8_copyRow : Cond.code yX8_copyRow cX8_copyRow 2 none ∈ lw_tbl := tb_in 2 66 rfl
set_option maxRecDepth 100000 in
theorem cw_X8_copyFrom : Cond.code yX8_copyFrom cX8_copyFrom 2 none ∈ lw_tbl := tb_in 2 63 rfl
set_option maxRecDepth 100000 in
theorem cw_X8_isColumn : Cond.code yX8_isColumn cX8_isColumn 1 (some .boolean) ∈ lw_tbl := tb_in 2 123 rfl
set_option maxRecDepth 100000 in
theorem cw_X8_isCourse : Cond.code yX8_isCourse cX8_isCourse 1 (some .boolean) ∈ lw_tbl := tb_in 2 126 rfl
set_option maxRecDepth 100000 in
theorem cw_X8_isHour : Cond.code yX8_isHour cX8_isHour 1 (some .boolean) ∈ lw_tbl := tb_in 2 96 rfl
set_option maxRecDepth 100000 in
theorem cw_X8_isRack : Cond.code yX8_isRack cX8_isRack 1 (some .boolean) ∈ lw_tbl := tb_in 2 103 rfl
set_option maxRecDepth 100000 in
theorem cw_X8_isSawn : Cond.code yX8_isSawn cX8_isSawn 2 (some .boolean) ∈ lw_tbl := tb_in 2 120 rfl
set_option maxRecDepth 100000 in
theorem cw_X8_isOnWall : Cond.code yX8_isOnWall cX8_isOnWall 2 (some .boolean) ∈ lw_tbl := tb_in 3 57 rfl
set_option maxRecDepth 100000 in
theorem cw_X8_isInRack : Cond.code yX8_isInRack cX8_isInRack 2 (some .boolean) ∈ lw_tbl := tb_in 2 130 rfl
set_option maxRecDepth 100000 in
theorem cw_X8_isGone : Cond.code yX8_isGone cX8_isGone 2 (some .boolean) ∈ lw_tbl := tb_in 5 7 rfl
set_option maxRecDepth 100000 in
theorem cw_X8_massOf : Cond.code yX8_massOf cX8_massOf 2 (some .float) ∈ lw_tbl := tb_in 5 11 rfl
set_option maxRecDepth 100000 in
theorem cw_X8_hourOfDay : Cond.code yX8_hourOfDay cX8_hourOfDay 1 (some .int) ∈ lw_tbl := tb_in 3 83 rfl
set_option maxRecDepth 100000 in
theorem cw_X8_temperatureAt : Cond.code yX8_temperatureAt cX8_temperatureAt 2 (some .int) ∈ lw_tbl := tb_in 3 23 rfl
set_option maxRecDepth 100000 in
theorem cw_X8_blockAt : Cond.code yX8_blockAt cX8_blockAt 3 (some .int) ∈ lw_tbl := tb_in 2 134 rfl
set_option maxRecDepth 100000 in
theorem cw_X8_blockInRack : Cond.code yX8_blockInRack cX8_blockInRack 3 (some .int) ∈ lw_tbl := tb_in 5 102 rfl
set_option maxRecDepth 100000 in
theorem cw_X8_freePlace : Cond.code yX8_freePlace cX8_freePlace 3 (some .int) ∈ lw_tbl := tb_in 2 111 rfl
set_option maxRecDepth 100000 in
theorem cw_X8_supportedColumns : Cond.code yX8_supportedColumns cX8_supportedColumns 6 (some .int) ∈ lw_tbl := tb_in 2 138 rfl
set_option maxRecDepth 100000 in
theorem cw_X8_supportOf : Cond.code yX8_supportOf cX8_supportOf 2 (some .int) ∈ lw_tbl := tb_in 3 53 rfl
set_option maxRecDepth 100000 in
theorem cw_X8_isSupported : Cond.code yX8_isSupported cX8_isSupported 2 (some .boolean) ∈ lw_tbl := tb_in 3 145 rfl
set_option maxRecDepth 100000 in
theorem cw_X8_sharedColumns : Cond.code yX8_sharedColumns cX8_sharedColumns 5 (some .int) ∈ lw_tbl := tb_in 3 163 rfl
set_option maxRecDepth 100000 in
theorem cw_X8_addBlock : Cond.code yX8_addBlock cX8_addBlock 6 (some .int) ∈ lw_tbl := tb_in 3 32 rfl
set_option maxRecDepth 100000 in
theorem cw_X8_putOnWall : Cond.code yX8_putOnWall cX8_putOnWall 4 none ∈ lw_tbl := tb_in 3 38 rfl
set_option maxRecDepth 100000 in
theorem cw_X8_remove : Cond.code yX8_remove cX8_remove 3 none ∈ lw_tbl := tb_in 3 62 rfl
set_option maxRecDepth 100000 in
theorem cw_X8_leaveRack : Cond.code yX8_leaveRack cX8_leaveRack 3 none ∈ lw_tbl := tb_in 3 43 rfl
set_option maxRecDepth 100000 in
theorem cw_X8_markColumns : Cond.code yX8_markColumns cX8_markColumns 5 none ∈ lw_tbl := tb_in 3 47 rfl
set_option maxRecDepth 100000 in
theorem cw_X8_numberOf : Cond.code yX8_numberOf cX8_numberOf 3 (some .int) ∈ lw_tbl := tb_in 3 66 rfl
set_option maxRecDepth 100000 in
theorem cw_X8_signOf : Cond.code yX8_signOf cX8_signOf 2 (some .char) ∈ lw_tbl := tb_in 5 37 rfl
set_option maxRecDepth 100000 in
theorem cw_X8_accountOf : Cond.code yX8_accountOf cX8_accountOf 2 (some .int) ∈ lw_tbl := tb_in 4 208 rfl
set_option maxRecDepth 100000 in
theorem cw_X8_countOnWall : Cond.code yX8_countOnWall cX8_countOnWall 1 (some .int) ∈ lw_tbl := tb_in 3 75 rfl
set_option maxRecDepth 100000 in
theorem cw_X8_countStates : Cond.code yX8_countStates cX8_countStates 4 (some .int) ∈ lw_tbl := tb_in 3 79 rfl
set_option maxRecDepth 100000 in
theorem cw_X8_countCauses : Cond.code yX8_countCauses cX8_countCauses 4 (some .int) ∈ lw_tbl := tb_in 4 219 rfl
set_option maxRecDepth 100000 in
theorem cw_X8_countFilledColumns : Cond.code yX8_countFilledColumns cX8_countFilledColumns 3 (some .int) ∈ lw_tbl := tb_in 4 213 rfl
set_option maxRecDepth 100000 in
theorem cw_X8_sumOfMasses : Cond.code yX8_sumOfMasses cX8_sumOfMasses 4 (some .double) ∈ lw_tbl := tb_in 5 230 rfl
set_option maxRecDepth 100000 in
theorem cw_X9_faultOf : Cond.code yX9_faultOf cX9_faultOf 6 (some .int) ∈ lw_tbl := tb_in 2 89 rfl
set_option maxRecDepth 100000 in
theorem cw_X9_perform : Cond.code yX9_perform cX9_perform 6 (some .int) ∈ lw_tbl := tb_in 3 15 rfl
set_option maxRecDepth 100000 in
theorem cw_X9_refuse : Cond.code yX9_refuse cX9_refuse 3 (some .int) ∈ lw_tbl := tb_in 2 107 rfl
set_option maxRecDepth 100000 in
theorem cw_X9_faultOfTemperature : Cond.code yX9_faultOfTemperature cX9_faultOfTemperature 3 (some .int) ∈ lw_tbl := tb_in 2 93 rfl
set_option maxRecDepth 100000 in
theorem cw_X9_setTemperature : Cond.code yX9_setTemperature cX9_setTemperature 5 (some .int) ∈ lw_tbl := tb_in 3 19 rfl
set_option maxRecDepth 100000 in
theorem cw_X9_setVisitors : Cond.code yX9_setVisitors cX9_setVisitors 4 (some .int) ∈ lw_tbl := tb_in 3 28 rfl
set_option maxRecDepth 100000 in
theorem cw_X9_faultOfSawing : Cond.code yX9_faultOfSawing cX9_faultOfSawing 5 (some .int) ∈ lw_tbl := tb_in 2 100 rfl
set_option maxRecDepth 100000 in
theorem cw_X9_faultOfLaying : Cond.code yX9_faultOfLaying cX9_faultOfLaying 8 (some .int) ∈ lw_tbl := tb_in 2 116 rfl
set_option maxRecDepth 100000 in
theorem cw_X9_faultOfTaking : Cond.code yX9_faultOfTaking cX9_faultOfTaking 3 (some .int) ∈ lw_tbl := tb_in 2 143 rfl
set_option maxRecDepth 100000 in
theorem cw_X10_init : Cond.code yX10_init cX10_init 1 none ∈ lw_tbl := tb_in 1 36 rfl
set_option maxRecDepth 100000 in
theorem cw_X10_heat : Cond.code yX10_heat cX10_heat 3 (some .int) ∈ lw_tbl := tb_in 4 180 rfl
set_option maxRecDepth 100000 in
theorem cw_X10_visit : Cond.code yX10_visit cX10_visit 2 (some .int) ∈ lw_tbl := tb_in 2 85 rfl
set_option maxRecDepth 100000 in
theorem cw_X10_saw : Cond.code yX10_saw cX10_saw 4 (some .int) ∈ lw_tbl := tb_in 3 215 rfl
set_option maxRecDepth 100000 in
theorem cw_X10_lay : Cond.code yX10_lay cX10_lay 4 (some .int) ∈ lw_tbl := tb_in 3 222 rfl
set_option maxRecDepth 100000 in
theorem cw_X10_take : Cond.code yX10_take cX10_take 2 (some .int) ∈ lw_tbl := tb_in 4 187 rfl
set_option maxRecDepth 100000 in
theorem cw_X10_pass : Cond.code yX10_pass cX10_pass 2 (some .int) ∈ lw_tbl := tb_in 3 229 rfl
set_option maxRecDepth 100000 in
theorem cw_X10_blockOf : Cond.code yX10_blockOf cX10_blockOf 3 (some .int) ∈ lw_tbl := tb_in 4 223 rfl
set_option maxRecDepth 100000 in
theorem cw_X10_mass : Cond.code yX10_mass cX10_mass 2 (some .float) ∈ lw_tbl := tb_in 5 184 rfl
set_option maxRecDepth 100000 in
theorem cw_X10_load : Cond.code yX10_load cX10_load 3 (some .int) ∈ lw_tbl := tb_in 5 169 rfl
set_option maxRecDepth 100000 in
theorem cw_X10_loadAgain : Cond.code yX10_loadAgain cX10_loadAgain 2 (some .int) ∈ lw_tbl := tb_in 5 190 rfl
set_option maxRecDepth 100000 in
theorem cw_X10_at : Cond.code yX10_at cX10_at 3 (some .int) ∈ lw_tbl := tb_in 5 20 rfl
set_option maxRecDepth 100000 in
theorem cw_X10_height : Cond.code yX10_height cX10_height 2 (some .int) ∈ lw_tbl := tb_in 4 193 rfl
set_option maxRecDepth 100000 in
theorem cw_X10_isShady : Cond.code yX10_isShady cX10_isShady 3 (some .boolean) ∈ lw_tbl := tb_in 5 195 rfl
set_option maxRecDepth 100000 in
theorem cw_X10_sign : Cond.code yX10_sign cX10_sign 2 (some .char) ∈ lw_tbl := tb_in 5 33 rfl
set_option maxRecDepth 100000 in
theorem cw_X10_rooms : Cond.code yX10_rooms cX10_rooms 3 (some .int) ∈ lw_tbl := tb_in 6 14 rfl
set_option maxRecDepth 100000 in
theorem cw_X10_inRack : Cond.code yX10_inRack cX10_inRack 3 (some .int) ∈ lw_tbl := tb_in 5 97 rfl
set_option maxRecDepth 100000 in
theorem cw_X10_worst : Cond.code yX10_worst cX10_worst 2 (some .int) ∈ lw_tbl := tb_in 5 143 rfl
set_option maxRecDepth 100000 in
theorem cw_X10_goneIn : Cond.code yX10_goneIn cX10_goneIn 2 (some .int) ∈ lw_tbl := tb_in 6 39 rfl
set_option maxRecDepth 100000 in
theorem cw_X10_massBits : Cond.code yX10_massBits cX10_massBits 3 (some .int) ∈ lw_tbl := tb_in 4 233 rfl
set_option maxRecDepth 100000 in
theorem cw_X10_safe : Cond.code yX10_safe cX10_safe 2 (some .int) ∈ lw_tbl := tb_in 6 53 rfl
set_option maxRecDepth 100000 in
theorem cw_X10_left : Cond.code yX10_left cX10_left 2 (some .int) ∈ lw_tbl := tb_in 6 24 rfl
set_option maxRecDepth 100000 in
theorem cw_X10_append : Cond.code yX10_append cX10_append 2 (some .int) ∈ lw_tbl := tb_in 4 158 rfl
set_option maxRecDepth 100000 in
theorem cw_X10_read : Cond.code yX10_read cX10_read 4 (some .int) ∈ lw_tbl := tb_in 3 236 rfl
set_option maxRecDepth 100000 in
theorem cw_X10_errorPosition : Cond.code yX10_errorPosition cX10_errorPosition 1 (some .int) ∈ lw_tbl := tb_in 2 51 rfl
set_option maxRecDepth 100000 in
theorem cw_X10_account : Cond.code yX10_account cX10_account 2 (some .int) ∈ lw_tbl := tb_in 4 204 rfl
set_option maxRecDepth 100000 in
theorem cw_X10_isWell : Cond.code yX10_isWell cX10_isWell 1 (some .boolean) ∈ lw_tbl := tb_in 5 106 rfl
set_option maxRecDepth 100000 in
theorem cw_X10_meanBits : Cond.code yX10_meanBits cX10_meanBits 2 (some .long) ∈ lw_tbl := tb_in 5 220 rfl
set_option maxRecDepth 100000 in
theorem cw_X10_undo : Cond.code yX10_undo cX10_undo 1 (some .int) ∈ lw_tbl := tb_in 4 65 rfl
set_option maxRecDepth 100000 in
theorem cw_X10_save : Cond.code yX10_save cX10_save 1 (some .int) ∈ lw_tbl := tb_in 2 59 rfl
set_option maxRecDepth 100000 in
theorem cw_X10_restore : Cond.code yX10_restore cX10_restore 1 (some .int) ∈ lw_tbl := tb_in 4 96 rfl
set_option maxRecDepth 100000 in
theorem cw_X10_permit : Cond.code yX10_permit cX10_permit 2 none ∈ lw_tbl := tb_in 2 147 rfl
set_option maxRecDepth 100000 in
theorem cw_X10_requireSawn : Cond.code yX10_requireSawn cX10_requireSawn 2 none ∈ lw_tbl := tb_in 4 227 rfl
set_option maxRecDepth 100000 in
theorem cw_X10_requireOnWall : Cond.code yX10_requireOnWall cX10_requireOnWall 2 none ∈ lw_tbl := tb_in 5 173 rfl
set_option maxRecDepth 100000 in
theorem cw_X10_requireHoursAhead : Cond.code yX10_requireHoursAhead cX10_requireHoursAhead 2 none ∈ lw_tbl := tb_in 4 237 rfl
set_option maxRecDepth 100000 in
theorem cw_J11_isValidCodePoint_9a6ad : Cond.code yJ11_isValidCodePoint_9a6ad cJ11_isValidCodePoint_9a6ad 2 (some .boolean) ∈ lw_tbl := tb_in 5 85 rfl
set_option maxRecDepth 100000 in
theorem cw_J11_highSurrogate_5068e : Cond.code yJ11_highSurrogate_5068e cJ11_highSurrogate_5068e 1 (some .char) ∈ lw_tbl := tb_in 5 88 rfl
set_option maxRecDepth 100000 in
theorem cw_J11_lowSurrogate_5068e : Cond.code yJ11_lowSurrogate_5068e cJ11_lowSurrogate_5068e 1 (some .char) ∈ lw_tbl := tb_in 5 92 rfl
set_option maxRecDepth 100000 in
theorem cw_Jxe99ae_isNaN_b9ae7 : Cond.code yJxe99ae_isNaN_b9ae7 cJxe99ae_isNaN_b9ae7 2 (some .boolean) ∈ lw_tbl := tb_in 6 3 rfl
set_option maxRecDepth 100000 in
theorem cw_Jxe99ae_doubleToLongBits_ccdee : Cond.code yJxe99ae_doubleToLongBits_ccdee cJxe99ae_doubleToLongBits_ccdee 2 (some .long) ∈ lw_tbl := tb_in 6 0 rfl
set_option maxRecDepth 100000 in
theorem cw_J9_floorMod_7cf53 : Cond.code yJ9_floorMod_7cf53 cJ9_floorMod_7cf53 3 (some .int) ∈ lw_tbl := tb_in 3 86 rfl
set_option maxRecDepth 100000 in
theorem cw_J0_length_8abf5 : Cond.code yJ0_length_8abf5 cJ0_length_8abf5 1 (some .int) ∈ lw_tbl := tb_in 4 107 rfl
set_option maxRecDepth 100000 in
theorem cw_J0_charAt_5068e : Cond.code yJ0_charAt_5068e cJ0_charAt_5068e 2 (some .char) ∈ lw_tbl := tb_in 4 117 rfl
set_option maxRecDepth 100000 in
theorem cw_J0_indexOf_0f7a4 : Cond.code yJ0_indexOf_0f7a4 cJ0_indexOf_0f7a4 2 (some .int) ∈ lw_tbl := tb_in 5 42 rfl
set_option maxRecDepth 100000 in
theorem cw_J0_indexOf_7cf53 : Cond.code yJ0_indexOf_7cf53 cJ0_indexOf_7cf53 3 (some .int) ∈ lw_tbl := tb_in 5 46 rfl
set_option maxRecDepth 100000 in
theorem cw_J0_coder_7d493 : Cond.code yJ0_coder_7d493 cJ0_coder_7d493 1 (some .byte) ∈ lw_tbl := tb_in 4 111 rfl
set_option maxRecDepth 100000 in
theorem cw_J0_isLatin1_aae02 : Cond.code yJ0_isLatin1_aae02 cJ0_isLatin1_aae02 1 (some .boolean) ∈ lw_tbl := tb_in 4 121 rfl
set_option maxRecDepth 100000 in
theorem cw_J0_checkIndex_df160 : Cond.code yJ0_checkIndex_df160 cJ0_checkIndex_df160 2 none ∈ lw_tbl := tb_in 4 127 rfl
set_option maxRecDepth 100000 in
theorem cw_J0_checkBoundsBeginEnd_23922 : Cond.code yJ0_checkBoundsBeginEnd_23922 cJ0_checkBoundsBeginEnd_23922 3 none ∈ lw_tbl := tb_in 5 73 rfl
set_option maxRecDepth 100000 in
theorem cw_J1_charAt_3b067 : Cond.code yJ1_charAt_3b067 cJ1_charAt_3b067 2 (some .char) ∈ lw_tbl := tb_in 4 124 rfl
set_option maxRecDepth 100000 in
theorem cw_J1_canEncode_9a6ad : Cond.code yJ1_canEncode_9a6ad cJ1_canEncode_9a6ad 1 (some .boolean) ∈ lw_tbl := tb_in 5 53 rfl
set_option maxRecDepth 100000 in
theorem cw_J1_indexOf_4cfef : Cond.code yJ1_indexOf_4cfef cJ1_indexOf_4cfef 4 (some .int) ∈ lw_tbl := tb_in 5 50 rfl
set_option maxRecDepth 100000 in
theorem cw_J1_indexOfChar_4cfef : Cond.code yJ1_indexOfChar_4cfef cJ1_indexOfChar_4cfef 6 (some .int) ∈ lw_tbl := tb_in 5 58 rfl
set_option maxRecDepth 100000 in
theorem cw_J2_getChar_3b067 : Cond.code yJ2_getChar_3b067 cJ2_getChar_3b067 2 (some .char) ∈ lw_tbl := tb_in 4 145 rfl
set_option maxRecDepth 100000 in
theorem cw_J2_length_9d52b : Cond.code yJ2_length_9d52b cJ2_length_9d52b 1 (some .int) ∈ lw_tbl := tb_in 4 141 rfl
set_option maxRecDepth 100000 in
theorem cw_J2_indexOf_4cfef : Cond.code yJ2_indexOf_4cfef cJ2_indexOf_4cfef 4 (some .int) ∈ lw_tbl := tb_in 5 61 rfl
set_option maxRecDepth 100000 in
theorem cw_J2_indexOfChar_4cfef : Cond.code yJ2_indexOfChar_4cfef cJ2_indexOfChar_4cfef 4 (some .int) ∈ lw_tbl := tb_in 5 67 rfl
set_option maxRecDepth 100000 in
theorem cw_J2_indexOfCharUnsafe_4cfef : Cond.code yJ2_indexOfCharUnsafe_4cfef cJ2_indexOfCharUnsafe_4cfef 5 (some .int) ∈ lw_tbl := tb_in 5 79 rfl
set_option maxRecDepth 100000 in
theorem cw_J2_indexOfSupplementary_4cfef : Cond.code yJ2_indexOfSupplementary_4cfef cJ2_indexOfSupplementary_4cfef 7 (some .int) ∈ lw_tbl := tb_in 5 82 rfl
set_option maxRecDepth 100000 in
theorem cw_J2_charAt_3b067 : Cond.code yJ2_charAt_3b067 cJ2_charAt_3b067 2 (some .char) ∈ lw_tbl := tb_in 4 135 rfl
set_option maxRecDepth 100000 in
theorem cw_J2_checkIndex_2214a : Cond.code yJ2_checkIndex_2214a cJ2_checkIndex_2214a 2 none ∈ lw_tbl := tb_in 4 138 rfl
set_option maxRecDepth 100000 in
theorem cw_J2_checkBoundsBeginEnd_d044e : Cond.code yJ2_checkBoundsBeginEnd_d044e cJ2_checkBoundsBeginEnd_d044e 3 none ∈ lw_tbl := tb_in 5 70 rfl
set_option maxRecDepth 100000 in
theorem cw_J3_checkIndex_8e157 : Cond.code yJ3_checkIndex_8e157 cJ3_checkIndex_8e157 3 (some .int) ∈ lw_tbl := tb_in 4 132 rfl
set_option maxRecDepth 100000 in
theorem cw_J3_checkFromToIndex_8c36e : Cond.code yJ3_checkFromToIndex_8c36e cJ3_checkFromToIndex_8c36e 4 (some .int) ∈ lw_tbl := tb_in 5 76 rfl
set_option maxRecDepth 100000 in
theorem cw_L_cell : Cond.code yL_cell cL_cell 2 (some .int) ∈ lw_tbl := tb_in 2 75 rfl
set_option maxRecDepth 100000 in
theorem cw_L_write : Cond.code yL_write cL_write 3 (some (.object "SawnIce")) ∈ lw_tbl := tb_in 4 103 rfl
set_option maxRecDepth 100000 in
theorem cw_L_act : Cond.code yL_act cL_act 6 (some .int) ∈ lw_tbl := tb_in 4 173 rfl
set_option maxRecDepth 100000 in
theorem cw_L_digest : Cond.code yL_digest cL_digest 4 (some .long) ∈ lw_tbl := tb_in 4 198 rfl
set_option maxRecDepth 100000 in
theorem cw_L_areBlocks : Cond.code yL_areBlocks cL_areBlocks 10 (some .boolean) ∈ lw_tbl := tb_in 5 28 rfl
set_option maxRecDepth 100000 in
theorem cw_L_areLoads : Cond.code yL_areLoads cL_areLoads 9 (some .boolean) ∈ lw_tbl := tb_in 5 165 rfl
set_option maxRecDepth 100000 in
theorem cw_L_areRooms : Cond.code yL_areRooms cL_areRooms 8 (some .boolean) ∈ lw_tbl := tb_in 6 10 rfl
set_option maxRecDepth 100000 in
theorem cw_L_isFit : Cond.code yL_isFit cL_isFit 3 (some .boolean) ∈ lw_tbl := tb_in 5 25 rfl
set_option maxRecDepth 100000 in
theorem cw_L_isAhead : Cond.code yL_isAhead cL_isAhead 9 (some .boolean) ∈ lw_tbl := tb_in 6 20 rfl
set_option maxRecDepth 100000 in
theorem cw_L_isGone : Cond.code yL_isGone cL_isGone 3 (some .boolean) ∈ lw_tbl := tb_in 6 32 rfl
set_option maxRecDepth 100000 in
theorem cw_L_isSafe : Cond.code yL_isSafe cL_isSafe 8 (some .boolean) ∈ lw_tbl := tb_in 6 46 rfl
def cdd : List Nat := [1, 2, 3, 4, 5, 6, 7, 8, 9, 10, 11, 12, 13, 14, 15, 17, 18, 19, 20, 21, 22, 23, 24, 26, 27, 28, 29, 30, 31, 32, 33, 35, 36, 37, 38, 39, 40, 41, 42, 43, 44, 45, 46, 47, 48, 49, 50, 51, 52, 53, 55, 56, 57, 58, 59, 60, 61, 62, 63, 64, 65, 66, 67, 68, 69, 70, 71, 72, 73, 74, 75, 76, 77, 78, 79, 80, 81, 82, 83, 84, 85, 86, 87, 88, 89, 90, 91, 92, 93, 94, 95, 97, 98, 99, 100, 101, 102, 103, 104, 105, 106, 107, 108, 109, 110, 111, 112, 113, 114, 115, 116, 117, 118, 119, 120, 121, 122, 123, 124, 125, 126, 127, 128, 129, 130, 131, 132, 133, 134, 135, 136, 137, 138, 139, 140, 142, 143, 144, 145, 146, 147, 150, 151, 152, 153, 154, 155, 156, 157, 158, 159, 160, 161, 162, 163, 164, 165, 166, 167, 168, 169, 170, 171, 172, 173, 188, 189, 190, 191, 192, 193, 194, 195, 196, 197]
set_option maxRecDepth 100000 in
theorem cdd_0 : ∀ mj ∈ ([1, 2, 3, 4, 5, 6, 7, 8, 9, 10, 11, 12, 13, 14, 15, 17, 18, 19, 20, 21, 22, 23, 24, 26, 27, 28, 29, 30, 31, 32] : List Nat), Cond.code (cY mj) (cB mj) (cM mj) (cR mj) ∈ lw_tbl := List.forall_mem_cons.mpr ⟨cw_X0_hoursToFirstGone, List.forall_mem_cons.mpr ⟨cw_X0_bitsOfMass, List.forall_mem_cons.mpr ⟨cw_X0_blocksOnWall, List.forall_mem_cons.mpr ⟨cw_X0_isSafeFor, List.forall_mem_cons.mpr ⟨cw_X1_isAllWell, List.forall_mem_cons.mpr ⟨cw_X1_isSomewhere, List.forall_mem_cons.mpr ⟨cw_X1_isFirm, List.forall_mem_cons.mpr ⟨cw_X1_countIn, List.forall_mem_cons.mpr ⟨cw_X2_ofFloat, List.forall_mem_cons.mpr ⟨cw_X2_ofDouble, List.forall_mem_cons.mpr ⟨cw_X3_init, List.forall_mem_cons.mpr ⟨cw_X3_number, List.forall_mem_cons.mpr ⟨cw_X3_remember, List.forall_mem_cons.mpr ⟨cw_X3_goBack, List.forall_mem_cons.mpr ⟨cw_X3_forget, List.forall_mem_cons.mpr ⟨cw_X4_letGoBy, List.forall_mem_cons.mpr ⟨cw_X4_changeIce, List.forall_mem_cons.mpr ⟨cw_X4_changeJoints, List.forall_mem_cons.mpr ⟨cw_X4_melt, List.forall_mem_cons.mpr ⟨cw_X4_warm, List.forall_mem_cons.mpr ⟨cw_X4_removeMelted, List.forall_mem_cons.mpr ⟨cw_X4_dropUnsupported, List.forall_mem_cons.mpr ⟨cw_X4_breakOverloaded, List.forall_mem_cons.mpr ⟨cw_X5_loadOf, List.forall_mem_cons.mpr ⟨cw_X5_borneBy, List.forall_mem_cons.mpr ⟨cw_X5_sumUp, List.forall_mem_cons.mpr ⟨cw_X5_handDown, List.forall_mem_cons.mpr ⟨cw_X5_loadFromAbove, List.forall_mem_cons.mpr ⟨cw_X5_sumFromAbove, List.forall_mem_cons.mpr ⟨cw_X5_firstOverloaded, fun _ h => absurd h List.not_mem_nil⟩⟩⟩⟩⟩⟩⟩⟩⟩⟩⟩⟩⟩⟩⟩⟩⟩⟩⟩⟩⟩⟩⟩⟩⟩⟩⟩⟩⟩⟩
set_option maxRecDepth 100000 in
theorem cdd_1 : ∀ mj ∈ ([33, 35, 36, 37, 38, 39, 40, 41, 42, 43, 44, 45, 46, 47, 48, 49, 50, 51, 52, 53, 55, 56, 57, 58, 59, 60, 61, 62, 63, 64] : List Nat), Cond.code (cY mj) (cB mj) (cM mj) (cR mj) ∈ lw_tbl := List.forall_mem_cons.mpr ⟨cw_X5_mostBurdened, List.forall_mem_cons.mpr ⟨cw_X6_hasSpace, List.forall_mem_cons.mpr ⟨cw_X6_add, List.forall_mem_cons.mpr ⟨cw_X6_empty, List.forall_mem_cons.mpr ⟨cw_X6_inputLength, List.forall_mem_cons.mpr ⟨cw_X6_errorOffset, List.forall_mem_cons.mpr ⟨cw_X6_number, List.forall_mem_cons.mpr ⟨cw_X6_signOf, List.forall_mem_cons.mpr ⟨cw_X6_firstOf, List.forall_mem_cons.mpr ⟨cw_X6_secondOf, List.forall_mem_cons.mpr ⟨cw_X6_thirdOf, List.forall_mem_cons.mpr ⟨cw_X6_understand, List.forall_mem_cons.mpr ⟨cw_X6_readOrder, List.forall_mem_cons.mpr ⟨cw_X6_readSawing, List.forall_mem_cons.mpr ⟨cw_X6_readLaying, List.forall_mem_cons.mpr ⟨cw_X6_readNumber, List.forall_mem_cons.mpr ⟨cw_X6_readTemperature, List.forall_mem_cons.mpr ⟨cw_X6_note, List.forall_mem_cons.mpr ⟨cw_X6_goPast, List.forall_mem_cons.mpr ⟨cw_X6_digits, List.forall_mem_cons.mpr ⟨cw_X7_heightOf, List.forall_mem_cons.mpr ⟨cw_X7_measure, List.forall_mem_cons.mpr ⟨cw_X7_isInShadow, List.forall_mem_cons.mpr ⟨cw_X7_isShadedFromLeft, List.forall_mem_cons.mpr ⟨cw_X7_isShadedFromRight, List.forall_mem_cons.mpr ⟨cw_X7_roomNumber, List.forall_mem_cons.mpr ⟨cw_X8_init, List.forall_mem_cons.mpr ⟨cw_X8_fill, List.forall_mem_cons.mpr ⟨cw_X8_copyRow, List.forall_mem_cons.mpr ⟨cw_X8_copyFrom, fun _ h => absurd h List.not_mem_nil⟩⟩⟩⟩⟩⟩⟩⟩⟩⟩⟩⟩⟩⟩⟩⟩⟩⟩⟩⟩⟩⟩⟩⟩⟩⟩⟩⟩⟩⟩
set_option maxRecDepth 100000 in
theorem cdd_2 : ∀ mj ∈ ([65, 66, 67, 68, 69, 70, 71, 72, 73, 74, 75, 76, 77, 78, 79, 80, 81, 82, 83, 84, 85, 86, 87, 88, 89, 90, 91, 92, 93, 94] : List Nat), Cond.code (cY mj) (cB mj) (cM mj) (cR mj) ∈ lw_tbl := List.forall_mem_cons.mpr ⟨cw_X8_isColumn, List.forall_mem_cons.mpr ⟨cw_X8_isCourse, List.forall_mem_cons.mpr ⟨cw_X8_isHour, List.forall_mem_cons.mpr ⟨cw_X8_isRack, List.forall_mem_cons.mpr ⟨cw_X8_isSawn, List.forall_mem_cons.mpr ⟨cw_X8_isOnWall, List.forall_mem_cons.mpr ⟨cw_X8_isInRack, List.forall_mem_cons.mpr ⟨cw_X8_isGone, List.forall_mem_cons.mpr ⟨cw_X8_massOf, List.forall_mem_cons.mpr ⟨cw_X8_hourOfDay, List.forall_mem_cons.mpr ⟨cw_X8_temperatureAt, List.forall_mem_cons.mpr ⟨cw_X8_blockAt, List.forall_mem_cons.mpr ⟨cw_X8_blockInRack, List.forall_mem_cons.mpr ⟨cw_X8_freePlace, List.forall_mem_cons.mpr ⟨cw_X8_supportedColumns, List.forall_mem_cons.mpr ⟨cw_X8_supportOf, List.forall_mem_cons.mpr ⟨cw_X8_isSupported, List.forall_mem_cons.mpr ⟨cw_X8_sharedColumns, List.forall_mem_cons.mpr ⟨cw_X8_addBlock, List.forall_mem_cons.mpr ⟨cw_X8_putOnWall, List.forall_mem_cons.mpr ⟨cw_X8_remove, List.forall_mem_cons.mpr ⟨cw_X8_leaveRack, List.forall_mem_cons.mpr ⟨cw_X8_markColumns, List.forall_mem_cons.mpr ⟨cw_X8_numberOf, List.forall_mem_cons.mpr ⟨cw_X8_signOf, List.forall_mem_cons.mpr ⟨cw_X8_accountOf, List.forall_mem_cons.mpr ⟨cw_X8_countOnWall, List.forall_mem_cons.mpr ⟨cw_X8_countStates, List.forall_mem_cons.mpr ⟨cw_X8_countCauses, List.forall_mem_cons.mpr ⟨cw_X8_countFilledColumns, fun _ h => absurd h List.not_mem_nil⟩⟩⟩⟩⟩⟩⟩⟩⟩⟩⟩⟩⟩⟩⟩⟩⟩⟩⟩⟩⟩⟩⟩⟩⟩⟩⟩⟩⟩⟩
set_option maxRecDepth 100000 in
theorem cdd_3 : ∀ mj ∈ ([95, 97, 98, 99, 100, 101, 102, 103, 104, 105, 106, 107, 108, 109, 110, 111, 112, 113, 114, 115, 116, 117, 118, 119, 120, 121, 122, 123, 124, 125] : List Nat), Cond.code (cY mj) (cB mj) (cM mj) (cR mj) ∈ lw_tbl := List.forall_mem_cons.mpr ⟨cw_X8_sumOfMasses, List.forall_mem_cons.mpr ⟨cw_X9_faultOf, List.forall_mem_cons.mpr ⟨cw_X9_perform, List.forall_mem_cons.mpr ⟨cw_X9_refuse, List.forall_mem_cons.mpr ⟨cw_X9_faultOfTemperature, List.forall_mem_cons.mpr ⟨cw_X9_setTemperature, List.forall_mem_cons.mpr ⟨cw_X9_setVisitors, List.forall_mem_cons.mpr ⟨cw_X9_faultOfSawing, List.forall_mem_cons.mpr ⟨cw_X9_faultOfLaying, List.forall_mem_cons.mpr ⟨cw_X9_faultOfTaking, List.forall_mem_cons.mpr ⟨cw_X10_init, List.forall_mem_cons.mpr ⟨cw_X10_heat, List.forall_mem_cons.mpr ⟨cw_X10_visit, List.forall_mem_cons.mpr ⟨cw_X10_saw, List.forall_mem_cons.mpr ⟨cw_X10_lay, List.forall_mem_cons.mpr ⟨cw_X10_take, List.forall_mem_cons.mpr ⟨cw_X10_pass, List.forall_mem_cons.mpr ⟨cw_X10_blockOf, List.forall_mem_cons.mpr ⟨cw_X10_mass, List.forall_mem_cons.mpr ⟨cw_X10_load, List.forall_mem_cons.mpr ⟨cw_X10_loadAgain, List.forall_mem_cons.mpr ⟨cw_X10_at, List.forall_mem_cons.mpr ⟨cw_X10_height, List.forall_mem_cons.mpr ⟨cw_X10_isShady, List.forall_mem_cons.mpr ⟨cw_X10_sign, List.forall_mem_cons.mpr ⟨cw_X10_rooms, List.forall_mem_cons.mpr ⟨cw_X10_inRack, List.forall_mem_cons.mpr ⟨cw_X10_worst, List.forall_mem_cons.mpr ⟨cw_X10_goneIn, List.forall_mem_cons.mpr ⟨cw_X10_massBits, fun _ h => absurd h List.not_mem_nil⟩⟩⟩⟩⟩⟩⟩⟩⟩⟩⟩⟩⟩⟩⟩⟩⟩⟩⟩⟩⟩⟩⟩⟩⟩⟩⟩⟩⟩⟩
set_option maxRecDepth 100000 in
theorem cdd_4 : ∀ mj ∈ ([126, 127, 128, 129, 130, 131, 132, 133, 134, 135, 136, 137, 138, 139, 140, 142, 143, 144, 145, 146, 147, 150, 151, 152, 153, 154, 155, 156, 157, 158] : List Nat), Cond.code (cY mj) (cB mj) (cM mj) (cR mj) ∈ lw_tbl := List.forall_mem_cons.mpr ⟨cw_X10_safe, List.forall_mem_cons.mpr ⟨cw_X10_left, List.forall_mem_cons.mpr ⟨cw_X10_append, List.forall_mem_cons.mpr ⟨cw_X10_read, List.forall_mem_cons.mpr ⟨cw_X10_errorPosition, List.forall_mem_cons.mpr ⟨cw_X10_account, List.forall_mem_cons.mpr ⟨cw_X10_isWell, List.forall_mem_cons.mpr ⟨cw_X10_meanBits, List.forall_mem_cons.mpr ⟨cw_X10_undo, List.forall_mem_cons.mpr ⟨cw_X10_save, List.forall_mem_cons.mpr ⟨cw_X10_restore, List.forall_mem_cons.mpr ⟨cw_X10_permit, List.forall_mem_cons.mpr ⟨cw_X10_requireSawn, List.forall_mem_cons.mpr ⟨cw_X10_requireOnWall, List.forall_mem_cons.mpr ⟨cw_X10_requireHoursAhead, List.forall_mem_cons.mpr ⟨cw_J11_isValidCodePoint_9a6ad, List.forall_mem_cons.mpr ⟨cw_J11_highSurrogate_5068e, List.forall_mem_cons.mpr ⟨cw_J11_lowSurrogate_5068e, List.forall_mem_cons.mpr ⟨cw_Jxe99ae_isNaN_b9ae7, List.forall_mem_cons.mpr ⟨cw_Jxe99ae_doubleToLongBits_ccdee, List.forall_mem_cons.mpr ⟨cw_J9_floorMod_7cf53, List.forall_mem_cons.mpr ⟨cw_J0_length_8abf5, List.forall_mem_cons.mpr ⟨cw_J0_charAt_5068e, List.forall_mem_cons.mpr ⟨cw_J0_indexOf_0f7a4, List.forall_mem_cons.mpr ⟨cw_J0_indexOf_7cf53, List.forall_mem_cons.mpr ⟨cw_J0_coder_7d493, List.forall_mem_cons.mpr ⟨cw_J0_isLatin1_aae02, List.forall_mem_cons.mpr ⟨cw_J0_checkIndex_df160, List.forall_mem_cons.mpr ⟨cw_J0_checkBoundsBeginEnd_23922, List.forall_mem_cons.mpr ⟨cw_J1_charAt_3b067, fun _ h => absurd h List.not_mem_nil⟩⟩⟩⟩⟩⟩⟩⟩⟩⟩⟩⟩⟩⟩⟩⟩⟩⟩⟩⟩⟩⟩⟩⟩⟩⟩⟩⟩⟩⟩
set_option maxRecDepth 100000 in
theorem cdd_5 : ∀ mj ∈ ([159, 160, 161, 162, 163, 164, 165, 166, 167, 168, 169, 170, 171, 172, 173, 188, 189, 190, 191, 192, 193, 194, 195, 196, 197] : List Nat), Cond.code (cY mj) (cB mj) (cM mj) (cR mj) ∈ lw_tbl := List.forall_mem_cons.mpr ⟨cw_J1_canEncode_9a6ad, List.forall_mem_cons.mpr ⟨cw_J1_indexOf_4cfef, List.forall_mem_cons.mpr ⟨cw_J1_indexOfChar_4cfef, List.forall_mem_cons.mpr ⟨cw_J2_getChar_3b067, List.forall_mem_cons.mpr ⟨cw_J2_length_9d52b, List.forall_mem_cons.mpr ⟨cw_J2_indexOf_4cfef, List.forall_mem_cons.mpr ⟨cw_J2_indexOfChar_4cfef, List.forall_mem_cons.mpr ⟨cw_J2_indexOfCharUnsafe_4cfef, List.forall_mem_cons.mpr ⟨cw_J2_indexOfSupplementary_4cfef, List.forall_mem_cons.mpr ⟨cw_J2_charAt_3b067, List.forall_mem_cons.mpr ⟨cw_J2_checkIndex_2214a, List.forall_mem_cons.mpr ⟨cw_J2_checkBoundsBeginEnd_d044e, List.forall_mem_cons.mpr ⟨cw_J3_checkIndex_8e157, List.forall_mem_cons.mpr ⟨cw_J3_checkFromToIndex_8c36e, List.forall_mem_cons.mpr ⟨cw_L_cell, List.forall_mem_cons.mpr ⟨cw_L_write, List.forall_mem_cons.mpr ⟨cw_L_act, List.forall_mem_cons.mpr ⟨cw_L_digest, List.forall_mem_cons.mpr ⟨cw_L_areBlocks, List.forall_mem_cons.mpr ⟨cw_L_areLoads, List.forall_mem_cons.mpr ⟨cw_L_areRooms, List.forall_mem_cons.mpr ⟨cw_L_isFit, List.forall_mem_cons.mpr ⟨cw_L_isAhead, List.forall_mem_cons.mpr ⟨cw_L_isGone, List.forall_mem_cons.mpr ⟨cw_L_isSafe, fun _ h => absurd h List.not_mem_nil⟩⟩⟩⟩⟩⟩⟩⟩⟩⟩⟩⟩⟩⟩⟩⟩⟩⟩⟩⟩⟩⟩⟩⟩⟩
theorem cdd_split : cdd = [1, 2, 3, 4, 5, 6, 7, 8, 9, 10, 11, 12, 13, 14, 15, 17, 18, 19, 20, 21, 22, 23, 24, 26, 27, 28, 29, 30, 31, 32] ++ ([33, 35, 36, 37, 38, 39, 40, 41, 42, 43, 44, 45, 46, 47, 48, 49, 50, 51, 52, 53, 55, 56, 57, 58, 59, 60, 61, 62, 63, 64] ++ ([65, 66, 67, 68, 69, 70, 71, 72, 73, 74, 75, 76, 77, 78, 79, 80, 81, 82, 83, 84, 85, 86, 87, 88, 89, 90, 91, 92, 93, 94] ++ ([95, 97, 98, 99, 100, 101, 102, 103, 104, 105, 106, 107, 108, 109, 110, 111, 112, 113, 114, 115, 116, 117, 118, 119, 120, 121, 122, 123, 124, 125] ++ ([126, 127, 128, 129, 130, 131, 132, 133, 134, 135, 136, 137, 138, 139, 140, 142, 143, 144, 145, 146, 147, 150, 151, 152, 153, 154, 155, 156, 157, 158] ++ ([159, 160, 161, 162, 163, 164, 165, 166, 167, 168, 169, 170, 171, 172, 173, 188, 189, 190, 191, 192, 193, 194, 195, 196, 197]))))) := by decide +kernel
theorem cdd_ok : ∀ mj ∈ cdd, Cond.code (cY mj) (cB mj) (cM mj) (cR mj) ∈ lw_tbl := fun mj h => by
  rw [cdd_split] at h
  simp only [List.mem_append] at h
  rcases h with h | h | h | h | h | h
  · exact cdd_0 mj h
  · exact cdd_1 mj h
  · exact cdd_2 mj h
  · exact cdd_3 mj h
  · exact cdd_4 mj h
  · exact cdd_5 mj h
set_option maxRecDepth 100000 in
theorem oN_ok : ∀ mi ∈ List.range nMeth, (cY mi).cls = oN (cO mi) := by decide +kernel
end
end
section
noncomputable section
abbrev Lay : Type := Nat × Nat × List Nat
def layAt (k : Nat) : Lay := bif Nat.blt k 121 then (bif Nat.blt k 76 then (bif Nat.blt k 53 then (bif Nat.blt k 42 then (bif Nat.blt k 36 then (bif Nat.blt k 33 then (bif Nat.blt k 32 then (bif Nat.beq k 31 then (0, 8, [35, 48, 61, 74, 80, 99, 101, 103, 209, 1]) else (99, 0, [])) else (bif Nat.beq k 32 then (0, 6, [0, 0, 0, 0, 0, 36, 37, 38, 39, 40, 41, 42, 43, 44, 45, 46, 47]) else (99, 0, []))) else (bif Nat.blt k 34 then (bif Nat.beq k 33 then (1, 24, []) else (99, 0, [])) else (bif Nat.blt k 35 then (bif Nat.beq k 34 then (1, 40, []) else (99, 0, [])) else (bif Nat.beq k 35 then (1, 40, []) else (99, 0, []))))) else (bif Nat.blt k 39 then (bif Nat.blt k 37 then (bif Nat.beq k 36 then (4, 40, []) else (99, 0, [])) else (bif Nat.blt k 38 then (bif Nat.beq k 37 then (1, 40, []) else (99, 0, [])) else (bif Nat.beq k 38 then (1, 40, []) else (99, 0, [])))) else (bif Nat.blt k 40 then (bif Nat.beq k 39 then (1, 40, []) else (99, 0, [])) else (bif Nat.blt k 41 then (bif Nat.beq k 40 then (1, 40, []) else (99, 0, [])) else (bif Nat.beq k 41 then (1, 40, []) else (99, 0, [])))))) else (bif Nat.blt k 47 then (bif Nat.blt k 44 then (bif Nat.blt k 43 then (bif Nat.beq k 42 then (1, 40, []) else (99, 0, [])) else (bif Nat.beq k 43 then (1, 96, []) else (99, 0, []))) else (bif Nat.blt k 45 then (bif Nat.beq k 44 then (1, 10, []) else (99, 0, [])) else (bif Nat.blt k 46 then (bif Nat.beq k 45 then (0, 6, [0, 0, 0, 0, 0, 49, 50, 51, 52, 53, 54, 55, 56, 57, 58, 59, 60]) else (99, 0, [])) else (bif Nat.beq k 46 then (1, 24, []) else (99, 0, []))))) else (bif Nat.blt k 50 then (bif Nat.blt k 48 then (bif Nat.beq k 47 then (1, 40, []) else (99, 0, [])) else (bif Nat.blt k 49 then (bif Nat.beq k 48 then (1, 40, []) else (99, 0, [])) else (bif Nat.beq k 49 then (4, 40, []) else (99, 0, [])))) else (bif Nat.blt k 51 then (bif Nat.beq k 50 then (1, 40, []) else (99, 0, [])) else (bif Nat.blt k 52 then (bif Nat.beq k 51 then (1, 40, []) else (99, 0, [])) else (bif Nat.beq k 52 then (1, 40, []) else (99, 0, []))))))) else (bif Nat.blt k 64 then (bif Nat.blt k 58 then (bif Nat.blt k 55 then (bif Nat.blt k 54 then (bif Nat.beq k 53 then (1, 40, []) else (99, 0, [])) else (bif Nat.beq k 54 then (1, 40, []) else (99, 0, []))) else (bif Nat.blt k 56 then (bif Nat.beq k 55 then (1, 40, []) else (99, 0, [])) else (bif Nat.blt k 57 then (bif Nat.beq k 56 then (1, 96, []) else (99, 0, [])) else (bif Nat.beq k 57 then (1, 10, []) else (99, 0, []))))) else (bif Nat.blt k 61 then (bif Nat.blt k 59 then (bif Nat.beq k 58 then (0, 6, [0, 0, 0, 0, 0, 62, 63, 64, 65, 66, 67, 68, 69, 70, 71, 72, 73]) else (99, 0, [])) else (bif Nat.blt k 60 then (bif Nat.beq k 59 then (1, 24, []) else (99, 0, [])) else (bif Nat.beq k 60 then (1, 40, []) else (99, 0, [])))) else (bif Nat.blt k 62 then (bif Nat.beq k 61 then (1, 40, []) else (99, 0, [])) else (bif Nat.blt k 63 then (bif Nat.beq k 62 then (4, 40, []) else (99, 0, [])) else (bif Nat.beq k 63 then (1, 40, []) else (99, 0, [])))))) else (bif Nat.blt k 70 then (bif Nat.blt k 67 then (bif Nat.blt k 65 then (bif Nat.beq k 64 then (1, 40, []) else (99, 0, [])) else (bif Nat.blt k 66 then (bif Nat.beq k 65 then (1, 40, []) else (99, 0, [])) else (bif Nat.beq k 66 then (1, 40, []) else (99, 0, [])))) else (bif Nat.blt k 68 then (bif Nat.beq k 67 then (1, 40, []) else (99, 0, [])) else (bif Nat.blt k 69 then (bif Nat.beq k 68 then (1, 40, []) else (99, 0, [])) else (bif Nat.beq k 69 then (1, 96, []) else (99, 0, []))))) else (bif Nat.blt k 73 then (bif Nat.blt k 71 then (bif Nat.beq k 70 then (1, 10, []) else (99, 0, [])) else (bif Nat.blt k 72 then (bif Nat.beq k 71 then (0, 7, [75, 0, 0]) else (99, 0, [])) else (bif Nat.beq k 72 then (0, 2, [76, 78]) else (99, 0, [])))) else (bif Nat.blt k 74 then (bif Nat.beq k 73 then (0, 3, [77]) else (99, 0, [])) else (bif Nat.blt k 75 then (bif Nat.beq k 74 then (4, 40, []) else (99, 0, [])) else (bif Nat.beq k 75 then (0, 5, [79]) else (99, 0, [])))))))) else (bif Nat.blt k 98 then (bif Nat.blt k 87 then (bif Nat.blt k 81 then (bif Nat.blt k 78 then (bif Nat.blt k 77 then (bif Nat.beq k 76 then (1, 12, []) else (99, 0, [])) else (bif Nat.beq k 77 then (0, 0, [81, 94]) else (99, 0, []))) else (bif Nat.blt k 79 then (bif Nat.beq k 78 then (0, 6, [0, 0, 0, 0, 0, 82, 83, 84, 85, 86, 87, 88, 89, 90, 91, 92, 93]) else (99, 0, [])) else (bif Nat.blt k 80 then (bif Nat.beq k 79 then (1, 24, []) else (99, 0, [])) else (bif Nat.beq k 80 then (1, 40, []) else (99, 0, []))))) else (bif Nat.blt k 84 then (bif Nat.blt k 82 then (bif Nat.beq k 81 then (1, 40, []) else (99, 0, [])) else (bif Nat.blt k 83 then (bif Nat.beq k 82 then (4, 40, []) else (99, 0, [])) else (bif Nat.beq k 83 then (1, 40, []) else (99, 0, [])))) else (bif Nat.blt k 85 then (bif Nat.beq k 84 then (1, 40, []) else (99, 0, [])) else (bif Nat.blt k 86 then (bif Nat.beq k 85 then (1, 40, []) else (99, 0, [])) else (bif Nat.beq k 86 then (1, 40, []) else (99, 0, [])))))) else (bif Nat.blt k 92 then (bif Nat.blt k 89 then (bif Nat.blt k 88 then (bif Nat.beq k 87 then (1, 40, []) else (99, 0, [])) else (bif Nat.beq k 88 then (1, 40, []) else (99, 0, []))) else (bif Nat.blt k 90 then (bif Nat.beq k 89 then (1, 96, []) else (99, 0, [])) else (bif Nat.blt k 91 then (bif Nat.beq k 90 then (1, 10, []) else (99, 0, [])) else (bif Nat.beq k 91 then (0, 2, [95, 97]) else (99, 0, []))))) else (bif Nat.blt k 95 then (bif Nat.blt k 93 then (bif Nat.beq k 92 then (0, 3, [96]) else (99, 0, [])) else (bif Nat.blt k 94 then (bif Nat.beq k 93 then (4, 40, []) else (99, 0, [])) else (bif Nat.beq k 94 then (0, 5, [98]) else (99, 0, [])))) else (bif Nat.blt k 96 then (bif Nat.beq k 95 then (1, 12, []) else (99, 0, [])) else (bif Nat.blt k 97 then (bif Nat.beq k 96 then (0, 3, [100]) else (99, 0, [])) else (bif Nat.beq k 97 then (4, 40, []) else (99, 0, []))))))) else (bif Nat.blt k 109 then (bif Nat.blt k 103 then (bif Nat.blt k 100 then (bif Nat.blt k 99 then (bif Nat.beq k 98 then (0, 5, [102]) else (99, 0, [])) else (bif Nat.beq k 99 then (1, 12, []) else (99, 0, []))) else (bif Nat.blt k 101 then (bif Nat.beq k 100 then (0, 1, [104, 0, 0]) else (99, 0, [])) else (bif Nat.blt k 102 then (bif Nat.beq k 101 then (7, 8, [102, 115, 128, 141, 154, 167, 180, 193]) else (99, 0, [])) else (bif Nat.beq k 102 then (0, 6, [0, 0, 0, 0, 0, 106, 107, 108, 109, 110, 111, 112, 113, 114, 115, 116, 117]) else (99, 0, []))))) else (bif Nat.blt k 106 then (bif Nat.blt k 104 then (bif Nat.beq k 103 then (1, 24, []) else (99, 0, [])) else (bif Nat.blt k 105 then (bif Nat.beq k 104 then (1, 40, []) else (99, 0, [])) else (bif Nat.beq k 105 then (1, 40, []) else (99, 0, [])))) else (bif Nat.blt k 107 then (bif Nat.beq k 106 then (4, 40, []) else (99, 0, [])) else (bif Nat.blt k 108 then (bif Nat.beq k 107 then (1, 40, []) else (99, 0, [])) else (bif Nat.beq k 108 then (1, 40, []) else (99, 0, [])))))) else (bif Nat.blt k 115 then (bif Nat.blt k 112 then (bif Nat.blt k 110 then (bif Nat.beq k 109 then (1, 40, []) else (99, 0, [])) else (bif Nat.blt k 111 then (bif Nat.beq k 110 then (1, 40, []) else (99, 0, [])) else (bif Nat.beq k 111 then (1, 40, []) else (99, 0, [])))) else (bif Nat.blt k 113 then (bif Nat.beq k 112 then (1, 40, []) else (99, 0, [])) else (bif Nat.blt k 114 then (bif Nat.beq k 113 then (1, 96, []) else (99, 0, [])) else (bif Nat.beq k 114 then (1, 10, []) else (99, 0, []))))) else (bif Nat.blt k 118 then (bif Nat.blt k 116 then (bif Nat.beq k 115 then (0, 6, [0, 0, 0, 0, 0, 119, 120, 121, 122, 123, 124, 125, 126, 127, 128, 129, 130]) else (99, 0, [])) else (bif Nat.blt k 117 then (bif Nat.beq k 116 then (1, 24, []) else (99, 0, [])) else (bif Nat.beq k 117 then (1, 40, []) else (99, 0, [])))) else (bif Nat.blt k 119 then (bif Nat.beq k 118 then (1, 40, []) else (99, 0, [])) else (bif Nat.blt k 120 then (bif Nat.beq k 119 then (4, 40, []) else (99, 0, [])) else (bif Nat.beq k 120 then (1, 40, []) else (99, 0, []))))))))) else (bif Nat.blt k 166 then (bif Nat.blt k 143 then (bif Nat.blt k 132 then (bif Nat.blt k 126 then (bif Nat.blt k 123 then (bif Nat.blt k 122 then (bif Nat.beq k 121 then (1, 40, []) else (99, 0, [])) else (bif Nat.beq k 122 then (1, 40, []) else (99, 0, []))) else (bif Nat.blt k 124 then (bif Nat.beq k 123 then (1, 40, []) else (99, 0, [])) else (bif Nat.blt k 125 then (bif Nat.beq k 124 then (1, 40, []) else (99, 0, [])) else (bif Nat.beq k 125 then (1, 40, []) else (99, 0, []))))) else (bif Nat.blt k 129 then (bif Nat.blt k 127 then (bif Nat.beq k 126 then (1, 96, []) else (99, 0, [])) else (bif Nat.blt k 128 then (bif Nat.beq k 127 then (1, 10, []) else (99, 0, [])) else (bif Nat.beq k 128 then (0, 6, [0, 0, 0, 0, 0, 132, 133, 134, 135, 136, 137, 138, 139, 140, 141, 142, 143]) else (99, 0, [])))) else (bif Nat.blt k 130 then (bif Nat.beq k 129 then (1, 24, []) else (99, 0, [])) else (bif Nat.blt k 131 then (bif Nat.beq k 130 then (1, 40, []) else (99, 0, [])) else (bif Nat.beq k 131 then (1, 40, []) else (99, 0, [])))))) else (bif Nat.blt k 137 then (bif Nat.blt k 134 then (bif Nat.blt k 133 then (bif Nat.beq k 132 then (4, 40, []) else (99, 0, [])) else (bif Nat.beq k 133 then (1, 40, []) else (99, 0, []))) else (bif Nat.blt k 135 then (bif Nat.beq k 134 then (1, 40, []) else (99, 0, [])) else (bif Nat.blt k 136 then (bif Nat.beq k 135 then (1, 40, []) else (99, 0, [])) else (bif Nat.beq k 136 then (1, 40, []) else (99, 0, []))))) else (bif Nat.blt k 140 then (bif Nat.blt k 138 then (bif Nat.beq k 137 then (1, 40, []) else (99, 0, [])) else (bif Nat.blt k 139 then (bif Nat.beq k 138 then (1, 40, []) else (99, 0, [])) else (bif Nat.beq k 139 then (1, 96, []) else (99, 0, [])))) else (bif Nat.blt k 141 then (bif Nat.beq k 140 then (1, 10, []) else (99, 0, [])) else (bif Nat.blt k 142 then (bif Nat.beq k 141 then (0, 6, [0, 0, 0, 0, 0, 145, 146, 147, 148, 149, 150, 151, 152, 153, 154, 155, 156]) else (99, 0, [])) else (bif Nat.beq k 142 then (1, 24, []) else (99, 0, []))))))) else (bif Nat.blt k 154 then (bif Nat.blt k 148 then (bif Nat.blt k 145 then (bif Nat.blt k 144 then (bif Nat.beq k 143 then (1, 40, []) else (99, 0, [])) else (bif Nat.beq k 144 then (1, 40, []) else (99, 0, []))) else (bif Nat.blt k 146 then (bif Nat.beq k 145 then (4, 40, []) else (99, 0, [])) else (bif Nat.blt k 147 then (bif Nat.beq k 146 then (1, 40, []) else (99, 0, [])) else (bif Nat.beq k 147 then (1, 40, []) else (99, 0, []))))) else (bif Nat.blt k 151 then (bif Nat.blt k 149 then (bif Nat.beq k 148 then (1, 40, []) else (99, 0, [])) else (bif Nat.blt k 150 then (bif Nat.beq k 149 then (1, 40, []) else (99, 0, [])) else (bif Nat.beq k 150 then (1, 40, []) else (99, 0, [])))) else (bif Nat.blt k 152 then (bif Nat.beq k 151 then (1, 40, []) else (99, 0, [])) else (bif Nat.blt k 153 then (bif Nat.beq k 152 then (1, 96, []) else (99, 0, [])) else (bif Nat.beq k 153 then (1, 10, []) else (99, 0, [])))))) else (bif Nat.blt k 160 then (bif Nat.blt k 157 then (bif Nat.blt k 155 then (bif Nat.beq k 154 then (0, 6, [0, 0, 0, 0, 0, 158, 159, 160, 161, 162, 163, 164, 165, 166, 167, 168, 169]) else (99, 0, [])) else (bif Nat.blt k 156 then (bif Nat.beq k 155 then (1, 24, []) else (99, 0, [])) else (bif Nat.beq k 156 then (1, 40, []) else (99, 0, [])))) else (bif Nat.blt k 158 then (bif Nat.beq k 157 then (1, 40, []) else (99, 0, [])) else (bif Nat.blt k 159 then (bif Nat.beq k 158 then (4, 40, []) else (99, 0, [])) else (bif Nat.beq k 159 then (1, 40, []) else (99, 0, []))))) else (bif Nat.blt k 163 then (bif Nat.blt k 161 then (bif Nat.beq k 160 then (1, 40, []) else (99, 0, [])) else (bif Nat.blt k 162 then (bif Nat.beq k 161 then (1, 40, []) else (99, 0, [])) else (bif Nat.beq k 162 then (1, 40, []) else (99, 0, [])))) else (bif Nat.blt k 164 then (bif Nat.beq k 163 then (1, 40, []) else (99, 0, [])) else (bif Nat.blt k 165 then (bif Nat.beq k 164 then (1, 40, []) else (99, 0, [])) else (bif Nat.beq k 165 then (1, 96, []) else (99, 0, [])))))))) else (bif Nat.blt k 189 then (bif Nat.blt k 177 then (bif Nat.blt k 171 then (bif Nat.blt k 168 then (bif Nat.blt k 167 then (bif Nat.beq k 166 then (1, 10, []) else (99, 0, [])) else (bif Nat.beq k 167 then (0, 6, [0, 0, 0, 0, 0, 171, 172, 173, 174, 175, 176, 177, 178, 179, 180, 181, 182]) else (99, 0, []))) else (bif Nat.blt k 169 then (bif Nat.beq k 168 then (1, 24, []) else (99, 0, [])) else (bif Nat.blt k 170 then (bif Nat.beq k 169 then (1, 40, []) else (99, 0, [])) else (bif Nat.beq k 170 then (1, 40, []) else (99, 0, []))))) else (bif Nat.blt k 174 then (bif Nat.blt k 172 then (bif Nat.beq k 171 then (4, 40, []) else (99, 0, [])) else (bif Nat.blt k 173 then (bif Nat.beq k 172 then (1, 40, []) else (99, 0, [])) else (bif Nat.beq k 173 then (1, 40, []) else (99, 0, [])))) else (bif Nat.blt k 175 then (bif Nat.beq k 174 then (1, 40, []) else (99, 0, [])) else (bif Nat.blt k 176 then (bif Nat.beq k 175 then (1, 40, []) else (99, 0, [])) else (bif Nat.beq k 176 then (1, 40, []) else (99, 0, [])))))) else (bif Nat.blt k 183 then (bif Nat.blt k 180 then (bif Nat.blt k 178 then (bif Nat.beq k 177 then (1, 40, []) else (99, 0, [])) else (bif Nat.blt k 179 then (bif Nat.beq k 178 then (1, 96, []) else (99, 0, [])) else (bif Nat.beq k 179 then (1, 10, []) else (99, 0, [])))) else (bif Nat.blt k 181 then (bif Nat.beq k 180 then (0, 6, [0, 0, 0, 0, 0, 184, 185, 186, 187, 188, 189, 190, 191, 192, 193, 194, 195]) else (99, 0, [])) else (bif Nat.blt k 182 then (bif Nat.beq k 181 then (1, 24, []) else (99, 0, [])) else (bif Nat.beq k 182 then (1, 40, []) else (99, 0, []))))) else (bif Nat.blt k 186 then (bif Nat.blt k 184 then (bif Nat.beq k 183 then (1, 40, []) else (99, 0, [])) else (bif Nat.blt k 185 then (bif Nat.beq k 184 then (4, 40, []) else (99, 0, [])) else (bif Nat.beq k 185 then (1, 40, []) else (99, 0, [])))) else (bif Nat.blt k 187 then (bif Nat.beq k 186 then (1, 40, []) else (99, 0, [])) else (bif Nat.blt k 188 then (bif Nat.beq k 187 then (1, 40, []) else (99, 0, [])) else (bif Nat.beq k 188 then (1, 40, []) else (99, 0, []))))))) else (bif Nat.blt k 200 then (bif Nat.blt k 194 then (bif Nat.blt k 191 then (bif Nat.blt k 190 then (bif Nat.beq k 189 then (1, 40, []) else (99, 0, [])) else (bif Nat.beq k 190 then (1, 40, []) else (99, 0, []))) else (bif Nat.blt k 192 then (bif Nat.beq k 191 then (1, 96, []) else (99, 0, [])) else (bif Nat.blt k 193 then (bif Nat.beq k 192 then (1, 10, []) else (99, 0, [])) else (bif Nat.beq k 193 then (0, 6, [0, 0, 0, 0, 0, 197, 198, 199, 200, 201, 202, 203, 204, 205, 206, 207, 208]) else (99, 0, []))))) else (bif Nat.blt k 197 then (bif Nat.blt k 195 then (bif Nat.beq k 194 then (1, 24, []) else (99, 0, [])) else (bif Nat.blt k 196 then (bif Nat.beq k 195 then (1, 40, []) else (99, 0, [])) else (bif Nat.beq k 196 then (1, 40, []) else (99, 0, [])))) else (bif Nat.blt k 198 then (bif Nat.beq k 197 then (4, 40, []) else (99, 0, [])) else (bif Nat.blt k 199 then (bif Nat.beq k 198 then (1, 40, []) else (99, 0, [])) else (bif Nat.beq k 199 then (1, 40, []) else (99, 0, [])))))) else (bif Nat.blt k 206 then (bif Nat.blt k 203 then (bif Nat.blt k 201 then (bif Nat.beq k 200 then (1, 40, []) else (99, 0, [])) else (bif Nat.blt k 202 then (bif Nat.beq k 201 then (1, 40, []) else (99, 0, [])) else (bif Nat.beq k 202 then (1, 40, []) else (99, 0, [])))) else (bif Nat.blt k 204 then (bif Nat.beq k 203 then (1, 40, []) else (99, 0, [])) else (bif Nat.blt k 205 then (bif Nat.beq k 204 then (1, 96, []) else (99, 0, [])) else (bif Nat.beq k 205 then (1, 10, []) else (99, 0, []))))) else (bif Nat.blt k 209 then (bif Nat.blt k 207 then (bif Nat.beq k 206 then (0, 4, [210, 211, 212, 213, 214, 0, 0, 0, 0]) else (99, 0, [])) else (bif Nat.blt k 208 then (bif Nat.beq k 207 then (2, 60, []) else (99, 0, [])) else (bif Nat.beq k 208 then (2, 60, []) else (99, 0, [])))) else (bif Nat.blt k 210 then (bif Nat.beq k 209 then (1, 60, []) else (99, 0, [])) else (bif Nat.blt k 211 then (bif Nat.beq k 210 then (1, 60, []) else (99, 0, [])) else (bif Nat.beq k 211 then (1, 60, []) else (99, 0, [])))))))))
abbrev NC : Nat := 212
def cSw (mi pc : Nat) : List (Int32 × Nat) × Nat :=
  bif Nat.beq mi 189 && Nat.beq pc 23 then ([(0, 72), (1, 90), (2, 99), (3, 99), (4, 99), (5, 125), (6, 153), (7, 162), (8, 180)], 212) else
  bif Nat.beq mi 131 && Nat.beq pc 19 then ([(13, 44), (14, 52)], 60) else
  bif Nat.beq mi 90 && Nat.beq pc 1 then ([(0, 68), (1, 73), (2, 78), (3, 83), (4, 88), (5, 93), (6, 99), (7, 118), (8, 118), (9, 118), (10, 118), (11, 104), (12, 109)], 118) else
  bif Nat.beq mi 88 && Nat.beq pc 11 then ([(0, 52), (1, 59), (2, 66), (3, 73), (4, 80), (5, 87), (6, 94)], 101) else
  bif Nat.beq mi 89 && Nat.beq pc 28 then ([(1, 56), (2, 59), (3, 62)], 65) else
  bif Nat.beq mi 97 && Nat.beq pc 1 then ([(108, 103), (109, 121), (110, 121), (111, 121), (112, 121), (113, 121), (114, 121), (115, 92), (116, 68), (117, 121), (118, 76), (119, 121), (120, 114)], 121) else
  bif Nat.beq mi 98 && Nat.beq pc 1 then ([(108, 94), (109, 122), (110, 122), (111, 122), (112, 122), (113, 122), (114, 122), (115, 84), (116, 68), (117, 122), (118, 77), (119, 122), (120, 109)], 122) else
  ([], 0)
abbrev LC : Type := List (Nat × Value)
abbrev AH : Type := (Nat → Nat → Int32) × (Nat → Nat → UInt32) × (Nat → Nat → Int64) × (Nat → Nat → UInt64)
abbrev Cf : Type := Nat × LC × List Value × AH
def lget (lc : LC) (i : Nat) : Option Value := (lc.find? (fun q => q.1 == i)).map (fun q => q.2)
def lset1 (lc : LC) (i : Nat) (v : Value) : LC := (i, v) :: lc.filter (fun q => !(q.1 == i) && !(q.1 + 1 == i && q.2.category == 2))
def lset2 (lc : LC) (i : Nat) (v : Value) : LC := (i, v) :: lc.filter (fun q => !(q.1 == i) && (!(q.1 == i + 1) && !(q.1 + 1 == i && q.2.category == 2)))
/-- an int, float, long, double put at a place of a cell; a row put in a cell's place -/
def hI (h : AH) (k i : Nat) (x : Int32) : AH := (fun a j => if a = k ∧ j = i then x else h.1 a j, h.2)
def hF (h : AH) (k i : Nat) (x : UInt32) : AH := (h.1, fun a j => if a = k ∧ j = i then x else h.2.1 a j, h.2.2)
def hL (h : AH) (k i : Nat) (x : Int64) : AH := (h.1, h.2.1, fun a j => if a = k ∧ j = i then x else h.2.2.1 a j, h.2.2.2)
def hD (h : AH) (k i : Nat) (x : UInt64) : AH := (h.1, h.2.1, h.2.2.1, fun a j => if a = k ∧ j = i then x else h.2.2.2 a j)
def hIr (h : AH) (k : Nat) (f : Nat → Int32) : AH := (fun a j => if a = k then f j else h.1 a j, h.2)
def hFr (h : AH) (k : Nat) (f : Nat → UInt32) : AH := (h.1, fun a j => if a = k then f j else h.2.1 a j, h.2.2)
/-- constants and the stack alone -/
def stA (ins : Instr) (v : Value) (st : List Value) : Option (List Value) :=
  match ins with
  | .iconst _ => some (v :: st)
  | .bipush _ => some (v :: st)
  | .sipush _ => some (v :: st)
  | .ldc _ => some (v :: st)
  | .ldc2_w _ => some (v :: st)
  | .fconst _ => some (v :: st)
  | .dconst _ => some (v :: st)
  | .lconst _ => some (v :: st)
  | .iadd => match st with | .int y :: .int x :: r => some (.int (x + y) :: r) | _ => none
  | .isub => match st with | .int y :: .int x :: r => some (.int (x - y) :: r) | _ => none
  | .imul => match st with | .int y :: .int x :: r => some (.int (x * y) :: r) | _ => none
  | .idiv => match st with | .int y :: .int x :: r => if y = 0 then none else some (.int (x / y) :: r) | _ => none
  | .irem => match st with | .int y :: .int x :: r => if y = 0 then none else some (.int (x - x / y * y) :: r) | _ => none
  | .ineg => match st with | .int x :: r => some (.int (-x) :: r) | _ => none
  | .iand => match st with | .int y :: .int x :: r => some (.int (x &&& y) :: r) | _ => none
  | .ior => match st with | .int y :: .int x :: r => some (.int (x ||| y) :: r) | _ => none
  | .ixor => match st with | .int y :: .int x :: r => some (.int (x ^^^ y) :: r) | _ => none
  | .ishl => match st with | .int y :: .int x :: r => some (.int (x <<< (y &&& 31)) :: r) | _ => none
  | .ladd => match st with | .long y :: .long x :: r => some (.long (x + y) :: r) | _ => none
  | .lor => match st with | .long y :: .long x :: r => some (.long (x ||| y) :: r) | _ => none
  | .lshl => match st with | .int y :: .long x :: r => some (.long (x <<< (y.toInt64 &&& 63)) :: r) | _ => none
  | .lmul => match st with | .long y :: .long x :: r => some (.long (x * y) :: r) | _ => none
  | .ishr => match st with | .int y :: .int x :: r => some (.int (x >>> (y &&& 31)) :: r) | _ => none
  | .lcmp => match st with | .long y :: .long x :: r => some (.int (lg_cmp x y) :: r) | _ => none
  | .i2l => match st with | .int x :: r => some (.long x.toInt64 :: r) | _ => none
  | .i2c => match st with | .int x :: r => some (.int (x.toUInt32 % 65536).toInt32 :: r) | _ => none
  | .i2f => match st with | .int x :: r => some (.float (FP.i2f x) :: r) | _ => none
  | .i2d => match st with | .int x :: r => some (.double (FP.i2d x) :: r) | _ => none
  | .f2i => match st with | .float x :: r => some (.int (FP.f2i x) :: r) | _ => none
  | .d2l => match st with | .double x :: r => some (.long (FP.d2l x) :: r) | _ => none
  | .f2d => match st with | .float x :: r => if FP.f2d x &&& 0x7fffffffffffffff ≤ 0x7ff0000000000000 then some (.double (FP.f2d x) :: r) else none | _ => none
  | .fadd => match st with | .float y :: .float x :: r => if FP.fadd x y &&& 0x7fffffff ≤ 0x7f800000 then some (.float (FP.fadd x y) :: r) else none | _ => none
  | .fsub => match st with | .float y :: .float x :: r => if FP.fsub x y &&& 0x7fffffff ≤ 0x7f800000 then some (.float (FP.fsub x y) :: r) else none | _ => none
  | .fmul => match st with | .float y :: .float x :: r => if FP.fmul x y &&& 0x7fffffff ≤ 0x7f800000 then some (.float (FP.fmul x y) :: r) else none | _ => none
  | .fdiv => match st with | .float y :: .float x :: r => if FP.fdiv x y &&& 0x7fffffff ≤ 0x7f800000 then some (.float (FP.fdiv x y) :: r) else none | _ => none
  | .fcmp op => match st with | .float y :: .float x :: r => some (.int (Op.cmpValue (FP.fcmp x y) op) :: r) | _ => none
  | .dadd => match st with | .double y :: .double x :: r => if FP.dadd x y &&& 0x7fffffffffffffff ≤ 0x7ff0000000000000 then some (.double (FP.dadd x y) :: r) else none | _ => none
  | .dsub => match st with | .double y :: .double x :: r => if FP.dsub x y &&& 0x7fffffffffffffff ≤ 0x7ff0000000000000 then some (.double (FP.dsub x y) :: r) else none | _ => none
  | .dmul => match st with | .double y :: .double x :: r => if FP.dmul x y &&& 0x7fffffffffffffff ≤ 0x7ff0000000000000 then some (.double (FP.dmul x y) :: r) else none | _ => none
  | .ddiv => match st with | .double y :: .double x :: r => if FP.ddiv x y &&& 0x7fffffffffffffff ≤ 0x7ff0000000000000 then some (.double (FP.ddiv x y) :: r) else none | _ => none
  | .dcmp op => match st with | .double y :: .double x :: r => some (.int (Op.cmpValue (FP.dcmp x y) op) :: r) | _ => none
  | .dup => match st with | .int x :: r => some (.int x :: .int x :: r) | .ref x :: r => some (.ref x :: .ref x :: r) | _ => none
  | .dup2 => match st with | .int y :: .ref x :: r => some (.int y :: .ref x :: .int y :: .ref x :: r) | _ => none
  | .dup_x1 => match st with | .int x :: .ref y :: r => some (.int x :: .ref y :: .int x :: r) | _ => none
  | .pop => match st with | .int _ :: r => some r | .ref _ :: r => some r | .float _ :: r => some r | _ => none
  | _ => none
/-- locals -/
def stL (ins : Instr) (v : Value) (lc : LC) (st : List Value) : Option (LC × List Value) :=
  match ins with
  | .iload i => match lget lc i with | some (.int x) => some (lc, .int x :: st) | _ => none
  | .iload_n i => match lget lc i with | some (.int x) => some (lc, .int x :: st) | _ => none
  | .aload i => match lget lc i with | some (.ref x) => some (lc, .ref x :: st) | _ => none
  | .aload_n i => match lget lc i with | some (.ref x) => some (lc, .ref x :: st) | _ => none
  | .fload i => match lget lc i with | some (.float x) => some (lc, .float x :: st) | _ => none
  | .fload_n i => match lget lc i with | some (.float x) => some (lc, .float x :: st) | _ => none
  | .lload i => match lget lc i with | some (.long x) => some (lc, .long x :: st) | _ => none
  | .lload_n i => match lget lc i with | some (.long x) => some (lc, .long x :: st) | _ => none
  | .dload i => match lget lc i with | some (.double x) => some (lc, .double x :: st) | _ => none
  | .dload_n i => match lget lc i with | some (.double x) => some (lc, .double x :: st) | _ => none
  | .istore i => match st with | .int x :: r => some (lset1 lc i (.int x), r) | _ => none
  | .istore_n i => match st with | .int x :: r => some (lset1 lc i (.int x), r) | _ => none
  | .astore i => match st with | .ref x :: r => some (lset1 lc i (.ref x), r) | _ => none
  | .astore_n i => match st with | .ref x :: r => some (lset1 lc i (.ref x), r) | _ => none
  | .fstore i => match st with | .float x :: r => some (lset1 lc i (.float x), r) | _ => none
  | .fstore_n i => match st with | .float x :: r => some (lset1 lc i (.float x), r) | _ => none
  | .lstore i => match st with | .long x :: r => some (lset2 lc i (.long x), r) | _ => none
  | .lstore_n i => match st with | .long x :: r => some (lset2 lc i (.long x), r) | _ => none
  | .dstore i => match st with | .double x :: r => some (lset2 lc i (.double x), r) | _ => none
  | .dstore_n i => match st with | .double x :: r => some (lset2 lc i (.double x), r) | _ => none
  | .iinc i _ => match v with | .int n => (match lget lc i with | some (.int x) => some (lset1 lc i (.int (x + n)), st) | _ => none) | _ => none
  | _ => none
/-- branches: whether it is taken -/
def stB (ins : Instr) (st : List Value) : Option (Bool × List Value) :=
  match ins with
  | .goto _ => some (true, st)
  | .ifCond .eq _ => match st with | .int x :: r => some (decide (x = 0), r) | _ => none
  | .ifCond .ne _ => match st with | .int x :: r => some (decide (x ≠ 0), r) | _ => none
  | .ifCond .lt _ => match st with | .int x :: r => some (decide (x < 0), r) | _ => none
  | .ifCond .ge _ => match st with | .int x :: r => some (decide (0 ≤ x), r) | _ => none
  | .ifCond .gt _ => match st with | .int x :: r => some (decide (0 < x), r) | _ => none
  | .ifCond .le _ => match st with | .int x :: r => some (decide (x ≤ 0), r) | _ => none
  | .if_icmp .eq _ => match st with | .int y :: .int x :: r => some (decide (x = y), r) | _ => none
  | .if_icmp .ne _ => match st with | .int y :: .int x :: r => some (decide (x ≠ y), r) | _ => none
  | .if_icmp .lt _ => match st with | .int y :: .int x :: r => some (decide (x < y), r) | _ => none
  | .if_icmp .ge _ => match st with | .int y :: .int x :: r => some (decide (y ≤ x), r) | _ => none
  | .if_icmp .gt _ => match st with | .int y :: .int x :: r => some (decide (y < x), r) | _ => none
  | .if_icmp .le _ => match st with | .int y :: .int x :: r => some (decide (x ≤ y), r) | _ => none
  | .ifnonnull _ => match st with | .ref _ :: r => some (true, r) | _ => none
  | .ifnull _ => match st with | .ref _ :: r => some (false, r) | _ => none
  | _ => none
/-- what a slot of an object holds: 0 an int, 1 a boolean, 2 a char, t + 3 the cell t -/
def fv (s : Nat) (x : Int32) : Value := match s with
  | 0 => .int x
  | 1 => .int x
  | 2 => .int x
  | t + 3 => .ref t
/-- may x be put in a slot or be answered as a thing of this kind (0 int, 1 boolean, 2 char) -/
def kOk (s : Nat) (x : Int32) : Bool := match s with
  | 0 => true
  | 1 => decide (x = 0) || decide (x = 1)
  | 2 => decide (¬ x < 0 ∧ x ≤ 65535)
  | _ => false
/-- the heap -/
def stH (ins : Instr) (r1 r2 : Nat) (st : List Value) (h : AH) : Option (List Value × AH) :=
  match ins with
  | .getfield _ => match st with
    | .ref k :: r => match layAt k with
      | (0, ci, sl) => if ci = r1 then (match sl[r2]? with | some s => some (fv s (h.1 k r2) :: r, h) | none => none) else none
      | _ => none
    | _ => none
  | .putfield _ => match st with
    | .int x :: .ref k :: r => match layAt k with
      | (0, ci, sl) => if ci = r1 then (match sl[r2]? with | some s => if kOk s x = true then some (r, hI h k r2 x) else none | none => none) else none
      | _ => none
    | _ => none
  | .iaload => match st with
    | .int i :: .ref k :: r => match layAt k with
      | (1, n, _) => if i < 0 ∨ n ≤ i.toNatClampNeg then none else some (.int (h.1 k i.toNatClampNeg) :: r, h)
      | _ => none
    | _ => none
  | .caload => match st with
    | .int i :: .ref k :: r => match layAt k with
      | (2, n, _) => if i < 0 ∨ n ≤ i.toNatClampNeg then none else some (.int (h.1 k i.toNatClampNeg) :: r, h)
      | _ => none
    | _ => none
  | .faload => match st with
    | .int i :: .ref k :: r => match layAt k with
      | (4, n, _) => if i < 0 ∨ n ≤ i.toNatClampNeg then none else some (.float (h.2.1 k i.toNatClampNeg) :: r, h)
      | _ => none
    | _ => none
  | .aaload => match st with
    | .int i :: .ref k :: r => match layAt k with
      | (7, n, ts) => if i < 0 ∨ n ≤ i.toNatClampNeg then none else (match ts[i.toNatClampNeg]? with | some t => some (.ref t :: r, h) | none => none)
      | _ => none
    | _ => none
  | .iastore => match st with
    | .int x :: .int i :: .ref k :: r => match layAt k with
      | (1, n, _) => if i < 0 ∨ n ≤ i.toNatClampNeg then none else some (r, hI h k i.toNatClampNeg x)
      | _ => none
    | _ => none
  | .castore => match st with
    | .int x :: .int i :: .ref k :: r => match layAt k with
      | (2, n, _) => if i < 0 ∨ n ≤ i.toNatClampNeg then none else if kOk 2 x = true then some (r, hI h k i.toNatClampNeg x) else none
      | _ => none
    | _ => none
  | .fastore => match st with
    | .float x :: .int i :: .ref k :: r => match layAt k with
      | (4, n, _) => if i < 0 ∨ n ≤ i.toNatClampNeg then none else some (r, hF h k i.toNatClampNeg x)
      | _ => none
    | _ => none
  | .arraylength => match st with
    | .ref k :: r => match layAt k with
      | (t, n, _) => if t = 1 ∨ t = 2 ∨ t = 4 then some (.int (Int32.ofNat n) :: r, h) else none
    | _ => none
  | _ => none
/-- the JDK's own -/
def stP (r3 : Nat) (st : List Value) (h : AH) : Option (List Value × AH) :=
  match r3 with
  | 2 => match st with | .int y :: .int x :: r => some (.int (if x < y then y else x) :: r, h) | _ => none
  | 3 => match st with | .int y :: .int x :: r => some (.int (if y < x then y else x) :: r, h) | _ => none
  | 4 => match st with | .int b :: r => if vn_sni2f b = false then some (.float b.toUInt32 :: r, h) else none | _ => none
  | 5 => match st with | .double b :: r => some (.long b.toInt64 :: r, h) | _ => none
  | 6 => match st with
    | .int n :: .int dp :: .ref a :: .int sp :: .ref a0 :: r =>
      if sp < 0 ∨ dp < 0 ∨ n < 0 then none else
      match layAt a0, layAt a with
      | (1, n0, _), (1, n1, _) => if sp.toNatClampNeg + n.toNatClampNeg ≤ n0 ∧ dp.toNatClampNeg + n.toNatClampNeg ≤ n1 then some (r, hIr h a (va_cpy (h.1 a0) (h.1 a) sp.toNatClampNeg dp.toNatClampNeg n.toNatClampNeg)) else none
      | (4, n0, _), (4, n1, _) => if sp.toNatClampNeg + n.toNatClampNeg ≤ n0 ∧ dp.toNatClampNeg + n.toNatClampNeg ≤ n1 then some (r, hFr h a (va_cpy (h.2.1 a0) (h.2.1 a) sp.toNatClampNeg dp.toNatClampNeg n.toNatClampNeg)) else none
      | _, _ => none
    | _ => none
  | _ => none
def swt (q : List (Int32 × Nat) × Nat) (x : Int32) : Nat := match q.1.find? (fun e => e.1 == x) with | some e => e.2 | none => q.2
/-- a call's arguments out of the stack, the receiver first (kind 0: with one) -/
def cArgs (kd na mj : Nat) (st : List Value) : Option (List Value × List Value) :=
  if na ≤ st.length then (match kd with
    | 1 => some ((st.take na).reverse, st.drop na)
    | _ => match st.drop na with
      | .ref b :: r => match layAt b with
        | (0, ci, _) => if ci = kOf (cO mj) then some (.ref b :: (st.take na).reverse, r) else none
        | _ => none
      | _ => none) else none
def rKind : Option FieldType → Nat
  | some .int => 0
  | some .boolean => 1
  | some .char => 2
  | _ => 3
/-- what a method answers that stands at a return -/
def retv (mj pc : Nat) (st : List Value) : Option (Option Value) :=
  match cdT mj pc with
  | some (9, .ireturn, _) => match st with | [.int x] => if kOk (rKind (cR mj)) x = true then some (some (.int x)) else none | _ => none
  | some (9, .freturn, _) => match st with | [.float x] => some (some (.float x)) | _ => none
  | some (9, .dreturn, _) => match st with | [.double x] => some (some (.double x)) | _ => none
  | some (9, .lreturn, _) => match st with | [.long x] => some (some (.long x)) | _ => none
  | some (9, .return_, _) => match st with | [] => some none | _ => none
  | _ => none
/-- one instruction that is no call, no branch -/
def stp (mi pc : Nat) (lc : LC) (st : List Value) (h : AH) : Option Cf :=
  match cdT mi pc with
  | some (0, ins, nx, _, _, _, v) => match stA ins v st with | some st' => some (nx, lc, st', h) | none => none
  | some (1, ins, nx, _, _, _, v) => match stL ins v lc st with | some (lc', st') => some (nx, lc', st', h) | none => none
  | some (3, ins, nx, r1, r2, _, _) => match stH ins r1 r2 st h with | some (st', h') => some (nx, lc, st', h') | none => none
  | some (5, _, nx, _, _, r3, _) => if ((st.drop 2).map fun v => v.category).sum ≤ 8 then (match stP r3 st h with | some (st', h') => some (nx, lc, st', h') | none => none) else none
  | some (6, _, _, _, _, _, _) => match st with | .int x :: r => some (swt (cSw mi pc) x, lc, r, h) | _ => none
  | _ => none
/-- runs on to a return, or to what this can't do; d: how many calls may stand open -/
def run : Nat → Nat → Nat → Nat → LC → List Value → AH → Option Cf
  | 0, _, _, _, _, _, _ => none
  | n + 1, d, mi, pc, lc, st, h =>
    match cdT mi pc with
    | none => none
    | some (2, ins, nx, r1, _, _, _) => match stB ins st with | some q => run n d mi (if q.1 = true then r1 else nx) lc q.2 h | none => none
    | some (4, _, nx, mj, na, kd, _) => match d with
      | 0 => none
      | d' + 1 => match cArgs kd na mj st with
        | none => none
        | some q => if (q.2.map fun v => v.category).sum ≤ 8 ∧ (q.1.map fun v => v.category).sum ≤ cM mj then (match run n d' mj 0 (lv_args 0 q.1) [] h with
          | none => none
          | some c => match retv mj c.1 c.2.2.1 with
            | none => none
            | some v => run n d mi nx lc (v.toList ++ q.2) c.2.2.2) else none
    | some (7, _) => some (pc, lc, st, h)
    | some (9, _) => some (pc, lc, st, h)
    | some _ => match stp mi pc lc st h with | none => none | some c => run n d mi c.1 c.2.1 c.2.2.1 c.2.2.2

end
end
section
noncomputable section
def lenI : Instr → Nat
  | .bipush _ => 2 | .ldc _ => 2 | .iload _ => 2 | .aload _ => 2 | .fload _ => 2 | .lload _ => 2 | .dload _ => 2
  | .istore _ => 2 | .astore _ => 2 | .fstore _ => 2 | .lstore _ => 2 | .dstore _ => 2
  | .sipush _ => 3 | .ldc2_w _ => 3 | .iinc _ _ => 3 | .goto _ => 3 | .ifCond _ _ => 3 | .if_icmp _ _ => 3 | .ifnull _ => 3 | .ifnonnull _ => 3
  | .getfield _ => 3 | .putfield _ => 3 | .invokevirtual _ => 3 | .invokestatic _ => 3
  | _ => 1
def wfA (o : Nat) (ins : Instr) (v : Value) : Bool := match ins with
  | .iconst n => decide (v = .int (Int32.ofInt n))
  | .bipush n => decide (v = .int (Int8.ofInt n).toInt32)
  | .sipush n => decide (v = .int (Int16.ofInt n).toInt32)
  | .fconst n => decide (n = 0 ∧ v = .float FP.fconst0 ∨ n = 1 ∧ v = .float FP.fconst1 ∨ n = 2 ∧ v = .float FP.fconst2)
  | .dconst n => decide (n = 0 ∧ v = .double FP.dconst0 ∨ n = 1 ∧ v = .double FP.dconst1)
  | .lconst n => decide (v = .long (Int64.ofNat (n : Nat)))
  | .ldc i => (match v with | .int _ => true | .float _ => true | _ => false) && kP.any (fun q => Nat.beq q.1 o && Nat.beq q.2.1 i && decide (q.2.2.1 = v))
  | .ldc2_w i => (match v with | .long _ => true | .double _ => true | _ => false) && kP.any (fun q => Nat.beq q.1 o && Nat.beq q.2.1 i && decide (q.2.2.1 = v))
  | _ => true
def wfL (nl : Nat) (ins : Instr) (v : Value) : Bool := match ins with
  | .istore i => decide (i < nl) | .astore i => decide (i < nl) | .fstore i => decide (i < nl) | .lstore i => decide (i + 1 < nl) | .dstore i => decide (i + 1 < nl)
  | .istore_n i => decide ((i : Nat) < nl) | .astore_n i => decide ((i : Nat) < nl) | .fstore_n i => decide ((i : Nat) < nl) | .lstore_n i => decide ((i : Nat) + 1 < nl) | .dstore_n i => decide ((i : Nat) + 1 < nl)
  | .iinc i n => decide (i < nl ∧ v = .int (Int32.ofInt n))
  | _ => true
def wfB (pc : Nat) (ins : Instr) (r1 : Nat) : Bool := match ins with
  | .goto f => decide ((pc : Int) + f = (r1 : Int)) | .ifCond _ f => decide ((pc : Int) + f = (r1 : Int)) | .if_icmp _ f => decide ((pc : Int) + f = (r1 : Int))
  | .ifnull f => decide ((pc : Int) + f = (r1 : Int)) | .ifnonnull f => decide ((pc : Int) + f = (r1 : Int))
  | _ => false
def wfH (o : Nat) (ins : Instr) (r1 r2 : Nat) : Bool := match ins with
  | .getfield i => fP.any (fun q => Nat.beq q.1 o && Nat.beq q.2.1 i && Nat.beq q.2.2.1 r1 && Nat.beq q.2.2.2.1 r2)
  | .putfield i => fP.any (fun q => Nat.beq q.1 o && Nat.beq q.2.1 i && Nat.beq q.2.2.1 r1 && Nat.beq q.2.2.2.1 r2) && !(cT r1 r2).2.2.2
  | _ => true
def wfC (o : Nat) (ins : Instr) (mj na kd : Nat) : Bool :=
  mP.any (fun q => Nat.beq q.1 o && (match ins with | .invokevirtual i => Nat.beq q.2.1 i | .invokestatic i => Nat.beq q.2.1 i | _ => false) && Nat.beq q.2.2.1 mj)
  && (match ins with | .invokevirtual _ => Nat.beq kd 0 && Nat.blt (kOf (cO mj)) 9 && decide (cC (kOf (cO mj)) = (cY mj).cls) && iP.any (fun q => Nat.beq q.1 mj) && sP.any (fun q => Nat.beq q.1 mj) | .invokestatic _ => Nat.beq kd 1 && tP.any (fun q => Nat.beq q.1 mj) | _ => false)
  && !(Nat.beq mj mL_law) && decide ((cY mj).cls ≠ "java/lang/invoke/MethodHandle" ∧ (cY mj).cls ≠ "java/lang/invoke/VarHandle") && nP.any (fun q => Nat.beq q.1 (cO mj)) && cdd.any (fun q => Nat.beq q mj) && Nat.blt mj nMeth
  && decide ((parseMethodDescriptor (cY mj).desc).map (fun d => d.parameters.length) = some na) && Nat.ble (cM mj) 16
def wfP (o : Nat) (ins : Instr) (r3 : Nat) : Bool := match ins with
  | .invokestatic i => pP.any (fun q => Nat.beq q.1 o && Nat.beq q.2.1 i && Nat.beq q.2.2.1 r3)
  | _ => false
def wfS (pc : Nat) (ins : Instr) (q : List (Int32 × Nat) × Nat) : Bool := match ins with
  | .tableswitch d lo hi offs => decide ((pc : Int) + d = (q.2 : Int)) && q.1.all (fun e => decide (lo ≤ e.1.toInt ∧ e.1.toInt ≤ hi ∧ (offs[(e.1.toInt - lo).toNat]?).map (fun f => (pc : Int) + f) = some (e.2 : Int)))
      && (List.range (hi - lo + 1).toNat).all (fun j => q.1.any (fun e => decide (e.1.toInt = lo + (j : Int))))
  | .lookupswitch d ps => decide ((pc : Int) + d = (q.2 : Int)) && (ps.toList.zip (ps.toList.drop 1)).all (fun (a, next) => a.1 < next.1)
      && q.1.all (fun e => decide ((pc : Int) + Op.lookupswitch.offset ps.toList d e.1.toInt = (e.2 : Int))) && ps.toList.all (fun a => q.1.any (fun e => decide (e.1.toInt = a.1)))
  | _ => false
def wfR (ins : Instr) (rt : Option FieldType) : Bool := match ins with
  | .ireturn => Nat.blt (rKind rt) 3
  | .freturn => decide (rt = some .float)
  | .dreturn => decide (rt = some .double)
  | .lreturn => decide (rt = some .long)
  | .return_ => decide (rt = none)
  | _ => false
def wfE (mi pc : Nat) (e : Ent) : Bool := match e with
  | (k, ins, nx, r1, r2, r3, v) => decide (decode (cB mi) pc = .ok (ins, nx - pc)) && Nat.ble pc nx && (match k with
    | 0 => Nat.beq nx (pc + lenI ins) && wfA (cO mi) ins v
    | 1 => Nat.beq nx (pc + lenI ins) && wfL (cM mi) ins v
    | 2 => Nat.beq nx (pc + lenI ins) && wfB pc ins r1
    | 3 => Nat.beq nx (pc + lenI ins) && wfH (cO mi) ins r1 r2
    | 4 => Nat.beq nx (pc + lenI ins) && wfC (cO mi) ins r1 r2 r3
    | 5 => Nat.beq nx (pc + lenI ins) && wfP (cO mi) ins r3
    | 6 => wfS pc ins (cSw mi pc)
    | 9 => Nat.beq nx (pc + 1) && wfR ins (cR mi)
    | _ => true)
theorem lk_mem : ∀ (l : List (Nat × Ent)) (pc : Nat) (e : Ent), lk l pc = some e → (pc, e) ∈ l
  | [], _, _, h => by simp [lk] at h
  | (p, x) :: t, pc, e, h => by
    unfold lk at h
    cases hb : Nat.beq p pc with
    | true =>
      rw [hb] at h
      have e1 := Option.some.inj h
      have e2 := Nat.eq_of_beq_eq_true hb
      subst e1; subst e2
      exact List.mem_cons_self
    | false =>
      rw [hb] at h
      exact List.mem_cons_of_mem _ (lk_mem t pc e h)
theorem tE {α : Type} {mi n : Nat} {P : α → Prop} {a d : α} (h1 : mi = n → P a) (h2 : P d) : P (bif Nat.beq mi n then a else d) := by
  cases hb : Nat.beq mi n with
  | true => exact h1 (Nat.eq_of_beq_eq_true hb)
  | false => exact h2
theorem tB {α : Type} {b : Bool} {P : α → Prop} {a d : α} (h1 : P a) (h2 : P d) : P (bif b then a else d) := by
  cases b with
  | true => exact h1
  | false => exact h2
set_option maxRecDepth 100000 in
theorem wf_X0_init_0 : ∀ q ∈ cl_X0_init_0, wfE 0 q.1 q.2 = true := by decide +kernel
set_option maxRecDepth 100000 in
theorem wf_X0_hoursToFirstGone_0 : ∀ q ∈ cl_X0_hoursToFirstGone_0, wfE 1 q.1 q.2 = true := by decide +kernel
set_option maxRecDepth 100000 in
theorem wf_X0_bitsOfMass_0 : ∀ q ∈ cl_X0_bitsOfMass_0, wfE 2 q.1 q.2 = true := by decide +kernel
set_option maxRecDepth 100000 in
theorem wf_X0_blocksOnWall_0 : ∀ q ∈ cl_X0_blocksOnWall_0, wfE 3 q.1 q.2 = true := by decide +kernel
set_option maxRecDepth 100000 in
theorem wf_X0_isSafeFor_0 : ∀ q ∈ cl_X0_isSafeFor_0, wfE 4 q.1 q.2 = true := by decide +kernel
set_option maxRecDepth 100000 in
theorem wf_X1_isAllWell_0 : ∀ q ∈ cl_X1_isAllWell_0, wfE 5 q.1 q.2 = true := by decide +kernel
set_option maxRecDepth 100000 in
theorem wf_X1_isSomewhere_0 : ∀ q ∈ cl_X1_isSomewhere_0, wfE 6 q.1 q.2 = true := by decide +kernel
set_option maxRecDepth 100000 in
theorem wf_X1_isSomewhere_1 : ∀ q ∈ cl_X1_isSomewhere_1, wfE 6 q.1 q.2 = true := by decide +kernel
set_option maxRecDepth 100000 in
theorem wf_X1_isFirm_0 : ∀ q ∈ cl_X1_isFirm_0, wfE 7 q.1 q.2 = true := by decide +kernel
set_option maxRecDepth 100000 in
theorem wf_X1_countIn_0 : ∀ q ∈ cl_X1_countIn_0, wfE 8 q.1 q.2 = true := by decide +kernel
set_option maxRecDepth 100000 in
theorem wf_X2_ofFloat_0 : ∀ q ∈ cl_X2_ofFloat_0, wfE 9 q.1 q.2 = true := by decide +kernel
set_option maxRecDepth 100000 in
theorem wf_X2_ofFloat_1 : ∀ q ∈ cl_X2_ofFloat_1, wfE 9 q.1 q.2 = true := by decide +kernel
set_option maxRecDepth 100000 in
theorem wf_X2_ofDouble_0 : ∀ q ∈ cl_X2_ofDouble_0, wfE 10 q.1 q.2 = true := by decide +kernel
set_option maxRecDepth 100000 in
theorem wf_X3_init_0 : ∀ q ∈ cl_X3_init_0, wfE 11 q.1 q.2 = true := by decide +kernel
set_option maxRecDepth 100000 in
theorem wf_X3_number_0 : ∀ q ∈ cl_X3_number_0, wfE 12 q.1 q.2 = true := by decide +kernel
set_option maxRecDepth 100000 in
theorem wf_X3_remember_0 : ∀ q ∈ cl_X3_remember_0, wfE 13 q.1 q.2 = true := by decide +kernel
set_option maxRecDepth 100000 in
theorem wf_X3_goBack_0 : ∀ q ∈ cl_X3_goBack_0, wfE 14 q.1 q.2 = true := by decide +kernel
set_option maxRecDepth 100000 in
theorem wf_X3_forget_0 : ∀ q ∈ cl_X3_forget_0, wfE 15 q.1 q.2 = true := by decide +kernel
set_option maxRecDepth 100000 in
theorem wf_X4_init_0 : ∀ q ∈ cl_X4_init_0, wfE 16 q.1 q.2 = true := by decide +kernel
set_option maxRecDepth 100000 in
theorem wf_X4_letGoBy_0 : ∀ q ∈ cl_X4_letGoBy_0, wfE 17 q.1 q.2 = true := by decide +kernel
set_option maxRecDepth 100000 in
theorem wf_X4_letGoBy_1 : ∀ q ∈ cl_X4_letGoBy_1, wfE 17 q.1 q.2 = true := by decide +kernel
set_option maxRecDepth 100000 in
theorem wf_X4_changeIce_0 : ∀ q ∈ cl_X4_changeIce_0, wfE 18 q.1 q.2 = true := by decide +kernel
set_option maxRecDepth 100000 in
theorem wf_X4_changeJoints_0 : ∀ q ∈ cl_X4_changeJoints_0, wfE 19 q.1 q.2 = true := by decide +kernel
set_option maxRecDepth 100000 in
theorem wf_X4_changeJoints_1 : ∀ q ∈ cl_X4_changeJoints_1, wfE 19 q.1 q.2 = true := by decide +kernel
set_option maxRecDepth 100000 in
theorem wf_X4_melt_0 : ∀ q ∈ cl_X4_melt_0, wfE 20 q.1 q.2 = true := by decide +kernel
set_option maxRecDepth 100000 in
theorem wf_X4_melt_1 : ∀ q ∈ cl_X4_melt_1, wfE 20 q.1 q.2 = true := by decide +kernel
set_option maxRecDepth 100000 in
theorem wf_X4_warm_0 : ∀ q ∈ cl_X4_warm_0, wfE 21 q.1 q.2 = true := by decide +kernel
set_option maxRecDepth 100000 in
theorem wf_X4_removeMelted_0 : ∀ q ∈ cl_X4_removeMelted_0, wfE 22 q.1 q.2 = true := by decide +kernel
set_option maxRecDepth 100000 in
theorem wf_X4_dropUnsupported_0 : ∀ q ∈ cl_X4_dropUnsupported_0, wfE 23 q.1 q.2 = true := by decide +kernel
set_option maxRecDepth 100000 in
theorem wf_X4_breakOverloaded_0 : ∀ q ∈ cl_X4_breakOverloaded_0, wfE 24 q.1 q.2 = true := by decide +kernel
set_option maxRecDepth 100000 in
theorem wf_X5_init_0 : ∀ q ∈ cl_X5_init_0, wfE 25 q.1 q.2 = true := by decide +kernel
set_option maxRecDepth 100000 in
theorem wf_X5_loadOf_0 : ∀ q ∈ cl_X5_loadOf_0, wfE 26 q.1 q.2 = true := by decide +kernel
set_option maxRecDepth 100000 in
theorem wf_X5_borneBy_0 : ∀ q ∈ cl_X5_borneBy_0, wfE 27 q.1 q.2 = true := by decide +kernel
set_option maxRecDepth 100000 in
theorem wf_X5_sumUp_0 : ∀ q ∈ cl_X5_sumUp_0, wfE 28 q.1 q.2 = true := by decide +kernel
set_option maxRecDepth 100000 in
theorem wf_X5_sumUp_1 : ∀ q ∈ cl_X5_sumUp_1, wfE 28 q.1 q.2 = true := by decide +kernel
set_option maxRecDepth 100000 in
theorem wf_X5_handDown_0 : ∀ q ∈ cl_X5_handDown_0, wfE 29 q.1 q.2 = true := by decide +kernel
set_option maxRecDepth 100000 in
theorem wf_X5_handDown_1 : ∀ q ∈ cl_X5_handDown_1, wfE 29 q.1 q.2 = true := by decide +kernel
set_option maxRecDepth 100000 in
theorem wf_X5_handDown_2 : ∀ q ∈ cl_X5_handDown_2, wfE 29 q.1 q.2 = true := by decide +kernel
set_option maxRecDepth 100000 in
theorem wf_X5_loadFromAbove_0 : ∀ q ∈ cl_X5_loadFromAbove_0, wfE 30 q.1 q.2 = true := by decide +kernel
set_option maxRecDepth 100000 in
theorem wf_X5_sumFromAbove_0 : ∀ q ∈ cl_X5_sumFromAbove_0, wfE 31 q.1 q.2 = true := by decide +kernel
set_option maxRecDepth 100000 in
theorem wf_X5_sumFromAbove_1 : ∀ q ∈ cl_X5_sumFromAbove_1, wfE 31 q.1 q.2 = true := by decide +kernel
set_option maxRecDepth 100000 in
theorem wf_X5_firstOverloaded_0 : ∀ q ∈ cl_X5_firstOverloaded_0, wfE 32 q.1 q.2 = true := by decide +kernel
set_option maxRecDepth 100000 in
theorem wf_X5_mostBurdened_0 : ∀ q ∈ cl_X5_mostBurdened_0, wfE 33 q.1 q.2 = true := by decide +kernel
set_option maxRecDepth 100000 in
theorem wf_X5_mostBurdened_1 : ∀ q ∈ cl_X5_mostBurdened_1, wfE 33 q.1 q.2 = true := by decide +kernel
set_option maxRecDepth 100000 in
theorem wf_X6_init_0 : ∀ q ∈ cl_X6_init_0, wfE 34 q.1 q.2 = true := by decide +kernel
set_option maxRecDepth 100000 in
theorem wf_X6_hasSpace_0 : ∀ q ∈ cl_X6_hasSpace_0, wfE 35 q.1 q.2 = true := by decide +kernel
set_option maxRecDepth 100000 in
theorem wf_X6_add_0 : ∀ q ∈ cl_X6_add_0, wfE 36 q.1 q.2 = true := by decide +kernel
set_option maxRecDepth 100000 in
theorem wf_X6_empty_0 : ∀ q ∈ cl_X6_empty_0, wfE 37 q.1 q.2 = true := by decide +kernel
set_option maxRecDepth 100000 in
theorem wf_X6_inputLength_0 : ∀ q ∈ cl_X6_inputLength_0, wfE 38 q.1 q.2 = true := by decide +kernel
set_option maxRecDepth 100000 in
theorem wf_X6_errorOffset_0 : ∀ q ∈ cl_X6_errorOffset_0, wfE 39 q.1 q.2 = true := by decide +kernel
set_option maxRecDepth 100000 in
theorem wf_X6_number_0 : ∀ q ∈ cl_X6_number_0, wfE 40 q.1 q.2 = true := by decide +kernel
set_option maxRecDepth 100000 in
theorem wf_X6_signOf_0 : ∀ q ∈ cl_X6_signOf_0, wfE 41 q.1 q.2 = true := by decide +kernel
set_option maxRecDepth 100000 in
theorem wf_X6_firstOf_0 : ∀ q ∈ cl_X6_firstOf_0, wfE 42 q.1 q.2 = true := by decide +kernel
set_option maxRecDepth 100000 in
theorem wf_X6_secondOf_0 : ∀ q ∈ cl_X6_secondOf_0, wfE 43 q.1 q.2 = true := by decide +kernel
set_option maxRecDepth 100000 in
theorem wf_X6_thirdOf_0 : ∀ q ∈ cl_X6_thirdOf_0, wfE 44 q.1 q.2 = true := by decide +kernel
set_option maxRecDepth 100000 in
theorem wf_X6_understand_0 : ∀ q ∈ cl_X6_understand_0, wfE 45 q.1 q.2 = true := by decide +kernel
set_option maxRecDepth 100000 in
theorem wf_X6_understand_1 : ∀ q ∈ cl_X6_understand_1, wfE 45 q.1 q.2 = true := by decide +kernel
set_option maxRecDepth 100000 in
theorem wf_X6_readOrder_0 : ∀ q ∈ cl_X6_readOrder_0, wfE 46 q.1 q.2 = true := by decide +kernel
set_option maxRecDepth 100000 in
theorem wf_X6_readOrder_1 : ∀ q ∈ cl_X6_readOrder_1, wfE 46 q.1 q.2 = true := by decide +kernel
set_option maxRecDepth 100000 in
theorem wf_X6_readSawing_0 : ∀ q ∈ cl_X6_readSawing_0, wfE 47 q.1 q.2 = true := by decide +kernel
set_option maxRecDepth 100000 in
theorem wf_X6_readLaying_0 : ∀ q ∈ cl_X6_readLaying_0, wfE 48 q.1 q.2 = true := by decide +kernel
set_option maxRecDepth 100000 in
theorem wf_X6_readLaying_1 : ∀ q ∈ cl_X6_readLaying_1, wfE 48 q.1 q.2 = true := by decide +kernel
set_option maxRecDepth 100000 in
theorem wf_X6_readNumber_0 : ∀ q ∈ cl_X6_readNumber_0, wfE 49 q.1 q.2 = true := by decide +kernel
set_option maxRecDepth 100000 in
theorem wf_X6_readTemperature_0 : ∀ q ∈ cl_X6_readTemperature_0, wfE 50 q.1 q.2 = true := by decide +kernel
set_option maxRecDepth 100000 in
theorem wf_X6_note_0 : ∀ q ∈ cl_X6_note_0, wfE 51 q.1 q.2 = true := by decide +kernel
set_option maxRecDepth 100000 in
theorem wf_X6_note_1 : ∀ q ∈ cl_X6_note_1, wfE 51 q.1 q.2 = true := by decide +kernel
set_option maxRecDepth 100000 in
theorem wf_X6_goPast_0 : ∀ q ∈ cl_X6_goPast_0, wfE 52 q.1 q.2 = true := by decide +kernel
set_option maxRecDepth 100000 in
theorem wf_X6_digits_0 : ∀ q ∈ cl_X6_digits_0, wfE 53 q.1 q.2 = true := by decide +kernel
set_option maxRecDepth 100000 in
theorem wf_X6_digits_1 : ∀ q ∈ cl_X6_digits_1, wfE 53 q.1 q.2 = true := by decide +kernel
set_option maxRecDepth 100000 in
theorem wf_X7_init_0 : ∀ q ∈ cl_X7_init_0, wfE 54 q.1 q.2 = true := by decide +kernel
set_option maxRecDepth 100000 in
theorem wf_X7_heightOf_0 : ∀ q ∈ cl_X7_heightOf_0, wfE 55 q.1 q.2 = true := by decide +kernel
set_option maxRecDepth 100000 in
theorem wf_X7_measure_0 : ∀ q ∈ cl_X7_measure_0, wfE 56 q.1 q.2 = true := by decide +kernel
set_option maxRecDepth 100000 in
theorem wf_X7_isInShadow_0 : ∀ q ∈ cl_X7_isInShadow_0, wfE 57 q.1 q.2 = true := by decide +kernel
set_option maxRecDepth 100000 in
theorem wf_X7_isInShadow_1 : ∀ q ∈ cl_X7_isInShadow_1, wfE 57 q.1 q.2 = true := by decide +kernel
set_option maxRecDepth 100000 in
theorem wf_X7_isShadedFromLeft_0 : ∀ q ∈ cl_X7_isShadedFromLeft_0, wfE 58 q.1 q.2 = true := by decide +kernel
set_option maxRecDepth 100000 in
theorem wf_X7_isShadedFromRight_0 : ∀ q ∈ cl_X7_isShadedFromRight_0, wfE 59 q.1 q.2 = true := by decide +kernel
set_option maxRecDepth 100000 in
theorem wf_X7_roomNumber_0 : ∀ q ∈ cl_X7_roomNumber_0, wfE 60 q.1 q.2 = true := by decide +kernel
set_option maxRecDepth 100000 in
theorem wf_X7_roomNumber_1 : ∀ q ∈ cl_X7_roomNumber_1, wfE 60 q.1 q.2 = true := by decide +kernel
set_option maxRecDepth 100000 in
theorem wf_X8_init_0 : ∀ q ∈ cl_X8_init_0, wfE 61 q.1 q.2 = true := by decide +kernel
set_option maxRecDepth 100000 in
theorem wf_X8_init_1 : ∀ q ∈ cl_X8_init_1, wfE 61 q.1 q.2 = true := by decide +kernel
set_option maxRecDepth 100000 in
theorem wf_X8_init_2 : ∀ q ∈ cl_X8_init_2, wfE 61 q.1 q.2 = true := by decide +kernel
set_option maxRecDepth 100000 in
theorem wf_X8_fill_0 : ∀ q ∈ cl_X8_fill_0, wfE 62 q.1 q.2 = true := by decide +kernel
set_option maxRecDepth 100000 in
theorem wf_X8_copyRow_0 : ∀ q ∈ cl_X8_copyRow_0, wfE 63 q.1 q.2 = true := by decide +kernel
set_option maxRecDepth 100000 in
theorem wf_X8_copyFrom_0 : ∀ q ∈ cl_X8_copyFrom_0, wfE 64 q.1 q.2 = true := by decide +kernel
set_option maxRecDepth 100000 in
theorem wf_X8_copyFrom_1 : ∀ q ∈ cl_X8_copyFrom_1, wfE 64 q.1 q.2 = true := by decide +kernel
set_option maxRecDepth 100000 in
theorem wf_X8_copyFrom_2 : ∀ q ∈ cl_X8_copyFrom_2, wfE 64 q.1 q.2 = true := by decide +kernel
set_option maxRecDepth 100000 in
theorem wf_X8_isColumn_0 : ∀ q ∈ cl_X8_isColumn_0, wfE 65 q.1 q.2 = true := by decide +kernel
set_option maxRecDepth 100000 in
theorem wf_X8_isCourse_0 : ∀ q ∈ cl_X8_isCourse_0, wfE 66 q.1 q.2 = true := by decide +kernel
set_option maxRecDepth 100000 in
theorem wf_X8_isHour_0 : ∀ q ∈ cl_X8_isHour_0, wfE 67 q.1 q.2 = true := by decide +kernel
set_option maxRecDepth 100000 in
theorem wf_X8_isRack_0 : ∀ q ∈ cl_X8_isRack_0, wfE 68 q.1 q.2 = true := by decide +kernel
set_option maxRecDepth 100000 in
theorem wf_X8_isSawn_0 : ∀ q ∈ cl_X8_isSawn_0, wfE 69 q.1 q.2 = true := by decide +kernel
set_option maxRecDepth 100000 in
theorem wf_X8_isOnWall_0 : ∀ q ∈ cl_X8_isOnWall_0, wfE 70 q.1 q.2 = true := by decide +kernel
set_option maxRecDepth 100000 in
theorem wf_X8_isInRack_0 : ∀ q ∈ cl_X8_isInRack_0, wfE 71 q.1 q.2 = true := by decide +kernel
set_option maxRecDepth 100000 in
theorem wf_X8_isGone_0 : ∀ q ∈ cl_X8_isGone_0, wfE 72 q.1 q.2 = true := by decide +kernel
set_option maxRecDepth 100000 in
theorem wf_X8_massOf_0 : ∀ q ∈ cl_X8_massOf_0, wfE 73 q.1 q.2 = true := by decide +kernel
set_option maxRecDepth 100000 in
theorem wf_X8_hourOfDay_0 : ∀ q ∈ cl_X8_hourOfDay_0, wfE 74 q.1 q.2 = true := by decide +kernel
set_option maxRecDepth 100000 in
theorem wf_X8_temperatureAt_0 : ∀ q ∈ cl_X8_temperatureAt_0, wfE 75 q.1 q.2 = true := by decide +kernel
set_option maxRecDepth 100000 in
theorem wf_X8_blockAt_0 : ∀ q ∈ cl_X8_blockAt_0, wfE 76 q.1 q.2 = true := by decide +kernel
set_option maxRecDepth 100000 in
theorem wf_X8_blockInRack_0 : ∀ q ∈ cl_X8_blockInRack_0, wfE 77 q.1 q.2 = true := by decide +kernel
set_option maxRecDepth 100000 in
theorem wf_X8_freePlace_0 : ∀ q ∈ cl_X8_freePlace_0, wfE 78 q.1 q.2 = true := by decide +kernel
set_option maxRecDepth 100000 in
theorem wf_X8_supportedColumns_0 : ∀ q ∈ cl_X8_supportedColumns_0, wfE 79 q.1 q.2 = true := by decide +kernel
set_option maxRecDepth 100000 in
theorem wf_X8_supportOf_0 : ∀ q ∈ cl_X8_supportOf_0, wfE 80 q.1 q.2 = true := by decide +kernel
set_option maxRecDepth 100000 in
theorem wf_X8_isSupported_0 : ∀ q ∈ cl_X8_isSupported_0, wfE 81 q.1 q.2 = true := by decide +kernel
set_option maxRecDepth 100000 in
theorem wf_X8_sharedColumns_0 : ∀ q ∈ cl_X8_sharedColumns_0, wfE 82 q.1 q.2 = true := by decide +kernel
set_option maxRecDepth 100000 in
theorem wf_X8_sharedColumns_1 : ∀ q ∈ cl_X8_sharedColumns_1, wfE 82 q.1 q.2 = true := by decide +kernel
set_option maxRecDepth 100000 in
theorem wf_X8_addBlock_0 : ∀ q ∈ cl_X8_addBlock_0, wfE 83 q.1 q.2 = true := by decide +kernel
set_option maxRecDepth 100000 in
theorem wf_X8_addBlock_1 : ∀ q ∈ cl_X8_addBlock_1, wfE 83 q.1 q.2 = true := by decide +kernel
set_option maxRecDepth 100000 in
theorem wf_X8_putOnWall_0 : ∀ q ∈ cl_X8_putOnWall_0, wfE 84 q.1 q.2 = true := by decide +kernel
set_option maxRecDepth 100000 in
theorem wf_X8_remove_0 : ∀ q ∈ cl_X8_remove_0, wfE 85 q.1 q.2 = true := by decide +kernel
set_option maxRecDepth 100000 in
theorem wf_X8_remove_1 : ∀ q ∈ cl_X8_remove_1, wfE 85 q.1 q.2 = true := by decide +kernel
set_option maxRecDepth 100000 in
theorem wf_X8_leaveRack_0 : ∀ q ∈ cl_X8_leaveRack_0, wfE 86 q.1 q.2 = true := by decide +kernel
set_option maxRecDepth 100000 in
theorem wf_X8_markColumns_0 : ∀ q ∈ cl_X8_markColumns_0, wfE 87 q.1 q.2 = true := by decide +kernel
set_option maxRecDepth 100000 in
theorem wf_X8_markColumns_1 : ∀ q ∈ cl_X8_markColumns_1, wfE 87 q.1 q.2 = true := by decide +kernel
set_option maxRecDepth 100000 in
theorem wf_X8_numberOf_0 : ∀ q ∈ cl_X8_numberOf_0, wfE 88 q.1 q.2 = true := by decide +kernel
set_option maxRecDepth 100000 in
theorem wf_X8_numberOf_1 : ∀ q ∈ cl_X8_numberOf_1, wfE 88 q.1 q.2 = true := by decide +kernel
set_option maxRecDepth 100000 in
theorem wf_X8_signOf_0 : ∀ q ∈ cl_X8_signOf_0, wfE 89 q.1 q.2 = true := by decide +kernel
set_option maxRecDepth 100000 in
theorem wf_X8_accountOf_0 : ∀ q ∈ cl_X8_accountOf_0, wfE 90 q.1 q.2 = true := by decide +kernel
set_option maxRecDepth 100000 in
theorem wf_X8_countOnWall_0 : ∀ q ∈ cl_X8_countOnWall_0, wfE 91 q.1 q.2 = true := by decide +kernel
set_option maxRecDepth 100000 in
theorem wf_X8_countStates_0 : ∀ q ∈ cl_X8_countStates_0, wfE 92 q.1 q.2 = true := by decide +kernel
set_option maxRecDepth 100000 in
theorem wf_X8_countCauses_0 : ∀ q ∈ cl_X8_countCauses_0, wfE 93 q.1 q.2 = true := by decide +kernel
set_option maxRecDepth 100000 in
theorem wf_X8_countFilledColumns_0 : ∀ q ∈ cl_X8_countFilledColumns_0, wfE 94 q.1 q.2 = true := by decide +kernel
set_option maxRecDepth 100000 in
theorem wf_X8_sumOfMasses_0 : ∀ q ∈ cl_X8_sumOfMasses_0, wfE 95 q.1 q.2 = true := by decide +kernel
set_option maxRecDepth 100000 in
theorem wf_X9_init_0 : ∀ q ∈ cl_X9_init_0, wfE 96 q.1 q.2 = true := by decide +kernel
set_option maxRecDepth 100000 in
theorem wf_X9_faultOf_0 : ∀ q ∈ cl_X9_faultOf_0, wfE 97 q.1 q.2 = true := by decide +kernel
set_option maxRecDepth 100000 in
theorem wf_X9_faultOf_1 : ∀ q ∈ cl_X9_faultOf_1, wfE 97 q.1 q.2 = true := by decide +kernel
set_option maxRecDepth 100000 in
theorem wf_X9_perform_0 : ∀ q ∈ cl_X9_perform_0, wfE 98 q.1 q.2 = true := by decide +kernel
set_option maxRecDepth 100000 in
theorem wf_X9_perform_1 : ∀ q ∈ cl_X9_perform_1, wfE 98 q.1 q.2 = true := by decide +kernel
set_option maxRecDepth 100000 in
theorem wf_X9_refuse_0 : ∀ q ∈ cl_X9_refuse_0, wfE 99 q.1 q.2 = true := by decide +kernel
set_option maxRecDepth 100000 in
theorem wf_X9_faultOfTemperature_0 : ∀ q ∈ cl_X9_faultOfTemperature_0, wfE 100 q.1 q.2 = true := by decide +kernel
set_option maxRecDepth 100000 in
theorem wf_X9_setTemperature_0 : ∀ q ∈ cl_X9_setTemperature_0, wfE 101 q.1 q.2 = true := by decide +kernel
set_option maxRecDepth 100000 in
theorem wf_X9_setVisitors_0 : ∀ q ∈ cl_X9_setVisitors_0, wfE 102 q.1 q.2 = true := by decide +kernel
set_option maxRecDepth 100000 in
theorem wf_X9_faultOfSawing_0 : ∀ q ∈ cl_X9_faultOfSawing_0, wfE 103 q.1 q.2 = true := by decide +kernel
set_option maxRecDepth 100000 in
theorem wf_X9_faultOfSawing_1 : ∀ q ∈ cl_X9_faultOfSawing_1, wfE 103 q.1 q.2 = true := by decide +kernel
set_option maxRecDepth 100000 in
theorem wf_X9_faultOfLaying_0 : ∀ q ∈ cl_X9_faultOfLaying_0, wfE 104 q.1 q.2 = true := by decide +kernel
set_option maxRecDepth 100000 in
theorem wf_X9_faultOfLaying_1 : ∀ q ∈ cl_X9_faultOfLaying_1, wfE 104 q.1 q.2 = true := by decide +kernel
set_option maxRecDepth 100000 in
theorem wf_X9_faultOfTaking_0 : ∀ q ∈ cl_X9_faultOfTaking_0, wfE 105 q.1 q.2 = true := by decide +kernel
set_option maxRecDepth 100000 in
theorem wf_X10_init_0 : ∀ q ∈ cl_X10_init_0, wfE 106 q.1 q.2 = true := by decide +kernel
set_option maxRecDepth 100000 in
theorem wf_X10_init_1 : ∀ q ∈ cl_X10_init_1, wfE 106 q.1 q.2 = true := by decide +kernel
set_option maxRecDepth 100000 in
theorem wf_X10_heat_0 : ∀ q ∈ cl_X10_heat_0, wfE 107 q.1 q.2 = true := by decide +kernel
set_option maxRecDepth 100000 in
theorem wf_X10_visit_0 : ∀ q ∈ cl_X10_visit_0, wfE 108 q.1 q.2 = true := by decide +kernel
set_option maxRecDepth 100000 in
theorem wf_X10_saw_0 : ∀ q ∈ cl_X10_saw_0, wfE 109 q.1 q.2 = true := by decide +kernel
set_option maxRecDepth 100000 in
theorem wf_X10_lay_0 : ∀ q ∈ cl_X10_lay_0, wfE 110 q.1 q.2 = true := by decide +kernel
set_option maxRecDepth 100000 in
theorem wf_X10_take_0 : ∀ q ∈ cl_X10_take_0, wfE 111 q.1 q.2 = true := by decide +kernel
set_option maxRecDepth 100000 in
theorem wf_X10_pass_0 : ∀ q ∈ cl_X10_pass_0, wfE 112 q.1 q.2 = true := by decide +kernel
set_option maxRecDepth 100000 in
theorem wf_X10_blockOf_0 : ∀ q ∈ cl_X10_blockOf_0, wfE 113 q.1 q.2 = true := by decide +kernel
set_option maxRecDepth 100000 in
theorem wf_X10_mass_0 : ∀ q ∈ cl_X10_mass_0, wfE 114 q.1 q.2 = true := by decide +kernel
set_option maxRecDepth 100000 in
theorem wf_X10_load_0 : ∀ q ∈ cl_X10_load_0, wfE 115 q.1 q.2 = true := by decide +kernel
set_option maxRecDepth 100000 in
theorem wf_X10_loadAgain_0 : ∀ q ∈ cl_X10_loadAgain_0, wfE 116 q.1 q.2 = true := by decide +kernel
set_option maxRecDepth 100000 in
theorem wf_X10_at_0 : ∀ q ∈ cl_X10_at_0, wfE 117 q.1 q.2 = true := by decide +kernel
set_option maxRecDepth 100000 in
theorem wf_X10_height_0 : ∀ q ∈ cl_X10_height_0, wfE 118 q.1 q.2 = true := by decide +kernel
set_option maxRecDepth 100000 in
theorem wf_X10_isShady_0 : ∀ q ∈ cl_X10_isShady_0, wfE 119 q.1 q.2 = true := by decide +kernel
set_option maxRecDepth 100000 in
theorem wf_X10_sign_0 : ∀ q ∈ cl_X10_sign_0, wfE 120 q.1 q.2 = true := by decide +kernel
set_option maxRecDepth 100000 in
theorem wf_X10_rooms_0 : ∀ q ∈ cl_X10_rooms_0, wfE 121 q.1 q.2 = true := by decide +kernel
set_option maxRecDepth 100000 in
theorem wf_X10_inRack_0 : ∀ q ∈ cl_X10_inRack_0, wfE 122 q.1 q.2 = true := by decide +kernel
set_option maxRecDepth 100000 in
theorem wf_X10_worst_0 : ∀ q ∈ cl_X10_worst_0, wfE 123 q.1 q.2 = true := by decide +kernel
set_option maxRecDepth 100000 in
theorem wf_X10_goneIn_0 : ∀ q ∈ cl_X10_goneIn_0, wfE 124 q.1 q.2 = true := by decide +kernel
set_option maxRecDepth 100000 in
theorem wf_X10_massBits_0 : ∀ q ∈ cl_X10_massBits_0, wfE 125 q.1 q.2 = true := by decide +kernel
set_option maxRecDepth 100000 in
theorem wf_X10_safe_0 : ∀ q ∈ cl_X10_safe_0, wfE 126 q.1 q.2 = true := by decide +kernel
set_option maxRecDepth 100000 in
theorem wf_X10_left_0 : ∀ q ∈ cl_X10_left_0, wfE 127 q.1 q.2 = true := by decide +kernel
set_option maxRecDepth 100000 in
theorem wf_X10_append_0 : ∀ q ∈ cl_X10_append_0, wfE 128 q.1 q.2 = true := by decide +kernel
set_option maxRecDepth 100000 in
theorem wf_X10_read_0 : ∀ q ∈ cl_X10_read_0, wfE 129 q.1 q.2 = true := by decide +kernel
set_option maxRecDepth 100000 in
theorem wf_X10_read_1 : ∀ q ∈ cl_X10_read_1, wfE 129 q.1 q.2 = true := by decide +kernel
set_option maxRecDepth 100000 in
theorem wf_X10_read_2 : ∀ q ∈ cl_X10_read_2, wfE 129 q.1 q.2 = true := by decide +kernel
set_option maxRecDepth 100000 in
theorem wf_X10_errorPosition_0 : ∀ q ∈ cl_X10_errorPosition_0, wfE 130 q.1 q.2 = true := by decide +kernel
set_option maxRecDepth 100000 in
theorem wf_X10_account_0 : ∀ q ∈ cl_X10_account_0, wfE 131 q.1 q.2 = true := by decide +kernel
set_option maxRecDepth 100000 in
theorem wf_X10_isWell_0 : ∀ q ∈ cl_X10_isWell_0, wfE 132 q.1 q.2 = true := by decide +kernel
set_option maxRecDepth 100000 in
theorem wf_X10_meanBits_0 : ∀ q ∈ cl_X10_meanBits_0, wfE 133 q.1 q.2 = true := by decide +kernel
set_option maxRecDepth 100000 in
theorem wf_X10_undo_0 : ∀ q ∈ cl_X10_undo_0, wfE 134 q.1 q.2 = true := by decide +kernel
set_option maxRecDepth 100000 in
theorem wf_X10_save_0 : ∀ q ∈ cl_X10_save_0, wfE 135 q.1 q.2 = true := by decide +kernel
set_option maxRecDepth 100000 in
theorem wf_X10_restore_0 : ∀ q ∈ cl_X10_restore_0, wfE 136 q.1 q.2 = true := by decide +kernel
set_option maxRecDepth 100000 in
theorem wf_X10_permit_0 : ∀ q ∈ cl_X10_permit_0, wfE 137 q.1 q.2 = true := by decide +kernel
set_option maxRecDepth 100000 in
theorem wf_X10_requireSawn_0 : ∀ q ∈ cl_X10_requireSawn_0, wfE 138 q.1 q.2 = true := by decide +kernel
set_option maxRecDepth 100000 in
theorem wf_X10_requireOnWall_0 : ∀ q ∈ cl_X10_requireOnWall_0, wfE 139 q.1 q.2 = true := by decide +kernel
set_option maxRecDepth 100000 in
theorem wf_X10_requireHoursAhead_0 : ∀ q ∈ cl_X10_requireHoursAhead_0, wfE 140 q.1 q.2 = true := by decide +kernel
set_option maxRecDepth 100000 in
theorem wf_Jx00060_init_a7421_0 : ∀ q ∈ cl_Jx00060_init_a7421_0, wfE 141 q.1 q.2 = true := by decide +kernel
set_option maxRecDepth 100000 in
theorem wf_J11_isValidCodePoint_9a6ad_0 : ∀ q ∈ cl_J11_isValidCodePoint_9a6ad_0, wfE 142 q.1 q.2 = true := by decide +kernel
set_option maxRecDepth 100000 in
theorem wf_J11_highSurrogate_5068e_0 : ∀ q ∈ cl_J11_highSurrogate_5068e_0, wfE 143 q.1 q.2 = true := by decide +kernel
set_option maxRecDepth 100000 in
theorem wf_J11_lowSurrogate_5068e_0 : ∀ q ∈ cl_J11_lowSurrogate_5068e_0, wfE 144 q.1 q.2 = true := by decide +kernel
set_option maxRecDepth 100000 in
theorem wf_Jxe99ae_isNaN_b9ae7_0 : ∀ q ∈ cl_Jxe99ae_isNaN_b9ae7_0, wfE 145 q.1 q.2 = true := by decide +kernel
set_option maxRecDepth 100000 in
theorem wf_Jxe99ae_doubleToLongBits_ccdee_0 : ∀ q ∈ cl_Jxe99ae_doubleToLongBits_ccdee_0, wfE 146 q.1 q.2 = true := by decide +kernel
set_option maxRecDepth 100000 in
theorem wf_J9_floorMod_7cf53_0 : ∀ q ∈ cl_J9_floorMod_7cf53_0, wfE 147 q.1 q.2 = true := by decide +kernel
set_option maxRecDepth 100000 in
theorem wf_J9_max_7cf53_0 : ∀ q ∈ cl_J9_max_7cf53_0, wfE 148 q.1 q.2 = true := by decide +kernel
set_option maxRecDepth 100000 in
theorem wf_J9_min_7cf53_0 : ∀ q ∈ cl_J9_min_7cf53_0, wfE 149 q.1 q.2 = true := by decide +kernel
set_option maxRecDepth 100000 in
theorem wf_J0_length_8abf5_0 : ∀ q ∈ cl_J0_length_8abf5_0, wfE 150 q.1 q.2 = true := by decide +kernel
set_option maxRecDepth 100000 in
theorem wf_J0_charAt_5068e_0 : ∀ q ∈ cl_J0_charAt_5068e_0, wfE 151 q.1 q.2 = true := by decide +kernel
set_option maxRecDepth 100000 in
theorem wf_J0_indexOf_0f7a4_0 : ∀ q ∈ cl_J0_indexOf_0f7a4_0, wfE 152 q.1 q.2 = true := by decide +kernel
set_option maxRecDepth 100000 in
theorem wf_J0_indexOf_7cf53_0 : ∀ q ∈ cl_J0_indexOf_7cf53_0, wfE 153 q.1 q.2 = true := by decide +kernel
set_option maxRecDepth 100000 in
theorem wf_J0_coder_7d493_0 : ∀ q ∈ cl_J0_coder_7d493_0, wfE 154 q.1 q.2 = true := by decide +kernel
set_option maxRecDepth 100000 in
theorem wf_J0_isLatin1_aae02_0 : ∀ q ∈ cl_J0_isLatin1_aae02_0, wfE 155 q.1 q.2 = true := by decide +kernel
set_option maxRecDepth 100000 in
theorem wf_J0_checkIndex_df160_0 : ∀ q ∈ cl_J0_checkIndex_df160_0, wfE 156 q.1 q.2 = true := by decide +kernel
set_option maxRecDepth 100000 in
theorem wf_J0_checkBoundsBeginEnd_23922_0 : ∀ q ∈ cl_J0_checkBoundsBeginEnd_23922_0, wfE 157 q.1 q.2 = true := by decide +kernel
set_option maxRecDepth 100000 in
theorem wf_J1_charAt_3b067_0 : ∀ q ∈ cl_J1_charAt_3b067_0, wfE 158 q.1 q.2 = true := by decide +kernel
set_option maxRecDepth 100000 in
theorem wf_J1_canEncode_9a6ad_0 : ∀ q ∈ cl_J1_canEncode_9a6ad_0, wfE 159 q.1 q.2 = true := by decide +kernel
set_option maxRecDepth 100000 in
theorem wf_J1_indexOf_4cfef_0 : ∀ q ∈ cl_J1_indexOf_4cfef_0, wfE 160 q.1 q.2 = true := by decide +kernel
set_option maxRecDepth 100000 in
theorem wf_J1_indexOfChar_4cfef_0 : ∀ q ∈ cl_J1_indexOfChar_4cfef_0, wfE 161 q.1 q.2 = true := by decide +kernel
set_option maxRecDepth 100000 in
theorem wf_J2_getChar_3b067_0 : ∀ q ∈ cl_J2_getChar_3b067_0, wfE 162 q.1 q.2 = true := by decide +kernel
set_option maxRecDepth 100000 in
theorem wf_J2_length_9d52b_0 : ∀ q ∈ cl_J2_length_9d52b_0, wfE 163 q.1 q.2 = true := by decide +kernel
set_option maxRecDepth 100000 in
theorem wf_J2_indexOf_4cfef_0 : ∀ q ∈ cl_J2_indexOf_4cfef_0, wfE 164 q.1 q.2 = true := by decide +kernel
set_option maxRecDepth 100000 in
theorem wf_J2_indexOfChar_4cfef_0 : ∀ q ∈ cl_J2_indexOfChar_4cfef_0, wfE 165 q.1 q.2 = true := by decide +kernel
set_option maxRecDepth 100000 in
theorem wf_J2_indexOfCharUnsafe_4cfef_0 : ∀ q ∈ cl_J2_indexOfCharUnsafe_4cfef_0, wfE 166 q.1 q.2 = true := by decide +kernel
set_option maxRecDepth 100000 in
theorem wf_J2_indexOfSupplementary_4cfef_0 : ∀ q ∈ cl_J2_indexOfSupplementary_4cfef_0, wfE 167 q.1 q.2 = true := by decide +kernel
set_option maxRecDepth 100000 in
theorem wf_J2_charAt_3b067_0 : ∀ q ∈ cl_J2_charAt_3b067_0, wfE 168 q.1 q.2 = true := by decide +kernel
set_option maxRecDepth 100000 in
theorem wf_J2_checkIndex_2214a_0 : ∀ q ∈ cl_J2_checkIndex_2214a_0, wfE 169 q.1 q.2 = true := by decide +kernel
set_option maxRecDepth 100000 in
theorem wf_J2_checkBoundsBeginEnd_d044e_0 : ∀ q ∈ cl_J2_checkBoundsBeginEnd_d044e_0, wfE 170 q.1 q.2 = true := by decide +kernel
set_option maxRecDepth 100000 in
theorem wf_J3_checkIndex_8e157_0 : ∀ q ∈ cl_J3_checkIndex_8e157_0, wfE 171 q.1 q.2 = true := by decide +kernel
set_option maxRecDepth 100000 in
theorem wf_J3_checkFromToIndex_8c36e_0 : ∀ q ∈ cl_J3_checkFromToIndex_8c36e_0, wfE 172 q.1 q.2 = true := by decide +kernel
set_option maxRecDepth 100000 in
theorem wf_L_cell_0 : ∀ q ∈ cl_L_cell_0, wfE 173 q.1 q.2 = true := by decide +kernel
set_option maxRecDepth 100000 in
theorem wf_L_heat_0 : ∀ q ∈ cl_L_heat_0, wfE 174 q.1 q.2 = true := by decide +kernel
set_option maxRecDepth 100000 in
theorem wf_L_visit_0 : ∀ q ∈ cl_L_visit_0, wfE 175 q.1 q.2 = true := by decide +kernel
set_option maxRecDepth 100000 in
theorem wf_L_saw_0 : ∀ q ∈ cl_L_saw_0, wfE 176 q.1 q.2 = true := by decide +kernel
set_option maxRecDepth 100000 in
theorem wf_L_lay_0 : ∀ q ∈ cl_L_lay_0, wfE 177 q.1 q.2 = true := by decide +kernel
set_option maxRecDepth 100000 in
theorem wf_L_take_0 : ∀ q ∈ cl_L_take_0, wfE 178 q.1 q.2 = true := by decide +kernel
set_option maxRecDepth 100000 in
theorem wf_L_pass_0 : ∀ q ∈ cl_L_pass_0, wfE 179 q.1 q.2 = true := by decide +kernel
set_option maxRecDepth 100000 in
theorem wf_L_goneIn_0 : ∀ q ∈ cl_L_goneIn_0, wfE 180 q.1 q.2 = true := by decide +kernel
set_option maxRecDepth 100000 in
theorem wf_L_safe_0 : ∀ q ∈ cl_L_safe_0, wfE 181 q.1 q.2 = true := by decide +kernel
set_option maxRecDepth 100000 in
theorem wf_L_worst_0 : ∀ q ∈ cl_L_worst_0, wfE 182 q.1 q.2 = true := by decide +kernel
set_option maxRecDepth 100000 in
theorem wf_L_read_0 : ∀ q ∈ cl_L_read_0, wfE 183 q.1 q.2 = true := by decide +kernel
set_option maxRecDepth 100000 in
theorem wf_L_undo_0 : ∀ q ∈ cl_L_undo_0, wfE 184 q.1 q.2 = true := by decide +kernel
set_option maxRecDepth 100000 in
theorem wf_L_restore_0 : ∀ q ∈ cl_L_restore_0, wfE 185 q.1 q.2 = true := by decide +kernel
set_option maxRecDepth 100000 in
theorem wf_L_meanBits_0 : ∀ q ∈ cl_L_meanBits_0, wfE 186 q.1 q.2 = true := by decide +kernel
set_option maxRecDepth 100000 in
theorem wf_L_append_0 : ∀ q ∈ cl_L_append_0, wfE 187 q.1 q.2 = true := by decide +kernel
set_option maxRecDepth 100000 in
theorem wf_L_write_0 : ∀ q ∈ cl_L_write_0, wfE 188 q.1 q.2 = true := by decide +kernel
set_option maxRecDepth 100000 in
theorem wf_L_act_0 : ∀ q ∈ cl_L_act_0, wfE 189 q.1 q.2 = true := by decide +kernel
set_option maxRecDepth 100000 in
theorem wf_L_act_1 : ∀ q ∈ cl_L_act_1, wfE 189 q.1 q.2 = true := by decide +kernel
set_option maxRecDepth 100000 in
theorem wf_L_act_2 : ∀ q ∈ cl_L_act_2, wfE 189 q.1 q.2 = true := by decide +kernel
set_option maxRecDepth 100000 in
theorem wf_L_act_3 : ∀ q ∈ cl_L_act_3, wfE 189 q.1 q.2 = true := by decide +kernel
set_option maxRecDepth 100000 in
theorem wf_L_digest_0 : ∀ q ∈ cl_L_digest_0, wfE 190 q.1 q.2 = true := by decide +kernel
set_option maxRecDepth 100000 in
theorem wf_L_digest_1 : ∀ q ∈ cl_L_digest_1, wfE 190 q.1 q.2 = true := by decide +kernel
set_option maxRecDepth 100000 in
theorem wf_L_digest_2 : ∀ q ∈ cl_L_digest_2, wfE 190 q.1 q.2 = true := by decide +kernel
set_option maxRecDepth 100000 in
theorem wf_L_areBlocks_0 : ∀ q ∈ cl_L_areBlocks_0, wfE 191 q.1 q.2 = true := by decide +kernel
set_option maxRecDepth 100000 in
theorem wf_L_areBlocks_1 : ∀ q ∈ cl_L_areBlocks_1, wfE 191 q.1 q.2 = true := by decide +kernel
set_option maxRecDepth 100000 in
theorem wf_L_areBlocks_2 : ∀ q ∈ cl_L_areBlocks_2, wfE 191 q.1 q.2 = true := by decide +kernel
set_option maxRecDepth 100000 in
theorem wf_L_areBlocks_3 : ∀ q ∈ cl_L_areBlocks_3, wfE 191 q.1 q.2 = true := by decide +kernel
set_option maxRecDepth 100000 in
theorem wf_L_areBlocks_4 : ∀ q ∈ cl_L_areBlocks_4, wfE 191 q.1 q.2 = true := by decide +kernel
set_option maxRecDepth 100000 in
theorem wf_L_areBlocks_5 : ∀ q ∈ cl_L_areBlocks_5, wfE 191 q.1 q.2 = true := by decide +kernel
set_option maxRecDepth 100000 in
theorem wf_L_areLoads_0 : ∀ q ∈ cl_L_areLoads_0, wfE 192 q.1 q.2 = true := by decide +kernel
set_option maxRecDepth 100000 in
theorem wf_L_areLoads_1 : ∀ q ∈ cl_L_areLoads_1, wfE 192 q.1 q.2 = true := by decide +kernel
set_option maxRecDepth 100000 in
theorem wf_L_areLoads_2 : ∀ q ∈ cl_L_areLoads_2, wfE 192 q.1 q.2 = true := by decide +kernel
set_option maxRecDepth 100000 in
theorem wf_L_areLoads_3 : ∀ q ∈ cl_L_areLoads_3, wfE 192 q.1 q.2 = true := by decide +kernel
set_option maxRecDepth 100000 in
theorem wf_L_areRooms_0 : ∀ q ∈ cl_L_areRooms_0, wfE 193 q.1 q.2 = true := by decide +kernel
set_option maxRecDepth 100000 in
theorem wf_L_areRooms_1 : ∀ q ∈ cl_L_areRooms_1, wfE 193 q.1 q.2 = true := by decide +kernel
set_option maxRecDepth 100000 in
theorem wf_L_areRooms_2 : ∀ q ∈ cl_L_areRooms_2, wfE 193 q.1 q.2 = true := by decide +kernel
set_option maxRecDepth 100000 in
theorem wf_L_isFit_0 : ∀ q ∈ cl_L_isFit_0, wfE 194 q.1 q.2 = true := by decide +kernel
set_option maxRecDepth 100000 in
theorem wf_L_isAhead_0 : ∀ q ∈ cl_L_isAhead_0, wfE 195 q.1 q.2 = true := by decide +kernel
set_option maxRecDepth 100000 in
theorem wf_L_isAhead_1 : ∀ q ∈ cl_L_isAhead_1, wfE 195 q.1 q.2 = true := by decide +kernel
set_option maxRecDepth 100000 in
theorem wf_L_isAhead_2 : ∀ q ∈ cl_L_isAhead_2, wfE 195 q.1 q.2 = true := by decide +kernel
set_option maxRecDepth 100000 in
theorem wf_L_isGone_0 : ∀ q ∈ cl_L_isGone_0, wfE 196 q.1 q.2 = true := by decide +kernel
set_option maxRecDepth 100000 in
theorem wf_L_isGone_1 : ∀ q ∈ cl_L_isGone_1, wfE 196 q.1 q.2 = true := by decide +kernel
set_option maxRecDepth 100000 in
theorem wf_L_isSafe_0 : ∀ q ∈ cl_L_isSafe_0, wfE 197 q.1 q.2 = true := by decide +kernel
set_option maxRecDepth 100000 in
theorem wf_L_isSafe_1 : ∀ q ∈ cl_L_isSafe_1, wfE 197 q.1 q.2 = true := by decide +kernel
set_option maxRecDepth 100000 in
theorem wf_L_isSafe_2 : ∀ q ∈ cl_L_isSafe_2, wfE 197 q.1 q.2 = true := by decide +kernel
theorem wd_X0_init (pc : Nat) : ∀ q ∈ cd_X0_init pc, wfE 0 q.1 q.2 = true := wf_X0_init_0
theorem wd_X0_hoursToFirstGone (pc : Nat) : ∀ q ∈ cd_X0_hoursToFirstGone pc, wfE 1 q.1 q.2 = true := wf_X0_hoursToFirstGone_0
theorem wd_X0_bitsOfMass (pc : Nat) : ∀ q ∈ cd_X0_bitsOfMass pc, wfE 2 q.1 q.2 = true := wf_X0_bitsOfMass_0
theorem wd_X0_blocksOnWall (pc : Nat) : ∀ q ∈ cd_X0_blocksOnWall pc, wfE 3 q.1 q.2 = true := wf_X0_blocksOnWall_0
theorem wd_X0_isSafeFor (pc : Nat) : ∀ q ∈ cd_X0_isSafeFor pc, wfE 4 q.1 q.2 = true := wf_X0_isSafeFor_0
theorem wd_X1_isAllWell (pc : Nat) : ∀ q ∈ cd_X1_isAllWell pc, wfE 5 q.1 q.2 = true := wf_X1_isAllWell_0
theorem wd_X1_isSomewhere (pc : Nat) : ∀ q ∈ cd_X1_isSomewhere pc, wfE 6 q.1 q.2 = true := tB (P := fun q : List (Nat × Ent) => ∀ x ∈ q, wfE 6 x.1 x.2 = true) (wf_X1_isSomewhere_0) (wf_X1_isSomewhere_1)
theorem wd_X1_isFirm (pc : Nat) : ∀ q ∈ cd_X1_isFirm pc, wfE 7 q.1 q.2 = true := wf_X1_isFirm_0
theorem wd_X1_countIn (pc : Nat) : ∀ q ∈ cd_X1_countIn pc, wfE 8 q.1 q.2 = true := wf_X1_countIn_0
theorem wd_X2_ofFloat (pc : Nat) : ∀ q ∈ cd_X2_ofFloat pc, wfE 9 q.1 q.2 = true := tB (P := fun q : List (Nat × Ent) => ∀ x ∈ q, wfE 9 x.1 x.2 = true) (wf_X2_ofFloat_0) (wf_X2_ofFloat_1)
theorem wd_X2_ofDouble (pc : Nat) : ∀ q ∈ cd_X2_ofDouble pc, wfE 10 q.1 q.2 = true := wf_X2_ofDouble_0
theorem wd_X3_init (pc : Nat) : ∀ q ∈ cd_X3_init pc, wfE 11 q.1 q.2 = true := wf_X3_init_0
theorem wd_X3_number (pc : Nat) : ∀ q ∈ cd_X3_number pc, wfE 12 q.1 q.2 = true := wf_X3_number_0
theorem wd_X3_remember (pc : Nat) : ∀ q ∈ cd_X3_remember pc, wfE 13 q.1 q.2 = true := wf_X3_remember_0
theorem wd_X3_goBack (pc : Nat) : ∀ q ∈ cd_X3_goBack pc, wfE 14 q.1 q.2 = true := wf_X3_goBack_0
theorem wd_X3_forget (pc : Nat) : ∀ q ∈ cd_X3_forget pc, wfE 15 q.1 q.2 = true := wf_X3_forget_0
theorem wd_X4_init (pc : Nat) : ∀ q ∈ cd_X4_init pc, wfE 16 q.1 q.2 = true := wf_X4_init_0
theorem wd_X4_letGoBy (pc : Nat) : ∀ q ∈ cd_X4_letGoBy pc, wfE 17 q.1 q.2 = true := tB (P := fun q : List (Nat × Ent) => ∀ x ∈ q, wfE 17 x.1 x.2 = true) (wf_X4_letGoBy_0) (wf_X4_letGoBy_1)
theorem wd_X4_changeIce (pc : Nat) : ∀ q ∈ cd_X4_changeIce pc, wfE 18 q.1 q.2 = true := wf_X4_changeIce_0
theorem wd_X4_changeJoints (pc : Nat) : ∀ q ∈ cd_X4_changeJoints pc, wfE 19 q.1 q.2 = true := tB (P := fun q : List (Nat × Ent) => ∀ x ∈ q, wfE 19 x.1 x.2 = true) (wf_X4_changeJoints_0) (wf_X4_changeJoints_1)
theorem wd_X4_melt (pc : Nat) : ∀ q ∈ cd_X4_melt pc, wfE 20 q.1 q.2 = true := tB (P := fun q : List (Nat × Ent) => ∀ x ∈ q, wfE 20 x.1 x.2 = true) (wf_X4_melt_0) (wf_X4_melt_1)
theorem wd_X4_warm (pc : Nat) : ∀ q ∈ cd_X4_warm pc, wfE 21 q.1 q.2 = true := wf_X4_warm_0
theorem wd_X4_removeMelted (pc : Nat) : ∀ q ∈ cd_X4_removeMelted pc, wfE 22 q.1 q.2 = true := wf_X4_removeMelted_0
theorem wd_X4_dropUnsupported (pc : Nat) : ∀ q ∈ cd_X4_dropUnsupported pc, wfE 23 q.1 q.2 = true := wf_X4_dropUnsupported_0
theorem wd_X4_breakOverloaded (pc : Nat) : ∀ q ∈ cd_X4_breakOverloaded pc, wfE 24 q.1 q.2 = true := wf_X4_breakOverloaded_0
theorem wd_X5_init (pc : Nat) : ∀ q ∈ cd_X5_init pc, wfE 25 q.1 q.2 = true := wf_X5_init_0
theorem wd_X5_loadOf (pc : Nat) : ∀ q ∈ cd_X5_loadOf pc, wfE 26 q.1 q.2 = true := wf_X5_loadOf_0
theorem wd_X5_borneBy (pc : Nat) : ∀ q ∈ cd_X5_borneBy pc, wfE 27 q.1 q.2 = true := wf_X5_borneBy_0
theorem wd_X5_sumUp (pc : Nat) : ∀ q ∈ cd_X5_sumUp pc, wfE 28 q.1 q.2 = true := tB (P := fun q : List (Nat × Ent) => ∀ x ∈ q, wfE 28 x.1 x.2 = true) (wf_X5_sumUp_0) (wf_X5_sumUp_1)
theorem wd_X5_handDown (pc : Nat) : ∀ q ∈ cd_X5_handDown pc, wfE 29 q.1 q.2 = true := tB (P := fun q : List (Nat × Ent) => ∀ x ∈ q, wfE 29 x.1 x.2 = true) (wf_X5_handDown_0) (tB (P := fun q : List (Nat × Ent) => ∀ x ∈ q, wfE 29 x.1 x.2 = true) (wf_X5_handDown_1) (wf_X5_handDown_2))
theorem wd_X5_loadFromAbove (pc : Nat) : ∀ q ∈ cd_X5_loadFromAbove pc, wfE 30 q.1 q.2 = true := wf_X5_loadFromAbove_0
theorem wd_X5_sumFromAbove (pc : Nat) : ∀ q ∈ cd_X5_sumFromAbove pc, wfE 31 q.1 q.2 = true := tB (P := fun q : List (Nat × Ent) => ∀ x ∈ q, wfE 31 x.1 x.2 = true) (wf_X5_sumFromAbove_0) (wf_X5_sumFromAbove_1)
theorem wd_X5_firstOverloaded (pc : Nat) : ∀ q ∈ cd_X5_firstOverloaded pc, wfE 32 q.1 q.2 = true := wf_X5_firstOverloaded_0
theorem wd_X5_mostBurdened (pc : Nat) : ∀ q ∈ cd_X5_mostBurdened pc, wfE 33 q.1 q.2 = true := tB (P := fun q : List (Nat × Ent) => ∀ x ∈ q, wfE 33 x.1 x.2 = true) (wf_X5_mostBurdened_0) (wf_X5_mostBurdened_1)
theorem wd_X6_init (pc : Nat) : ∀ q ∈ cd_X6_init pc, wfE 34 q.1 q.2 = true := wf_X6_init_0
theorem wd_X6_hasSpace (pc : Nat) : ∀ q ∈ cd_X6_hasSpace pc, wfE 35 q.1 q.2 = true := wf_X6_hasSpace_0
theorem wd_X6_add (pc : Nat) : ∀ q ∈ cd_X6_add pc, wfE 36 q.1 q.2 = true := wf_X6_add_0
theorem wd_X6_empty (pc : Nat) : ∀ q ∈ cd_X6_empty pc, wfE 37 q.1 q.2 = true := wf_X6_empty_0
theorem wd_X6_inputLength (pc : Nat) : ∀ q ∈ cd_X6_inputLength pc, wfE 38 q.1 q.2 = true := wf_X6_inputLength_0
theorem wd_X6_errorOffset (pc : Nat) : ∀ q ∈ cd_X6_errorOffset pc, wfE 39 q.1 q.2 = true := wf_X6_errorOffset_0
theorem wd_X6_number (pc : Nat) : ∀ q ∈ cd_X6_number pc, wfE 40 q.1 q.2 = true := wf_X6_number_0
theorem wd_X6_signOf (pc : Nat) : ∀ q ∈ cd_X6_signOf pc, wfE 41 q.1 q.2 = true := wf_X6_signOf_0
theorem wd_X6_firstOf (pc : Nat) : ∀ q ∈ cd_X6_firstOf pc, wfE 42 q.1 q.2 = true := wf_X6_firstOf_0
theorem wd_X6_secondOf (pc : Nat) : ∀ q ∈ cd_X6_secondOf pc, wfE 43 q.1 q.2 = true := wf_X6_secondOf_0
theorem wd_X6_thirdOf (pc : Nat) : ∀ q ∈ cd_X6_thirdOf pc, wfE 44 q.1 q.2 = true := wf_X6_thirdOf_0
theorem wd_X6_understand (pc : Nat) : ∀ q ∈ cd_X6_understand pc, wfE 45 q.1 q.2 = true := tB (P := fun q : List (Nat × Ent) => ∀ x ∈ q, wfE 45 x.1 x.2 = true) (wf_X6_understand_0) (wf_X6_understand_1)
theorem wd_X6_readOrder (pc : Nat) : ∀ q ∈ cd_X6_readOrder pc, wfE 46 q.1 q.2 = true := tB (P := fun q : List (Nat × Ent) => ∀ x ∈ q, wfE 46 x.1 x.2 = true) (wf_X6_readOrder_0) (wf_X6_readOrder_1)
theorem wd_X6_readSawing (pc : Nat) : ∀ q ∈ cd_X6_readSawing pc, wfE 47 q.1 q.2 = true := wf_X6_readSawing_0
theorem wd_X6_readLaying (pc : Nat) : ∀ q ∈ cd_X6_readLaying pc, wfE 48 q.1 q.2 = true := tB (P := fun q : List (Nat × Ent) => ∀ x ∈ q, wfE 48 x.1 x.2 = true) (wf_X6_readLaying_0) (wf_X6_readLaying_1)
theorem wd_X6_readNumber (pc : Nat) : ∀ q ∈ cd_X6_readNumber pc, wfE 49 q.1 q.2 = true := wf_X6_readNumber_0
theorem wd_X6_readTemperature (pc : Nat) : ∀ q ∈ cd_X6_readTemperature pc, wfE 50 q.1 q.2 = true := wf_X6_readTemperature_0
theorem wd_X6_note (pc : Nat) : ∀ q ∈ cd_X6_note pc, wfE 51 q.1 q.2 = true := tB (P := fun q : List (Nat × Ent) => ∀ x ∈ q, wfE 51 x.1 x.2 = true) (wf_X6_note_0) (wf_X6_note_1)
theorem wd_X6_goPast (pc : Nat) : ∀ q ∈ cd_X6_goPast pc, wfE 52 q.1 q.2 = true := wf_X6_goPast_0
theorem wd_X6_digits (pc : Nat) : ∀ q ∈ cd_X6_digits pc, wfE 53 q.1 q.2 = true := tB (P := fun q : List (Nat × Ent) => ∀ x ∈ q, wfE 53 x.1 x.2 = true) (wf_X6_digits_0) (wf_X6_digits_1)
theorem wd_X7_init (pc : Nat) : ∀ q ∈ cd_X7_init pc, wfE 54 q.1 q.2 = true := wf_X7_init_0
theorem wd_X7_heightOf (pc : Nat) : ∀ q ∈ cd_X7_heightOf pc, wfE 55 q.1 q.2 = true := wf_X7_heightOf_0
theorem wd_X7_measure (pc : Nat) : ∀ q ∈ cd_X7_measure pc, wfE 56 q.1 q.2 = true := wf_X7_measure_0
theorem wd_X7_isInShadow (pc : Nat) : ∀ q ∈ cd_X7_isInShadow pc, wfE 57 q.1 q.2 = true := tB (P := fun q : List (Nat × Ent) => ∀ x ∈ q, wfE 57 x.1 x.2 = true) (wf_X7_isInShadow_0) (wf_X7_isInShadow_1)
theorem wd_X7_isShadedFromLeft (pc : Nat) : ∀ q ∈ cd_X7_isShadedFromLeft pc, wfE 58 q.1 q.2 = true := wf_X7_isShadedFromLeft_0
theorem wd_X7_isShadedFromRight (pc : Nat) : ∀ q ∈ cd_X7_isShadedFromRight pc, wfE 59 q.1 q.2 = true := wf_X7_isShadedFromRight_0
theorem wd_X7_roomNumber (pc : Nat) : ∀ q ∈ cd_X7_roomNumber pc, wfE 60 q.1 q.2 = true := tB (P := fun q : List (Nat × Ent) => ∀ x ∈ q, wfE 60 x.1 x.2 = true) (wf_X7_roomNumber_0) (wf_X7_roomNumber_1)
theorem wd_X8_init (pc : Nat) : ∀ q ∈ cd_X8_init pc, wfE 61 q.1 q.2 = true := tB (P := fun q : List (Nat × Ent) => ∀ x ∈ q, wfE 61 x.1 x.2 = true) (wf_X8_init_0) (tB (P := fun q : List (Nat × Ent) => ∀ x ∈ q, wfE 61 x.1 x.2 = true) (wf_X8_init_1) (wf_X8_init_2))
theorem wd_X8_fill (pc : Nat) : ∀ q ∈ cd_X8_fill pc, wfE 62 q.1 q.2 = true := wf_X8_fill_0
theorem wd_X8_copyRow (pc : Nat) : ∀ q ∈ cd_X8_copyRow pc, wfE 63 q.1 q.2 = true := wf_X8_copyRow_0
theorem wd_X8_copyFrom (pc : Nat) : ∀ q ∈ cd_X8_copyFrom pc, wfE 64 q.1 q.2 = true := tB (P := fun q : List (Nat × Ent) => ∀ x ∈ q, wfE 64 x.1 x.2 = true) (wf_X8_copyFrom_0) (tB (P := fun q : List (Nat × Ent) => ∀ x ∈ q, wfE 64 x.1 x.2 = true) (wf_X8_copyFrom_1) (wf_X8_copyFrom_2))
theorem wd_X8_isColumn (pc : Nat) : ∀ q ∈ cd_X8_isColumn pc, wfE 65 q.1 q.2 = true := wf_X8_isColumn_0
theorem wd_X8_isCourse (pc : Nat) : ∀ q ∈ cd_X8_isCourse pc, wfE 66 q.1 q.2 = true := wf_X8_isCourse_0
theorem wd_X8_isHour (pc : Nat) : ∀ q ∈ cd_X8_isHour pc, wfE 67 q.1 q.2 = true := wf_X8_isHour_0
theorem wd_X8_isRack (pc : Nat) : ∀ q ∈ cd_X8_isRack pc, wfE 68 q.1 q.2 = true := wf_X8_isRack_0
theorem wd_X8_isSawn (pc : Nat) : ∀ q ∈ cd_X8_isSawn pc, wfE 69 q.1 q.2 = true := wf_X8_isSawn_0
theorem wd_X8_isOnWall (pc : Nat) : ∀ q ∈ cd_X8_isOnWall pc, wfE 70 q.1 q.2 = true := wf_X8_isOnWall_0
theorem wd_X8_isInRack (pc : Nat) : ∀ q ∈ cd_X8_isInRack pc, wfE 71 q.1 q.2 = true := wf_X8_isInRack_0
theorem wd_X8_isGone (pc : Nat) : ∀ q ∈ cd_X8_isGone pc, wfE 72 q.1 q.2 = true := wf_X8_isGone_0
theorem wd_X8_massOf (pc : Nat) : ∀ q ∈ cd_X8_massOf pc, wfE 73 q.1 q.2 = true := wf_X8_massOf_0
theorem wd_X8_hourOfDay (pc : Nat) : ∀ q ∈ cd_X8_hourOfDay pc, wfE 74 q.1 q.2 = true := wf_X8_hourOfDay_0
theorem wd_X8_temperatureAt (pc : Nat) : ∀ q ∈ cd_X8_temperatureAt pc, wfE 75 q.1 q.2 = true := wf_X8_temperatureAt_0
theorem wd_X8_blockAt (pc : Nat) : ∀ q ∈ cd_X8_blockAt pc, wfE 76 q.1 q.2 = true := wf_X8_blockAt_0
theorem wd_X8_blockInRack (pc : Nat) : ∀ q ∈ cd_X8_blockInRack pc, wfE 77 q.1 q.2 = true := wf_X8_blockInRack_0
theorem wd_X8_freePlace (pc : Nat) : ∀ q ∈ cd_X8_freePlace pc, wfE 78 q.1 q.2 = true := wf_X8_freePlace_0
theorem wd_X8_supportedColumns (pc : Nat) : ∀ q ∈ cd_X8_supportedColumns pc, wfE 79 q.1 q.2 = true := wf_X8_supportedColumns_0
theorem wd_X8_supportOf (pc : Nat) : ∀ q ∈ cd_X8_supportOf pc, wfE 80 q.1 q.2 = true := wf_X8_supportOf_0
theorem wd_X8_isSupported (pc : Nat) : ∀ q ∈ cd_X8_isSupported pc, wfE 81 q.1 q.2 = true := wf_X8_isSupported_0
theorem wd_X8_sharedColumns (pc : Nat) : ∀ q ∈ cd_X8_sharedColumns pc, wfE 82 q.1 q.2 = true := tB (P := fun q : List (Nat × Ent) => ∀ x ∈ q, wfE 82 x.1 x.2 = true) (wf_X8_sharedColumns_0) (wf_X8_sharedColumns_1)
theorem wd_X8_addBlock (pc : Nat) : ∀ q ∈ cd_X8_addBlock pc, wfE 83 q.1 q.2 = true := tB (P := fun q : List (Nat × Ent) => ∀ x ∈ q, wfE 83 x.1 x.2 = true) (wf_X8_addBlock_0) (wf_X8_addBlock_1)
theorem wd_X8_putOnWall (pc : Nat) : ∀ q ∈ cd_X8_putOnWall pc, wfE 84 q.1 q.2 = true := wf_X8_putOnWall_0
theorem wd_X8_remove (pc : Nat) : ∀ q ∈ cd_X8_remove pc, wfE 85 q.1 q.2 = true := tB (P := fun q : List (Nat × Ent) => ∀ x ∈ q, wfE 85 x.1 x.2 = true) (wf_X8_remove_0) (wf_X8_remove_1)
theorem wd_X8_leaveRack (pc : Nat) : ∀ q ∈ cd_X8_leaveRack pc, wfE 86 q.1 q.2 = true := wf_X8_leaveRack_0
theorem wd_X8_markColumns (pc : Nat) : ∀ q ∈ cd_X8_markColumns pc, wfE 87 q.1 q.2 = true := tB (P := fun q : List (Nat × Ent) => ∀ x ∈ q, wfE 87 x.1 x.2 = true) (wf_X8_markColumns_0) (wf_X8_markColumns_1)
theorem wd_X8_numberOf (pc : Nat) : ∀ q ∈ cd_X8_numberOf pc, wfE 88 q.1 q.2 = true := tB (P := fun q : List (Nat × Ent) => ∀ x ∈ q, wfE 88 x.1 x.2 = true) (wf_X8_numberOf_0) (wf_X8_numberOf_1)
theorem wd_X8_signOf (pc : Nat) : ∀ q ∈ cd_X8_signOf pc, wfE 89 q.1 q.2 = true := wf_X8_signOf_0
theorem wd_X8_accountOf (pc : Nat) : ∀ q ∈ cd_X8_accountOf pc, wfE 90 q.1 q.2 = true := wf_X8_accountOf_0
theorem wd_X8_countOnWall (pc : Nat) : ∀ q ∈ cd_X8_countOnWall pc, wfE 91 q.1 q.2 = true := wf_X8_countOnWall_0
theorem wd_X8_countStates (pc : Nat) : ∀ q ∈ cd_X8_countStates pc, wfE 92 q.1 q.2 = true := wf_X8_countStates_0
theorem wd_X8_countCauses (pc : Nat) : ∀ q ∈ cd_X8_countCauses pc, wfE 93 q.1 q.2 = true := wf_X8_countCauses_0
theorem wd_X8_countFilledColumns (pc : Nat) : ∀ q ∈ cd_X8_countFilledColumns pc, wfE 94 q.1 q.2 = true := wf_X8_countFilledColumns_0
theorem wd_X8_sumOfMasses (pc : Nat) : ∀ q ∈ cd_X8_sumOfMasses pc, wfE 95 q.1 q.2 = true := wf_X8_sumOfMasses_0
theorem wd_X9_init (pc : Nat) : ∀ q ∈ cd_X9_init pc, wfE 96 q.1 q.2 = true := wf_X9_init_0
theorem wd_X9_faultOf (pc : Nat) : ∀ q ∈ cd_X9_faultOf pc, wfE 97 q.1 q.2 = true := tB (P := fun q : List (Nat × Ent) => ∀ x ∈ q, wfE 97 x.1 x.2 = true) (wf_X9_faultOf_0) (wf_X9_faultOf_1)
theorem wd_X9_perform (pc : Nat) : ∀ q ∈ cd_X9_perform pc, wfE 98 q.1 q.2 = true := tB (P := fun q : List (Nat × Ent) => ∀ x ∈ q, wfE 98 x.1 x.2 = true) (wf_X9_perform_0) (wf_X9_perform_1)
theorem wd_X9_refuse (pc : Nat) : ∀ q ∈ cd_X9_refuse pc, wfE 99 q.1 q.2 = true := wf_X9_refuse_0
theorem wd_X9_faultOfTemperature (pc : Nat) : ∀ q ∈ cd_X9_faultOfTemperature pc, wfE 100 q.1 q.2 = true := wf_X9_faultOfTemperature_0
theorem wd_X9_setTemperature (pc : Nat) : ∀ q ∈ cd_X9_setTemperature pc, wfE 101 q.1 q.2 = true := wf_X9_setTemperature_0
theorem wd_X9_setVisitors (pc : Nat) : ∀ q ∈ cd_X9_setVisitors pc, wfE 102 q.1 q.2 = true := wf_X9_setVisitors_0
theorem wd_X9_faultOfSawing (pc : Nat) : ∀ q ∈ cd_X9_faultOfSawing pc, wfE 103 q.1 q.2 = true := tB (P := fun q : List (Nat × Ent) => ∀ x ∈ q, wfE 103 x.1 x.2 = true) (wf_X9_faultOfSawing_0) (wf_X9_faultOfSawing_1)
theorem wd_X9_faultOfLaying (pc : Nat) : ∀ q ∈ cd_X9_faultOfLaying pc, wfE 104 q.1 q.2 = true := tB (P := fun q : List (Nat × Ent) => ∀ x ∈ q, wfE 104 x.1 x.2 = true) (wf_X9_faultOfLaying_0) (wf_X9_faultOfLaying_1)
theorem wd_X9_faultOfTaking (pc : Nat) : ∀ q ∈ cd_X9_faultOfTaking pc, wfE 105 q.1 q.2 = true := wf_X9_faultOfTaking_0
theorem wd_X10_init (pc : Nat) : ∀ q ∈ cd_X10_init pc, wfE 106 q.1 q.2 = true := tB (P := fun q : List (Nat × Ent) => ∀ x ∈ q, wfE 106 x.1 x.2 = true) (wf_X10_init_0) (wf_X10_init_1)
theorem wd_X10_heat (pc : Nat) : ∀ q ∈ cd_X10_heat pc, wfE 107 q.1 q.2 = true := wf_X10_heat_0
theorem wd_X10_visit (pc : Nat) : ∀ q ∈ cd_X10_visit pc, wfE 108 q.1 q.2 = true := wf_X10_visit_0
theorem wd_X10_saw (pc : Nat) : ∀ q ∈ cd_X10_saw pc, wfE 109 q.1 q.2 = true := wf_X10_saw_0
theorem wd_X10_lay (pc : Nat) : ∀ q ∈ cd_X10_lay pc, wfE 110 q.1 q.2 = true := wf_X10_lay_0
theorem wd_X10_take (pc : Nat) : ∀ q ∈ cd_X10_take pc, wfE 111 q.1 q.2 = true := wf_X10_take_0
theorem wd_X10_pass (pc : Nat) : ∀ q ∈ cd_X10_pass pc, wfE 112 q.1 q.2 = true := wf_X10_pass_0
theorem wd_X10_blockOf (pc : Nat) : ∀ q ∈ cd_X10_blockOf pc, wfE 113 q.1 q.2 = true := wf_X10_blockOf_0
theorem wd_X10_mass (pc : Nat) : ∀ q ∈ cd_X10_mass pc, wfE 114 q.1 q.2 = true := wf_X10_mass_0
theorem wd_X10_load (pc : Nat) : ∀ q ∈ cd_X10_load pc, wfE 115 q.1 q.2 = true := wf_X10_load_0
theorem wd_X10_loadAgain (pc : Nat) : ∀ q ∈ cd_X10_loadAgain pc, wfE 116 q.1 q.2 = true := wf_X10_loadAgain_0
theorem wd_X10_at (pc : Nat) : ∀ q ∈ cd_X10_at pc, wfE 117 q.1 q.2 = true := wf_X10_at_0
theorem wd_X10_height (pc : Nat) : ∀ q ∈ cd_X10_height pc, wfE 118 q.1 q.2 = true := wf_X10_height_0
theorem wd_X10_isShady (pc : Nat) : ∀ q ∈ cd_X10_isShady pc, wfE 119 q.1 q.2 = true := wf_X10_isShady_0
theorem wd_X10_sign (pc : Nat) : ∀ q ∈ cd_X10_sign pc, wfE 120 q.1 q.2 = true := wf_X10_sign_0
theorem wd_X10_rooms (pc : Nat) : ∀ q ∈ cd_X10_rooms pc, wfE 121 q.1 q.2 = true := wf_X10_rooms_0
theorem wd_X10_inRack (pc : Nat) : ∀ q ∈ cd_X10_inRack pc, wfE 122 q.1 q.2 = true := wf_X10_inRack_0
theorem wd_X10_worst (pc : Nat) : ∀ q ∈ cd_X10_worst pc, wfE 123 q.1 q.2 = true := wf_X10_worst_0
theorem wd_X10_goneIn (pc : Nat) : ∀ q ∈ cd_X10_goneIn pc, wfE 124 q.1 q.2 = true := wf_X10_goneIn_0
theorem wd_X10_massBits (pc : Nat) : ∀ q ∈ cd_X10_massBits pc, wfE 125 q.1 q.2 = true := wf_X10_massBits_0
theorem wd_X10_safe (pc : Nat) : ∀ q ∈ cd_X10_safe pc, wfE 126 q.1 q.2 = true := wf_X10_safe_0
theorem wd_X10_left (pc : Nat) : ∀ q ∈ cd_X10_left pc, wfE 127 q.1 q.2 = true := wf_X10_left_0
theorem wd_X10_append (pc : Nat) : ∀ q ∈ cd_X10_append pc, wfE 128 q.1 q.2 = true := wf_X10_append_0
theorem wd_X10_read (pc : Nat) : ∀ q ∈ cd_X10_read pc, wfE 129 q.1 q.2 = true := tB (P := fun q : List (Nat × Ent) => ∀ x ∈ q, wfE 129 x.1 x.2 = true) (wf_X10_read_0) (tB (P := fun q : List (Nat × Ent) => ∀ x ∈ q, wfE 129 x.1 x.2 = true) (wf_X10_read_1) (wf_X10_read_2))
theorem wd_X10_errorPosition (pc : Nat) : ∀ q ∈ cd_X10_errorPosition pc, wfE 130 q.1 q.2 = true := wf_X10_errorPosition_0
theorem wd_X10_account (pc : Nat) : ∀ q ∈ cd_X10_account pc, wfE 131 q.1 q.2 = true := wf_X10_account_0
theorem wd_X10_isWell (pc : Nat) : ∀ q ∈ cd_X10_isWell pc, wfE 132 q.1 q.2 = true := wf_X10_isWell_0
theorem wd_X10_meanBits (pc : Nat) : ∀ q ∈ cd_X10_meanBits pc, wfE 133 q.1 q.2 = true := wf_X10_meanBits_0
theorem wd_X10_undo (pc : Nat) : ∀ q ∈ cd_X10_undo pc, wfE 134 q.1 q.2 = true := wf_X10_undo_0
theorem wd_X10_save (pc : Nat) : ∀ q ∈ cd_X10_save pc, wfE 135 q.1 q.2 = true := wf_X10_save_0
theorem wd_X10_restore (pc : Nat) : ∀ q ∈ cd_X10_restore pc, wfE 136 q.1 q.2 = true := wf_X10_restore_0
theorem wd_X10_permit (pc : Nat) : ∀ q ∈ cd_X10_permit pc, wfE 137 q.1 q.2 = true := wf_X10_permit_0
theorem wd_X10_requireSawn (pc : Nat) : ∀ q ∈ cd_X10_requireSawn pc, wfE 138 q.1 q.2 = true := wf_X10_requireSawn_0
theorem wd_X10_requireOnWall (pc : Nat) : ∀ q ∈ cd_X10_requireOnWall pc, wfE 139 q.1 q.2 = true := wf_X10_requireOnWall_0
theorem wd_X10_requireHoursAhead (pc : Nat) : ∀ q ∈ cd_X10_requireHoursAhead pc, wfE 140 q.1 q.2 = true := wf_X10_requireHoursAhead_0
theorem wd_Jx00060_init_a7421 (pc : Nat) : ∀ q ∈ cd_Jx00060_init_a7421 pc, wfE 141 q.1 q.2 = true := wf_Jx00060_init_a7421_0
theorem wd_J11_isValidCodePoint_9a6ad (pc : Nat) : ∀ q ∈ cd_J11_isValidCodePoint_9a6ad pc, wfE 142 q.1 q.2 = true := wf_J11_isValidCodePoint_9a6ad_0
theorem wd_J11_highSurrogate_5068e (pc : Nat) : ∀ q ∈ cd_J11_highSurrogate_5068e pc, wfE 143 q.1 q.2 = true := wf_J11_highSurrogate_5068e_0
theorem wd_J11_lowSurrogate_5068e (pc : Nat) : ∀ q ∈ cd_J11_lowSurrogate_5068e pc, wfE 144 q.1 q.2 = true := wf_J11_lowSurrogate_5068e_0
theorem wd_Jxe99ae_isNaN_b9ae7 (pc : Nat) : ∀ q ∈ cd_Jxe99ae_isNaN_b9ae7 pc, wfE 145 q.1 q.2 = true := wf_Jxe99ae_isNaN_b9ae7_0
theorem wd_Jxe99ae_doubleToLongBits_ccdee (pc : Nat) : ∀ q ∈ cd_Jxe99ae_doubleToLongBits_ccdee pc, wfE 146 q.1 q.2 = true := wf_Jxe99ae_doubleToLongBits_ccdee_0
theorem wd_J9_floorMod_7cf53 (pc : Nat) : ∀ q ∈ cd_J9_floorMod_7cf53 pc, wfE 147 q.1 q.2 = true := wf_J9_floorMod_7cf53_0
theorem wd_J9_max_7cf53 (pc : Nat) : ∀ q ∈ cd_J9_max_7cf53 pc, wfE 148 q.1 q.2 = true := wf_J9_max_7cf53_0
theorem wd_J9_min_7cf53 (pc : Nat) : ∀ q ∈ cd_J9_min_7cf53 pc, wfE 149 q.1 q.2 = true := wf_J9_min_7cf53_0
theorem wd_J0_length_8abf5 (pc : Nat) : ∀ q ∈ cd_J0_length_8abf5 pc, wfE 150 q.1 q.2 = true := wf_J0_length_8abf5_0
theorem wd_J0_charAt_5068e (pc : Nat) : ∀ q ∈ cd_J0_charAt_5068e pc, wfE 151 q.1 q.2 = true := wf_J0_charAt_5068e_0
theorem wd_J0_indexOf_0f7a4 (pc : Nat) : ∀ q ∈ cd_J0_indexOf_0f7a4 pc, wfE 152 q.1 q.2 = true := wf_J0_indexOf_0f7a4_0
theorem wd_J0_indexOf_7cf53 (pc : Nat) : ∀ q ∈ cd_J0_indexOf_7cf53 pc, wfE 153 q.1 q.2 = true := wf_J0_indexOf_7cf53_0
theorem wd_J0_coder_7d493 (pc : Nat) : ∀ q ∈ cd_J0_coder_7d493 pc, wfE 154 q.1 q.2 = true := wf_J0_coder_7d493_0
theorem wd_J0_isLatin1_aae02 (pc : Nat) : ∀ q ∈ cd_J0_isLatin1_aae02 pc, wfE 155 q.1 q.2 = true := wf_J0_isLatin1_aae02_0
theorem wd_J0_checkIndex_df160 (pc : Nat) : ∀ q ∈ cd_J0_checkIndex_df160 pc, wfE 156 q.1 q.2 = true := wf_J0_checkIndex_df160_0
theorem wd_J0_checkBoundsBeginEnd_23922 (pc : Nat) : ∀ q ∈ cd_J0_checkBoundsBeginEnd_23922 pc, wfE 157 q.1 q.2 = true := wf_J0_checkBoundsBeginEnd_23922_0
theorem wd_J1_charAt_3b067 (pc : Nat) : ∀ q ∈ cd_J1_charAt_3b067 pc, wfE 158 q.1 q.2 = true := wf_J1_charAt_3b067_0
theorem wd_J1_canEncode_9a6ad (pc : Nat) : ∀ q ∈ cd_J1_canEncode_9a6ad pc, wfE 159 q.1 q.2 = true := wf_J1_canEncode_9a6ad_0
theorem wd_J1_indexOf_4cfef (pc : Nat) : ∀ q ∈ cd_J1_indexOf_4cfef pc, wfE 160 q.1 q.2 = true := wf_J1_indexOf_4cfef_0
theorem wd_J1_indexOfChar_4cfef (pc : Nat) : ∀ q ∈ cd_J1_indexOfChar_4cfef pc, wfE 161 q.1 q.2 = true := wf_J1_indexOfChar_4cfef_0
theorem wd_J2_getChar_3b067 (pc : Nat) : ∀ q ∈ cd_J2_getChar_3b067 pc, wfE 162 q.1 q.2 = true := wf_J2_getChar_3b067_0
theorem wd_J2_length_9d52b (pc : Nat) : ∀ q ∈ cd_J2_length_9d52b pc, wfE 163 q.1 q.2 = true := wf_J2_length_9d52b_0
theorem wd_J2_indexOf_4cfef (pc : Nat) : ∀ q ∈ cd_J2_indexOf_4cfef pc, wfE 164 q.1 q.2 = true := wf_J2_indexOf_4cfef_0
theorem wd_J2_indexOfChar_4cfef (pc : Nat) : ∀ q ∈ cd_J2_indexOfChar_4cfef pc, wfE 165 q.1 q.2 = true := wf_J2_indexOfChar_4cfef_0
theorem wd_J2_indexOfCharUnsafe_4cfef (pc : Nat) : ∀ q ∈ cd_J2_indexOfCharUnsafe_4cfef pc, wfE 166 q.1 q.2 = true := wf_J2_indexOfCharUnsafe_4cfef_0
theorem wd_J2_indexOfSupplementary_4cfef (pc : Nat) : ∀ q ∈ cd_J2_indexOfSupplementary_4cfef pc, wfE 167 q.1 q.2 = true := wf_J2_indexOfSupplementary_4cfef_0
theorem wd_J2_charAt_3b067 (pc : Nat) : ∀ q ∈ cd_J2_charAt_3b067 pc, wfE 168 q.1 q.2 = true := wf_J2_charAt_3b067_0
theorem wd_J2_checkIndex_2214a (pc : Nat) : ∀ q ∈ cd_J2_checkIndex_2214a pc, wfE 169 q.1 q.2 = true := wf_J2_checkIndex_2214a_0
theorem wd_J2_checkBoundsBeginEnd_d044e (pc : Nat) : ∀ q ∈ cd_J2_checkBoundsBeginEnd_d044e pc, wfE 170 q.1 q.2 = true := wf_J2_checkBoundsBeginEnd_d044e_0
theorem wd_J3_checkIndex_8e157 (pc : Nat) : ∀ q ∈ cd_J3_checkIndex_8e157 pc, wfE 171 q.1 q.2 = true := wf_J3_checkIndex_8e157_0
theorem wd_J3_checkFromToIndex_8c36e (pc : Nat) : ∀ q ∈ cd_J3_checkFromToIndex_8c36e pc, wfE 172 q.1 q.2 = true := wf_J3_checkFromToIndex_8c36e_0
theorem wd_L_cell (pc : Nat) : ∀ q ∈ cd_L_cell pc, wfE 173 q.1 q.2 = true := wf_L_cell_0
theorem wd_L_heat (pc : Nat) : ∀ q ∈ cd_L_heat pc, wfE 174 q.1 q.2 = true := wf_L_heat_0
theorem wd_L_visit (pc : Nat) : ∀ q ∈ cd_L_visit pc, wfE 175 q.1 q.2 = true := wf_L_visit_0
theorem wd_L_saw (pc : Nat) : ∀ q ∈ cd_L_saw pc, wfE 176 q.1 q.2 = true := wf_L_saw_0
theorem wd_L_lay (pc : Nat) : ∀ q ∈ cd_L_lay pc, wfE 177 q.1 q.2 = true := wf_L_lay_0
theorem wd_L_take (pc : Nat) : ∀ q ∈ cd_L_take pc, wfE 178 q.1 q.2 = true := wf_L_take_0
theorem wd_L_pass (pc : Nat) : ∀ q ∈ cd_L_pass pc, wfE 179 q.1 q.2 = true := wf_L_pass_0
theorem wd_L_goneIn (pc : Nat) : ∀ q ∈ cd_L_goneIn pc, wfE 180 q.1 q.2 = true := wf_L_goneIn_0
theorem wd_L_safe (pc : Nat) : ∀ q ∈ cd_L_safe pc, wfE 181 q.1 q.2 = true := wf_L_safe_0
theorem wd_L_worst (pc : Nat) : ∀ q ∈ cd_L_worst pc, wfE 182 q.1 q.2 = true := wf_L_worst_0
theorem wd_L_read (pc : Nat) : ∀ q ∈ cd_L_read pc, wfE 183 q.1 q.2 = true := wf_L_read_0
theorem wd_L_undo (pc : Nat) : ∀ q ∈ cd_L_undo pc, wfE 184 q.1 q.2 = true := wf_L_undo_0
theorem wd_L_restore (pc : Nat) : ∀ q ∈ cd_L_restore pc, wfE 185 q.1 q.2 = true := wf_L_restore_0
theorem wd_L_meanBits (pc : Nat) : ∀ q ∈ cd_L_meanBits pc, wfE 186 q.1 q.2 = true := wf_L_meanBits_0
theorem wd_L_append (pc : Nat) : ∀ q ∈ cd_L_append pc, wfE 187 q.1 q.2 = true := wf_L_append_0
theorem wd_L_write (pc : Nat) : ∀ q ∈ cd_L_write pc, wfE 188 q.1 q.2 = true := wf_L_write_0
theorem wd_L_act (pc : Nat) : ∀ q ∈ cd_L_act pc, wfE 189 q.1 q.2 = true := tB (P := fun q : List (Nat × Ent) => ∀ x ∈ q, wfE 189 x.1 x.2 = true) (tB (P := fun q : List (Nat × Ent) => ∀ x ∈ q, wfE 189 x.1 x.2 = true) (wf_L_act_0) (wf_L_act_1)) (tB (P := fun q : List (Nat × Ent) => ∀ x ∈ q, wfE 189 x.1 x.2 = true) (wf_L_act_2) (wf_L_act_3))
theorem wd_L_digest (pc : Nat) : ∀ q ∈ cd_L_digest pc, wfE 190 q.1 q.2 = true := tB (P := fun q : List (Nat × Ent) => ∀ x ∈ q, wfE 190 x.1 x.2 = true) (wf_L_digest_0) (tB (P := fun q : List (Nat × Ent) => ∀ x ∈ q, wfE 190 x.1 x.2 = true) (wf_L_digest_1) (wf_L_digest_2))
theorem wd_L_areBlocks (pc : Nat) : ∀ q ∈ cd_L_areBlocks pc, wfE 191 q.1 q.2 = true := tB (P := fun q : List (Nat × Ent) => ∀ x ∈ q, wfE 191 x.1 x.2 = true) (tB (P := fun q : List (Nat × Ent) => ∀ x ∈ q, wfE 191 x.1 x.2 = true) (wf_L_areBlocks_0) (tB (P := fun q : List (Nat × Ent) => ∀ x ∈ q, wfE 191 x.1 x.2 = true) (wf_L_areBlocks_1) (wf_L_areBlocks_2))) (tB (P := fun q : List (Nat × Ent) => ∀ x ∈ q, wfE 191 x.1 x.2 = true) (wf_L_areBlocks_3) (tB (P := fun q : List (Nat × Ent) => ∀ x ∈ q, wfE 191 x.1 x.2 = true) (wf_L_areBlocks_4) (wf_L_areBlocks_5)))
theorem wd_L_areLoads (pc : Nat) : ∀ q ∈ cd_L_areLoads pc, wfE 192 q.1 q.2 = true := tB (P := fun q : List (Nat × Ent) => ∀ x ∈ q, wfE 192 x.1 x.2 = true) (tB (P := fun q : List (Nat × Ent) => ∀ x ∈ q, wfE 192 x.1 x.2 = true) (wf_L_areLoads_0) (wf_L_areLoads_1)) (tB (P := fun q : List (Nat × Ent) => ∀ x ∈ q, wfE 192 x.1 x.2 = true) (wf_L_areLoads_2) (wf_L_areLoads_3))
theorem wd_L_areRooms (pc : Nat) : ∀ q ∈ cd_L_areRooms pc, wfE 193 q.1 q.2 = true := tB (P := fun q : List (Nat × Ent) => ∀ x ∈ q, wfE 193 x.1 x.2 = true) (wf_L_areRooms_0) (tB (P := fun q : List (Nat × Ent) => ∀ x ∈ q, wfE 193 x.1 x.2 = true) (wf_L_areRooms_1) (wf_L_areRooms_2))
theorem wd_L_isFit (pc : Nat) : ∀ q ∈ cd_L_isFit pc, wfE 194 q.1 q.2 = true := wf_L_isFit_0
theorem wd_L_isAhead (pc : Nat) : ∀ q ∈ cd_L_isAhead pc, wfE 195 q.1 q.2 = true := tB (P := fun q : List (Nat × Ent) => ∀ x ∈ q, wfE 195 x.1 x.2 = true) (wf_L_isAhead_0) (tB (P := fun q : List (Nat × Ent) => ∀ x ∈ q, wfE 195 x.1 x.2 = true) (wf_L_isAhead_1) (wf_L_isAhead_2))
theorem wd_L_isGone (pc : Nat) : ∀ q ∈ cd_L_isGone pc, wfE 196 q.1 q.2 = true := tB (P := fun q : List (Nat × Ent) => ∀ x ∈ q, wfE 196 x.1 x.2 = true) (wf_L_isGone_0) (wf_L_isGone_1)
theorem wd_L_isSafe (pc : Nat) : ∀ q ∈ cd_L_isSafe pc, wfE 197 q.1 q.2 = true := tB (P := fun q : List (Nat × Ent) => ∀ x ∈ q, wfE 197 x.1 x.2 = true) (wf_L_isSafe_0) (tB (P := fun q : List (Nat × Ent) => ∀ x ∈ q, wfE 197 x.1 x.2 = true) (wf_L_isSafe_1) (wf_L_isSafe_2))
def Pm (mi : Nat) (q : List (Nat × Ent)) : Prop := ∀ x ∈ q, wfE mi x.1 x.2 = true ∧ mi < nMeth
set_option maxRecDepth 100000 in
theorem cdS_wf (mi pc : Nat) (hL : ¬ mi = mL_law) : Pm mi (cdS mi pc) := by
  have hn : Pm mi [] := fun _ h => absurd h List.not_mem_nil
  unfold cdS
  exact tB (P := Pm mi) (tB (P := Pm mi) (tB (P := Pm mi) (tB (P := Pm mi) (tB (P := Pm mi) (tB (P := Pm mi) (tB (P := Pm mi) (tE (P := Pm mi) (fun h => by subst h; exact fun x hx => ⟨wd_X0_init pc x hx, by decide⟩) hn) (tB (P := Pm mi) (tE (P := Pm mi) (fun h => by subst h; exact fun x hx => ⟨wd_X0_hoursToFirstGone pc x hx, by decide⟩) hn) (tE (P := Pm mi) (fun h => by subst h; exact fun x hx => ⟨wd_X0_bitsOfMass pc x hx, by decide⟩) hn))) (tB (P := Pm mi) (tE (P := Pm mi) (fun h => by subst h; exact fun x hx => ⟨wd_X0_blocksOnWall pc x hx, by decide⟩) hn) (tB (P := Pm mi) (tE (P := Pm mi) (fun h => by subst h; exact fun x hx => ⟨wd_X0_isSafeFor pc x hx, by decide⟩) hn) (tE (P := Pm mi) (fun h => by subst h; exact fun x hx => ⟨wd_X1_isAllWell pc x hx, by decide⟩) hn)))) (tB (P := Pm mi) (tB (P := Pm mi) (tE (P := Pm mi) (fun h => by subst h; exact fun x hx => ⟨wd_X1_isSomewhere pc x hx, by decide⟩) hn) (tB (P := Pm mi) (tE (P := Pm mi) (fun h => by subst h; exact fun x hx => ⟨wd_X1_isFirm pc x hx, by decide⟩) hn) (tE (P := Pm mi) (fun h => by subst h; exact fun x hx => ⟨wd_X1_countIn pc x hx, by decide⟩) hn))) (tB (P := Pm mi) (tE (P := Pm mi) (fun h => by subst h; exact fun x hx => ⟨wd_X2_ofFloat pc x hx, by decide⟩) hn) (tB (P := Pm mi) (tE (P := Pm mi) (fun h => by subst h; exact fun x hx => ⟨wd_X2_ofDouble pc x hx, by decide⟩) hn) (tE (P := Pm mi) (fun h => by subst h; exact fun x hx => ⟨wd_X3_init pc x hx, by decide⟩) hn))))) (tB (P := Pm mi) (tB (P := Pm mi) (tB (P := Pm mi) (tE (P := Pm mi) (fun h => by subst h; exact fun x hx => ⟨wd_X3_number pc x hx, by decide⟩) hn) (tB (P := Pm mi) (tE (P := Pm mi) (fun h => by subst h; exact fun x hx => ⟨wd_X3_remember pc x hx, by decide⟩) hn) (tE (P := Pm mi) (fun h => by subst h; exact fun x hx => ⟨wd_X3_goBack pc x hx, by decide⟩) hn))) (tB (P := Pm mi) (tE (P := Pm mi) (fun h => by subst h; exact fun x hx => ⟨wd_X3_forget pc x hx, by decide⟩) hn) (tB (P := Pm mi) (tE (P := Pm mi) (fun h => by subst h; exact fun x hx => ⟨wd_X4_init pc x hx, by decide⟩) hn) (tE (P := Pm mi) (fun h => by subst h; exact fun x hx => ⟨wd_X4_letGoBy pc x hx, by decide⟩) hn)))) (tB (P := Pm mi) (tB (P := Pm mi) (tE (P := Pm mi) (fun h => by subst h; exact fun x hx => ⟨wd_X4_changeIce pc x hx, by decide⟩) hn) (tB (P := Pm mi) (tE (P := Pm mi) (fun h => by subst h; exact fun x hx => ⟨wd_X4_changeJoints pc x hx, by decide⟩) hn) (tE (P := Pm mi) (fun h => by subst h; exact fun x hx => ⟨wd_X4_melt pc x hx, by decide⟩) hn))) (tB (P := Pm mi) (tE (P := Pm mi) (fun h => by subst h; exact fun x hx => ⟨wd_X4_warm pc x hx, by decide⟩) hn) (tB (P := Pm mi) (tE (P := Pm mi) (fun h => by subst h; exact fun x hx => ⟨wd_X4_removeMelted pc x hx, by decide⟩) hn) (tE (P := Pm mi) (fun h => by subst h; exact fun x hx => ⟨wd_X4_dropUnsupported pc x hx, by decide⟩) hn)))))) (tB (P := Pm mi) (tB (P := Pm mi) (tB (P := Pm mi) (tB (P := Pm mi) (tE (P := Pm mi) (fun h => by subst h; exact fun x hx => ⟨wd_X4_breakOverloaded pc x hx, by decide⟩) hn) (tB (P := Pm mi) (tE (P := Pm mi) (fun h => by subst h; exact fun x hx => ⟨wd_X5_init pc x hx, by decide⟩) hn) (tE (P := Pm mi) (fun h => by subst h; exact fun x hx => ⟨wd_X5_loadOf pc x hx, by decide⟩) hn))) (tB (P := Pm mi) (tE (P := Pm mi) (fun h => by subst h; exact fun x hx => ⟨wd_X5_borneBy pc x hx, by decide⟩) hn) (tB (P := Pm mi) (tE (P := Pm mi) (fun h => by subst h; exact fun x hx => ⟨wd_X5_sumUp pc x hx, by decide⟩) hn) (tE (P := Pm mi) (fun h => by subst h; exact fun x hx => ⟨wd_X5_handDown pc x hx, by decide⟩) hn)))) (tB (P := Pm mi) (tB (P := Pm mi) (tE (P := Pm mi) (fun h => by subst h; exact fun x hx => ⟨wd_X5_loadFromAbove pc x hx, by decide⟩) hn) (tB (P := Pm mi) (tE (P := Pm mi) (fun h => by subst h; exact fun x hx => ⟨wd_X5_sumFromAbove pc x hx, by decide⟩) hn) (tE (P := Pm mi) (fun h => by subst h; exact fun x hx => ⟨wd_X5_firstOverloaded pc x hx, by decide⟩) hn))) (tB (P := Pm mi) (tE (P := Pm mi) (fun h => by subst h; exact fun x hx => ⟨wd_X5_mostBurdened pc x hx, by decide⟩) hn) (tB (P := Pm mi) (tE (P := Pm mi) (fun h => by subst h; exact fun x hx => ⟨wd_X6_init pc x hx, by decide⟩) hn) (tE (P := Pm mi) (fun h => by subst h; exact fun x hx => ⟨wd_X6_hasSpace pc x hx, by decide⟩) hn))))) (tB (P := Pm mi) (tB (P := Pm mi) (tB (P := Pm mi) (tE (P := Pm mi) (fun h => by subst h; exact fun x hx => ⟨wd_X6_add pc x hx, by decide⟩) hn) (tB (P := Pm mi) (tE (P := Pm mi) (fun h => by subst h; exact fun x hx => ⟨wd_X6_empty pc x hx, by decide⟩) hn) (tE (P := Pm mi) (fun h => by subst h; exact fun x hx => ⟨wd_X6_inputLength pc x hx, by decide⟩) hn))) (tB (P := Pm mi) (tE (P := Pm mi) (fun h => by subst h; exact fun x hx => ⟨wd_X6_errorOffset pc x hx, by decide⟩) hn) (tB (P := Pm mi) (tE (P := Pm mi) (fun h => by subst h; exact fun x hx => ⟨wd_X6_number pc x hx, by decide⟩) hn) (tE (P := Pm mi) (fun h => by subst h; exact fun x hx => ⟨wd_X6_signOf pc x hx, by decide⟩) hn)))) (tB (P := Pm mi) (tB (P := Pm mi) (tE (P := Pm mi) (fun h => by subst h; exact fun x hx => ⟨wd_X6_firstOf pc x hx, by decide⟩) hn) (tB (P := Pm mi) (tE (P := Pm mi) (fun h => by subst h; exact fun x hx => ⟨wd_X6_secondOf pc x hx, by decide⟩) hn) (tE (P := Pm mi) (fun h => by subst h; exact fun x hx => ⟨wd_X6_thirdOf pc x hx, by decide⟩) hn))) (tB (P := Pm mi) (tB (P := Pm mi) (tE (P := Pm mi) (fun h => by subst h; exact fun x hx => ⟨wd_X6_understand pc x hx, by decide⟩) hn) (tE (P := Pm mi) (fun h => by subst h; exact fun x hx => ⟨wd_X6_readOrder pc x hx, by decide⟩) hn)) (tB (P := Pm mi) (tE (P := Pm mi) (fun h => by subst h; exact fun x hx => ⟨wd_X6_readSawing pc x hx, by decide⟩) hn) (tE (P := Pm mi) (fun h => by subst h; exact fun x hx => ⟨wd_X6_readLaying pc x hx, by decide⟩) hn))))))) (tB (P := Pm mi) (tB (P := Pm mi) (tB (P := Pm mi) (tB (P := Pm mi) (tB (P := Pm mi) (tE (P := Pm mi) (fun h => by subst h; exact fun x hx => ⟨wd_X6_readNumber pc x hx, by decide⟩) hn) (tB (P := Pm mi) (tE (P := Pm mi) (fun h => by subst h; exact fun x hx => ⟨wd_X6_readTemperature pc x hx, by decide⟩) hn) (tE (P := Pm mi) (fun h => by subst h; exact fun x hx => ⟨wd_X6_note pc x hx, by decide⟩) hn))) (tB (P := Pm mi) (tE (P := Pm mi) (fun h => by subst h; exact fun x hx => ⟨wd_X6_goPast pc x hx, by decide⟩) hn) (tB (P := Pm mi) (tE (P := Pm mi) (fun h => by subst h; exact fun x hx => ⟨wd_X6_digits pc x hx, by decide⟩) hn) (tE (P := Pm mi) (fun h => by subst h; exact fun x hx => ⟨wd_X7_init pc x hx, by decide⟩) hn)))) (tB (P := Pm mi) (tB (P := Pm mi) (tE (P := Pm mi) (fun h => by subst h; exact fun x hx => ⟨wd_X7_heightOf pc x hx, by decide⟩) hn) (tB (P := Pm mi) (tE (P := Pm mi) (fun h => by subst h; exact fun x hx => ⟨wd_X7_measure pc x hx, by decide⟩) hn) (tE (P := Pm mi) (fun h => by subst h; exact fun x hx => ⟨wd_X7_isInShadow pc x hx, by decide⟩) hn))) (tB (P := Pm mi) (tE (P := Pm mi) (fun h => by subst h; exact fun x hx => ⟨wd_X7_isShadedFromLeft pc x hx, by decide⟩) hn) (tB (P := Pm mi) (tE (P := Pm mi) (fun h => by subst h; exact fun x hx => ⟨wd_X7_isShadedFromRight pc x hx, by decide⟩) hn) (tE (P := Pm mi) (fun h => by subst h; exact fun x hx => ⟨wd_X7_roomNumber pc x hx, by decide⟩) hn))))) (tB (P := Pm mi) (tB (P := Pm mi) (tB (P := Pm mi) (tE (P := Pm mi) (fun h => by subst h; exact fun x hx => ⟨wd_X8_init pc x hx, by decide⟩) hn) (tB (P := Pm mi) (tE (P := Pm mi) (fun h => by subst h; exact fun x hx => ⟨wd_X8_fill pc x hx, by decide⟩) hn) (tE (P := Pm mi) (fun h => by subst h; exact fun x hx => ⟨wd_X8_copyRow pc x hx, by decide⟩) hn))) (tB (P := Pm mi) (tE (P := Pm mi) (fun h => by subst h; exact fun x hx => ⟨wd_X8_copyFrom pc x hx, by decide⟩) hn) (tB (P := Pm mi) (tE (P := Pm mi) (fun h => by subst h; exact fun x hx => ⟨wd_X8_isColumn pc x hx, by decide⟩) hn) (tE (P := Pm mi) (fun h => by subst h; exact fun x hx => ⟨wd_X8_isCourse pc x hx, by decide⟩) hn)))) (tB (P := Pm mi) (tB (P := Pm mi) (tE (P := Pm mi) (fun h => by subst h; exact fun x hx => ⟨wd_X8_isHour pc x hx, by decide⟩) hn) (tB (P := Pm mi) (tE (P := Pm mi) (fun h => by subst h; exact fun x hx => ⟨wd_X8_isRack pc x hx, by decide⟩) hn) (tE (P := Pm mi) (fun h => by subst h; exact fun x hx => ⟨wd_X8_isSawn pc x hx, by decide⟩) hn))) (tB (P := Pm mi) (tB (P := Pm mi) (tE (P := Pm mi) (fun h => by subst h; exact fun x hx => ⟨wd_X8_isOnWall pc x hx, by decide⟩) hn) (tE (P := Pm mi) (fun h => by subst h; exact fun x hx => ⟨wd_X8_isInRack pc x hx, by decide⟩) hn)) (tB (P := Pm mi) (tE (P := Pm mi) (fun h => by subst h; exact fun x hx => ⟨wd_X8_isGone pc x hx, by decide⟩) hn) (tE (P := Pm mi) (fun h => by subst h; exact fun x hx => ⟨wd_X8_massOf pc x hx, by decide⟩) hn)))))) (tB (P := Pm mi) (tB (P := Pm mi) (tB (P := Pm mi) (tB (P := Pm mi) (tE (P := Pm mi) (fun h => by subst h; exact fun x hx => ⟨wd_X8_hourOfDay pc x hx, by decide⟩) hn) (tB (P := Pm mi) (tE (P := Pm mi) (fun h => by subst h; exact fun x hx => ⟨wd_X8_temperatureAt pc x hx, by decide⟩) hn) (tE (P := Pm mi) (fun h => by subst h; exact fun x hx => ⟨wd_X8_blockAt pc x hx, by decide⟩) hn))) (tB (P := Pm mi) (tE (P := Pm mi) (fun h => by subst h; exact fun x hx => ⟨wd_X8_blockInRack pc x hx, by decide⟩) hn) (tB (P := Pm mi) (tE (P := Pm mi) (fun h => by subst h; exact fun x hx => ⟨wd_X8_freePlace pc x hx, by decide⟩) hn) (tE (P := Pm mi) (fun h => by subst h; exact fun x hx => ⟨wd_X8_supportedColumns pc x hx, by decide⟩) hn)))) (tB (P := Pm mi) (tB (P := Pm mi) (tE (P := Pm mi) (fun h => by subst h; exact fun x hx => ⟨wd_X8_supportOf pc x hx, by decide⟩) hn) (tB (P := Pm mi) (tE (P := Pm mi) (fun h => by subst h; exact fun x hx => ⟨wd_X8_isSupported pc x hx, by decide⟩) hn) (tE (P := Pm mi) (fun h => by subst h; exact fun x hx => ⟨wd_X8_sharedColumns pc x hx, by decide⟩) hn))) (tB (P := Pm mi) (tE (P := Pm mi) (fun h => by subst h; exact fun x hx => ⟨wd_X8_addBlock pc x hx, by decide⟩) hn) (tB (P := Pm mi) (tE (P := Pm mi) (fun h => by subst h; exact fun x hx => ⟨wd_X8_putOnWall pc x hx, by decide⟩) hn) (tE (P := Pm mi) (fun h => by subst h; exact fun x hx => ⟨wd_X8_remove pc x hx, by decide⟩) hn))))) (tB (P := Pm mi) (tB (P := Pm mi) (tB (P := Pm mi) (tE (P := Pm mi) (fun h => by subst h; exact fun x hx => ⟨wd_X8_leaveRack pc x hx, by decide⟩) hn) (tB (P := Pm mi) (tE (P := Pm mi) (fun h => by subst h; exact fun x hx => ⟨wd_X8_markColumns pc x hx, by decide⟩) hn) (tE (P := Pm mi) (fun h => by subst h; exact fun x hx => ⟨wd_X8_numberOf pc x hx, by decide⟩) hn))) (tB (P := Pm mi) (tE (P := Pm mi) (fun h => by subst h; exact fun x hx => ⟨wd_X8_signOf pc x hx, by decide⟩) hn) (tB (P := Pm mi) (tE (P := Pm mi) (fun h => by subst h; exact fun x hx => ⟨wd_X8_accountOf pc x hx, by decide⟩) hn) (tE (P := Pm mi) (fun h => by subst h; exact fun x hx => ⟨wd_X8_countOnWall pc x hx, by decide⟩) hn)))) (tB (P := Pm mi) (tB (P := Pm mi) (tE (P := Pm mi) (fun h => by subst h; exact fun x hx => ⟨wd_X8_countStates pc x hx, by decide⟩) hn) (tB (P := Pm mi) (tE (P := Pm mi) (fun h => by subst h; exact fun x hx => ⟨wd_X8_countCauses pc x hx, by decide⟩) hn) (tE (P := Pm mi) (fun h => by subst h; exact fun x hx => ⟨wd_X8_countFilledColumns pc x hx, by decide⟩) hn))) (tB (P := Pm mi) (tB (P := Pm mi) (tE (P := Pm mi) (fun h => by subst h; exact fun x hx => ⟨wd_X8_sumOfMasses pc x hx, by decide⟩) hn) (tE (P := Pm mi) (fun h => by subst h; exact fun x hx => ⟨wd_X9_init pc x hx, by decide⟩) hn)) (tB (P := Pm mi) (tE (P := Pm mi) (fun h => by subst h; exact fun x hx => ⟨wd_X9_faultOf pc x hx, by decide⟩) hn) (tE (P := Pm mi) (fun h => by subst h; exact fun x hx => ⟨wd_X9_perform pc x hx, by decide⟩) hn)))))))) (tB (P := Pm mi) (tB (P := Pm mi) (tB (P := Pm mi) (tB (P := Pm mi) (tB (P := Pm mi) (tB (P := Pm mi) (tE (P := Pm mi) (fun h => by subst h; exact fun x hx => ⟨wd_X9_refuse pc x hx, by decide⟩) hn) (tB (P := Pm mi) (tE (P := Pm mi) (fun h => by subst h; exact fun x hx => ⟨wd_X9_faultOfTemperature pc x hx, by decide⟩) hn) (tE (P := Pm mi) (fun h => by subst h; exact fun x hx => ⟨wd_X9_setTemperature pc x hx, by decide⟩) hn))) (tB (P := Pm mi) (tE (P := Pm mi) (fun h => by subst h; exact fun x hx => ⟨wd_X9_setVisitors pc x hx, by decide⟩) hn) (tB (P := Pm mi) (tE (P := Pm mi) (fun h => by subst h; exact fun x hx => ⟨wd_X9_faultOfSawing pc x hx, by decide⟩) hn) (tE (P := Pm mi) (fun h => by subst h; exact fun x hx => ⟨wd_X9_faultOfLaying pc x hx, by decide⟩) hn)))) (tB (P := Pm mi) (tB (P := Pm mi) (tE (P := Pm mi) (fun h => by subst h; exact fun x hx => ⟨wd_X9_faultOfTaking pc x hx, by decide⟩) hn) (tB (P := Pm mi) (tE (P := Pm mi) (fun h => by subst h; exact fun x hx => ⟨wd_X10_init pc x hx, by decide⟩) hn) (tE (P := Pm mi) (fun h => by subst h; exact fun x hx => ⟨wd_X10_heat pc x hx, by decide⟩) hn))) (tB (P := Pm mi) (tE (P := Pm mi) (fun h => by subst h; exact fun x hx => ⟨wd_X10_visit pc x hx, by decide⟩) hn) (tB (P := Pm mi) (tE (P := Pm mi) (fun h => by subst h; exact fun x hx => ⟨wd_X10_saw pc x hx, by decide⟩) hn) (tE (P := Pm mi) (fun h => by subst h; exact fun x hx => ⟨wd_X10_lay pc x hx, by decide⟩) hn))))) (tB (P := Pm mi) (tB (P := Pm mi) (tB (P := Pm mi) (tE (P := Pm mi) (fun h => by subst h; exact fun x hx => ⟨wd_X10_take pc x hx, by decide⟩) hn) (tB (P := Pm mi) (tE (P := Pm mi) (fun h => by subst h; exact fun x hx => ⟨wd_X10_pass pc x hx, by decide⟩) hn) (tE (P := Pm mi) (fun h => by subst h; exact fun x hx => ⟨wd_X10_blockOf pc x hx, by decide⟩) hn))) (tB (P := Pm mi) (tE (P := Pm mi) (fun h => by subst h; exact fun x hx => ⟨wd_X10_mass pc x hx, by decide⟩) hn) (tB (P := Pm mi) (tE (P := Pm mi) (fun h => by subst h; exact fun x hx => ⟨wd_X10_load pc x hx, by decide⟩) hn) (tE (P := Pm mi) (fun h => by subst h; exact fun x hx => ⟨wd_X10_loadAgain pc x hx, by decide⟩) hn)))) (tB (P := Pm mi) (tB (P := Pm mi) (tE (P := Pm mi) (fun h => by subst h; exact fun x hx => ⟨wd_X10_at pc x hx, by decide⟩) hn) (tB (P := Pm mi) (tE (P := Pm mi) (fun h => by subst h; exact fun x hx => ⟨wd_X10_height pc x hx, by decide⟩) hn) (tE (P := Pm mi) (fun h => by subst h; exact fun x hx => ⟨wd_X10_isShady pc x hx, by decide⟩) hn))) (tB (P := Pm mi) (tB (P := Pm mi) (tE (P := Pm mi) (fun h => by subst h; exact fun x hx => ⟨wd_X10_sign pc x hx, by decide⟩) hn) (tE (P := Pm mi) (fun h => by subst h; exact fun x hx => ⟨wd_X10_rooms pc x hx, by decide⟩) hn)) (tB (P := Pm mi) (tE (P := Pm mi) (fun h => by subst h; exact fun x hx => ⟨wd_X10_inRack pc x hx, by decide⟩) hn) (tE (P := Pm mi) (fun h => by subst h; exact fun x hx => ⟨wd_X10_worst pc x hx, by decide⟩) hn)))))) (tB (P := Pm mi) (tB (P := Pm mi) (tB (P := Pm mi) (tB (P := Pm mi) (tE (P := Pm mi) (fun h => by subst h; exact fun x hx => ⟨wd_X10_goneIn pc x hx, by decide⟩) hn) (tB (P := Pm mi) (tE (P := Pm mi) (fun h => by subst h; exact fun x hx => ⟨wd_X10_massBits pc x hx, by decide⟩) hn) (tE (P := Pm mi) (fun h => by subst h; exact fun x hx => ⟨wd_X10_safe pc x hx, by decide⟩) hn))) (tB (P := Pm mi) (tE (P := Pm mi) (fun h => by subst h; exact fun x hx => ⟨wd_X10_left pc x hx, by decide⟩) hn) (tB (P := Pm mi) (tE (P := Pm mi) (fun h => by subst h; exact fun x hx => ⟨wd_X10_append pc x hx, by decide⟩) hn) (tE (P := Pm mi) (fun h => by subst h; exact fun x hx => ⟨wd_X10_read pc x hx, by decide⟩) hn)))) (tB (P := Pm mi) (tB (P := Pm mi) (tE (P := Pm mi) (fun h => by subst h; exact fun x hx => ⟨wd_X10_errorPosition pc x hx, by decide⟩) hn) (tB (P := Pm mi) (tE (P := Pm mi) (fun h => by subst h; exact fun x hx => ⟨wd_X10_account pc x hx, by decide⟩) hn) (tE (P := Pm mi) (fun h => by subst h; exact fun x hx => ⟨wd_X10_isWell pc x hx, by decide⟩) hn))) (tB (P := Pm mi) (tE (P := Pm mi) (fun h => by subst h; exact fun x hx => ⟨wd_X10_meanBits pc x hx, by decide⟩) hn) (tB (P := Pm mi) (tE (P := Pm mi) (fun h => by subst h; exact fun x hx => ⟨wd_X10_undo pc x hx, by decide⟩) hn) (tE (P := Pm mi) (fun h => by subst h; exact fun x hx => ⟨wd_X10_save pc x hx, by decide⟩) hn))))) (tB (P := Pm mi) (tB (P := Pm mi) (tB (P := Pm mi) (tE (P := Pm mi) (fun h => by subst h; exact fun x hx => ⟨wd_X10_restore pc x hx, by decide⟩) hn) (tB (P := Pm mi) (tE (P := Pm mi) (fun h => by subst h; exact fun x hx => ⟨wd_X10_permit pc x hx, by decide⟩) hn) (tE (P := Pm mi) (fun h => by subst h; exact fun x hx => ⟨wd_X10_requireSawn pc x hx, by decide⟩) hn))) (tB (P := Pm mi) (tE (P := Pm mi) (fun h => by subst h; exact fun x hx => ⟨wd_X10_requireOnWall pc x hx, by decide⟩) hn) (tB (P := Pm mi) (tE (P := Pm mi) (fun h => by subst h; exact fun x hx => ⟨wd_X10_requireHoursAhead pc x hx, by decide⟩) hn) (tE (P := Pm mi) (fun h => by subst h; exact fun x hx => ⟨wd_Jx00060_init_a7421 pc x hx, by decide⟩) hn)))) (tB (P := Pm mi) (tB (P := Pm mi) (tE (P := Pm mi) (fun h => by subst h; exact fun x hx => ⟨wd_J11_isValidCodePoint_9a6ad pc x hx, by decide⟩) hn) (tB (P := Pm mi) (tE (P := Pm mi) (fun h => by subst h; exact fun x hx => ⟨wd_J11_highSurrogate_5068e pc x hx, by decide⟩) hn) (tE (P := Pm mi) (fun h => by subst h; exact fun x hx => ⟨wd_J11_lowSurrogate_5068e pc x hx, by decide⟩) hn))) (tB (P := Pm mi) (tB (P := Pm mi) (tE (P := Pm mi) (fun h => by subst h; exact fun x hx => ⟨wd_Jxe99ae_isNaN_b9ae7 pc x hx, by decide⟩) hn) (tE (P := Pm mi) (fun h => by subst h; exact fun x hx => ⟨wd_Jxe99ae_doubleToLongBits_ccdee pc x hx, by decide⟩) hn)) (tB (P := Pm mi) (tE (P := Pm mi) (fun h => by subst h; exact fun x hx => ⟨wd_J9_floorMod_7cf53 pc x hx, by decide⟩) hn) (tE (P := Pm mi) (fun h => by subst h; exact fun x hx => ⟨wd_J9_max_7cf53 pc x hx, by decide⟩) hn))))))) (tB (P := Pm mi) (tB (P := Pm mi) (tB (P := Pm mi) (tB (P := Pm mi) (tB (P := Pm mi) (tE (P := Pm mi) (fun h => by subst h; exact fun x hx => ⟨wd_J9_min_7cf53 pc x hx, by decide⟩) hn) (tB (P := Pm mi) (tE (P := Pm mi) (fun h => by subst h; exact fun x hx => ⟨wd_J0_length_8abf5 pc x hx, by decide⟩) hn) (tE (P := Pm mi) (fun h => by subst h; exact fun x hx => ⟨wd_J0_charAt_5068e pc x hx, by decide⟩) hn))) (tB (P := Pm mi) (tE (P := Pm mi) (fun h => by subst h; exact fun x hx => ⟨wd_J0_indexOf_0f7a4 pc x hx, by decide⟩) hn) (tB (P := Pm mi) (tE (P := Pm mi) (fun h => by subst h; exact fun x hx => ⟨wd_J0_indexOf_7cf53 pc x hx, by decide⟩) hn) (tE (P := Pm mi) (fun h => by subst h; exact fun x hx => ⟨wd_J0_coder_7d493 pc x hx, by decide⟩) hn)))) (tB (P := Pm mi) (tB (P := Pm mi) (tE (P := Pm mi) (fun h => by subst h; exact fun x hx => ⟨wd_J0_isLatin1_aae02 pc x hx, by decide⟩) hn) (tB (P := Pm mi) (tE (P := Pm mi) (fun h => by subst h; exact fun x hx => ⟨wd_J0_checkIndex_df160 pc x hx, by decide⟩) hn) (tE (P := Pm mi) (fun h => by subst h; exact fun x hx => ⟨wd_J0_checkBoundsBeginEnd_23922 pc x hx, by decide⟩) hn))) (tB (P := Pm mi) (tE (P := Pm mi) (fun h => by subst h; exact fun x hx => ⟨wd_J1_charAt_3b067 pc x hx, by decide⟩) hn) (tB (P := Pm mi) (tE (P := Pm mi) (fun h => by subst h; exact fun x hx => ⟨wd_J1_canEncode_9a6ad pc x hx, by decide⟩) hn) (tE (P := Pm mi) (fun h => by subst h; exact fun x hx => ⟨wd_J1_indexOf_4cfef pc x hx, by decide⟩) hn))))) (tB (P := Pm mi) (tB (P := Pm mi) (tB (P := Pm mi) (tE (P := Pm mi) (fun h => by subst h; exact fun x hx => ⟨wd_J1_indexOfChar_4cfef pc x hx, by decide⟩) hn) (tB (P := Pm mi) (tE (P := Pm mi) (fun h => by subst h; exact fun x hx => ⟨wd_J2_getChar_3b067 pc x hx, by decide⟩) hn) (tE (P := Pm mi) (fun h => by subst h; exact fun x hx => ⟨wd_J2_length_9d52b pc x hx, by decide⟩) hn))) (tB (P := Pm mi) (tE (P := Pm mi) (fun h => by subst h; exact fun x hx => ⟨wd_J2_indexOf_4cfef pc x hx, by decide⟩) hn) (tB (P := Pm mi) (tE (P := Pm mi) (fun h => by subst h; exact fun x hx => ⟨wd_J2_indexOfChar_4cfef pc x hx, by decide⟩) hn) (tE (P := Pm mi) (fun h => by subst h; exact fun x hx => ⟨wd_J2_indexOfCharUnsafe_4cfef pc x hx, by decide⟩) hn)))) (tB (P := Pm mi) (tB (P := Pm mi) (tE (P := Pm mi) (fun h => by subst h; exact fun x hx => ⟨wd_J2_indexOfSupplementary_4cfef pc x hx, by decide⟩) hn) (tB (P := Pm mi) (tE (P := Pm mi) (fun h => by subst h; exact fun x hx => ⟨wd_J2_charAt_3b067 pc x hx, by decide⟩) hn) (tE (P := Pm mi) (fun h => by subst h; exact fun x hx => ⟨wd_J2_checkIndex_2214a pc x hx, by decide⟩) hn))) (tB (P := Pm mi) (tB (P := Pm mi) (tE (P := Pm mi) (fun h => by subst h; exact fun x hx => ⟨wd_J2_checkBoundsBeginEnd_d044e pc x hx, by decide⟩) hn) (tE (P := Pm mi) (fun h => by subst h; exact fun x hx => ⟨wd_J3_checkIndex_8e157 pc x hx, by decide⟩) hn)) (tB (P := Pm mi) (tE (P := Pm mi) (fun h => by subst h; exact fun x hx => ⟨wd_J3_checkFromToIndex_8c36e pc x hx, by decide⟩) hn) (tE (P := Pm mi) (fun h => by subst h; exact fun x hx => ⟨wd_L_cell pc x hx, by decide⟩) hn)))))) (tB (P := Pm mi) (tB (P := Pm mi) (tB (P := Pm mi) (tB (P := Pm mi) (tE (P := Pm mi) (fun h => by subst h; exact fun x hx => ⟨wd_L_heat pc x hx, by decide⟩) hn) (tB (P := Pm mi) (tE (P := Pm mi) (fun h => by subst h; exact fun x hx => ⟨wd_L_visit pc x hx, by decide⟩) hn) (tE (P := Pm mi) (fun h => by subst h; exact fun x hx => ⟨wd_L_saw pc x hx, by decide⟩) hn))) (tB (P := Pm mi) (tE (P := Pm mi) (fun h => by subst h; exact fun x hx => ⟨wd_L_lay pc x hx, by decide⟩) hn) (tB (P := Pm mi) (tE (P := Pm mi) (fun h => by subst h; exact fun x hx => ⟨wd_L_take pc x hx, by decide⟩) hn) (tE (P := Pm mi) (fun h => by subst h; exact fun x hx => ⟨wd_L_pass pc x hx, by decide⟩) hn)))) (tB (P := Pm mi) (tB (P := Pm mi) (tE (P := Pm mi) (fun h => by subst h; exact fun x hx => ⟨wd_L_goneIn pc x hx, by decide⟩) hn) (tB (P := Pm mi) (tE (P := Pm mi) (fun h => by subst h; exact fun x hx => ⟨wd_L_safe pc x hx, by decide⟩) hn) (tE (P := Pm mi) (fun h => by subst h; exact fun x hx => ⟨wd_L_worst pc x hx, by decide⟩) hn))) (tB (P := Pm mi) (tE (P := Pm mi) (fun h => by subst h; exact fun x hx => ⟨wd_L_read pc x hx, by decide⟩) hn) (tB (P := Pm mi) (tE (P := Pm mi) (fun h => by subst h; exact fun x hx => ⟨wd_L_undo pc x hx, by decide⟩) hn) (tE (P := Pm mi) (fun h => by subst h; exact fun x hx => ⟨wd_L_restore pc x hx, by decide⟩) hn))))) (tB (P := Pm mi) (tB (P := Pm mi) (tB (P := Pm mi) (tE (P := Pm mi) (fun h => by subst h; exact fun x hx => ⟨wd_L_meanBits pc x hx, by decide⟩) hn) (tB (P := Pm mi) (tE (P := Pm mi) (fun h => by subst h; exact fun x hx => ⟨wd_L_append pc x hx, by decide⟩) hn) (tE (P := Pm mi) (fun h => by subst h; exact fun x hx => ⟨wd_L_write pc x hx, by decide⟩) hn))) (tB (P := Pm mi) (tE (P := Pm mi) (fun h => by subst h; exact fun x hx => ⟨wd_L_act pc x hx, by decide⟩) hn) (tB (P := Pm mi) (tE (P := Pm mi) (fun h => by subst h; exact fun x hx => ⟨wd_L_digest pc x hx, by decide⟩) hn) (tE (P := Pm mi) (fun h => by subst h; exact fun x hx => ⟨wd_L_areBlocks pc x hx, by decide⟩) hn)))) (tB (P := Pm mi) (tB (P := Pm mi) (tE (P := Pm mi) (fun h => by subst h; exact fun x hx => ⟨wd_L_areLoads pc x hx, by decide⟩) hn) (tB (P := Pm mi) (tE (P := Pm mi) (fun h => by subst h; exact fun x hx => ⟨wd_L_areRooms pc x hx, by decide⟩) hn) (tE (P := Pm mi) (fun h => by subst h; exact fun x hx => ⟨wd_L_isFit pc x hx, by decide⟩) hn))) (tB (P := Pm mi) (tB (P := Pm mi) (tE (P := Pm mi) (fun h => by subst h; exact fun x hx => ⟨wd_L_isAhead pc x hx, by decide⟩) hn) (tE (P := Pm mi) (fun h => by subst h; exact fun x hx => ⟨wd_L_isGone pc x hx, by decide⟩) hn)) (tB (P := Pm mi) (tE (P := Pm mi) (fun h => by subst h; exact fun x hx => ⟨wd_L_isSafe pc x hx, by decide⟩) hn) (tE (P := Pm mi) (fun h => absurd h hL) hn))))))))
theorem cdT_wf {mi pc : Nat} {e : Ent} (hL : ¬ mi = mL_law) (h : cdT mi pc = some e) : wfE mi pc e = true ∧ mi < nMeth := by
  unfold cdT at h
  have h1 : (pc, e) ∈ cdS mi pc := lk_mem (cdS mi pc) pc e h
  have h2 := cdS_wf mi pc hL
  unfold Pm at h2
  exact h2 (pc, e) h1
def wfY (y : Lay) : Bool := match y with
  | (0, ci, sl) => Nat.blt ci 9 && Nat.beq sl.length (cN ci) && (List.range sl.length).all (fun j => (match sl.getD j 0 with | 0 => decide (cTy ci j = .int) | 1 => decide (cTy ci j = .boolean) | 2 => decide (cTy ci j = .char) | t + 3 => Nat.blt t NC))
  | (7, n, ts) => Nat.beq ts.length n && ts.all (fun t => Nat.blt t NC)
  | (8, n, ts) => Nat.beq ts.length n && ts.all (fun t => Nat.blt t NC)
  | (9, n, ts) => Nat.beq ts.length n && ts.all (fun t => Nat.blt t NC)
  | (t, _, _) => Nat.blt t 7
def Py (k : Nat) (y : Lay) : Prop := y = (99, 0, []) ∨ ((31 ≤ k ∧ k < 212) ∧ wfY y = true)
set_option maxRecDepth 100000 in
theorem layAt_wf (k : Nat) : Py k (layAt k) := by
  unfold layAt
  exact tB (P := Py k) (tB (P := Py k) (tB (P := Py k) (tB (P := Py k) (tB (P := Py k) (tB (P := Py k) (tB (P := Py k) (tE (P := Py k) (fun h => by subst h; exact Or.inr ⟨by decide, by decide +kernel⟩) (Or.inl rfl)) (tE (P := Py k) (fun h => by subst h; exact Or.inr ⟨by decide, by decide +kernel⟩) (Or.inl rfl))) (tB (P := Py k) (tE (P := Py k) (fun h => by subst h; exact Or.inr ⟨by decide, by decide +kernel⟩) (Or.inl rfl)) (tB (P := Py k) (tE (P := Py k) (fun h => by subst h; exact Or.inr ⟨by decide, by decide +kernel⟩) (Or.inl rfl)) (tE (P := Py k) (fun h => by subst h; exact Or.inr ⟨by decide, by decide +kernel⟩) (Or.inl rfl))))) (tB (P := Py k) (tB (P := Py k) (tE (P := Py k) (fun h => by subst h; exact Or.inr ⟨by decide, by decide +kernel⟩) (Or.inl rfl)) (tB (P := Py k) (tE (P := Py k) (fun h => by subst h; exact Or.inr ⟨by decide, by decide +kernel⟩) (Or.inl rfl)) (tE (P := Py k) (fun h => by subst h; exact Or.inr ⟨by decide, by decide +kernel⟩) (Or.inl rfl)))) (tB (P := Py k) (tE (P := Py k) (fun h => by subst h; exact Or.inr ⟨by decide, by decide +kernel⟩) (Or.inl rfl)) (tB (P := Py k) (tE (P := Py k) (fun h => by subst h; exact Or.inr ⟨by decide, by decide +kernel⟩) (Or.inl rfl)) (tE (P := Py k) (fun h => by subst h; exact Or.inr ⟨by decide, by decide +kernel⟩) (Or.inl rfl)))))) (tB (P := Py k) (tB (P := Py k) (tB (P := Py k) (tE (P := Py k) (fun h => by subst h; exact Or.inr ⟨by decide, by decide +kernel⟩) (Or.inl rfl)) (tE (P := Py k) (fun h => by subst h; exact Or.inr ⟨by decide, by decide +kernel⟩) (Or.inl rfl))) (tB (P := Py k) (tE (P := Py k) (fun h => by subst h; exact Or.inr ⟨by decide, by decide +kernel⟩) (Or.inl rfl)) (tB (P := Py k) (tE (P := Py k) (fun h => by subst h; exact Or.inr ⟨by decide, by decide +kernel⟩) (Or.inl rfl)) (tE (P := Py k) (fun h => by subst h; exact Or.inr ⟨by decide, by decide +kernel⟩) (Or.inl rfl))))) (tB (P := Py k) (tB (P := Py k) (tE (P := Py k) (fun h => by subst h; exact Or.inr ⟨by decide, by decide +kernel⟩) (Or.inl rfl)) (tB (P := Py k) (tE (P := Py k) (fun h => by subst h; exact Or.inr ⟨by decide, by decide +kernel⟩) (Or.inl rfl)) (tE (P := Py k) (fun h => by subst h; exact Or.inr ⟨by decide, by decide +kernel⟩) (Or.inl rfl)))) (tB (P := Py k) (tE (P := Py k) (fun h => by subst h; exact Or.inr ⟨by decide, by decide +kernel⟩) (Or.inl rfl)) (tB (P := Py k) (tE (P := Py k) (fun h => by subst h; exact Or.inr ⟨by decide, by decide +kernel⟩) (Or.inl rfl)) (tE (P := Py k) (fun h => by subst h; exact Or.inr ⟨by decide, by decide +kernel⟩) (Or.inl rfl))))))) (tB (P := Py k) (tB (P := Py k) (tB (P := Py k) (tB (P := Py k) (tE (P := Py k) (fun h => by subst h; exact Or.inr ⟨by decide, by decide +kernel⟩) (Or.inl rfl)) (tE (P := Py k) (fun h => by subst h; exact Or.inr ⟨by decide, by decide +kernel⟩) (Or.inl rfl))) (tB (P := Py k) (tE (P := Py k) (fun h => by subst h; exact Or.inr ⟨by decide, by decide +kernel⟩) (Or.inl rfl)) (tB (P := Py k) (tE (P := Py k) (fun h => by subst h; exact Or.inr ⟨by decide, by decide +kernel⟩) (Or.inl rfl)) (tE (P := Py k) (fun h => by subst h; exact Or.inr ⟨by decide, by decide +kernel⟩) (Or.inl rfl))))) (tB (P := Py k) (tB (P := Py k) (tE (P := Py k) (fun h => by subst h; exact Or.inr ⟨by decide, by decide +kernel⟩) (Or.inl rfl)) (tB (P := Py k) (tE (P := Py k) (fun h => by subst h; exact Or.inr ⟨by decide, by decide +kernel⟩) (Or.inl rfl)) (tE (P := Py k) (fun h => by subst h; exact Or.inr ⟨by decide, by decide +kernel⟩) (Or.inl rfl)))) (tB (P := Py k) (tE (P := Py k) (fun h => by subst h; exact Or.inr ⟨by decide, by decide +kernel⟩) (Or.inl rfl)) (tB (P := Py k) (tE (P := Py k) (fun h => by subst h; exact Or.inr ⟨by decide, by decide +kernel⟩) (Or.inl rfl)) (tE (P := Py k) (fun h => by subst h; exact Or.inr ⟨by decide, by decide +kernel⟩) (Or.inl rfl)))))) (tB (P := Py k) (tB (P := Py k) (tB (P := Py k) (tE (P := Py k) (fun h => by subst h; exact Or.inr ⟨by decide, by decide +kernel⟩) (Or.inl rfl)) (tB (P := Py k) (tE (P := Py k) (fun h => by subst h; exact Or.inr ⟨by decide, by decide +kernel⟩) (Or.inl rfl)) (tE (P := Py k) (fun h => by subst h; exact Or.inr ⟨by decide, by decide +kernel⟩) (Or.inl rfl)))) (tB (P := Py k) (tE (P := Py k) (fun h => by subst h; exact Or.inr ⟨by decide, by decide +kernel⟩) (Or.inl rfl)) (tB (P := Py k) (tE (P := Py k) (fun h => by subst h; exact Or.inr ⟨by decide, by decide +kernel⟩) (Or.inl rfl)) (tE (P := Py k) (fun h => by subst h; exact Or.inr ⟨by decide, by decide +kernel⟩) (Or.inl rfl))))) (tB (P := Py k) (tB (P := Py k) (tE (P := Py k) (fun h => by subst h; exact Or.inr ⟨by decide, by decide +kernel⟩) (Or.inl rfl)) (tB (P := Py k) (tE (P := Py k) (fun h => by subst h; exact Or.inr ⟨by decide, by decide +kernel⟩) (Or.inl rfl)) (tE (P := Py k) (fun h => by subst h; exact Or.inr ⟨by decide, by decide +kernel⟩) (Or.inl rfl)))) (tB (P := Py k) (tE (P := Py k) (fun h => by subst h; exact Or.inr ⟨by decide, by decide +kernel⟩) (Or.inl rfl)) (tB (P := Py k) (tE (P := Py k) (fun h => by subst h; exact Or.inr ⟨by decide, by decide +kernel⟩) (Or.inl rfl)) (tE (P := Py k) (fun h => by subst h; exact Or.inr ⟨by decide, by decide +kernel⟩) (Or.inl rfl)))))))) (tB (P := Py k) (tB (P := Py k) (tB (P := Py k) (tB (P := Py k) (tB (P := Py k) (tE (P := Py k) (fun h => by subst h; exact Or.inr ⟨by decide, by decide +kernel⟩) (Or.inl rfl)) (tE (P := Py k) (fun h => by subst h; exact Or.inr ⟨by decide, by decide +kernel⟩) (Or.inl rfl))) (tB (P := Py k) (tE (P := Py k) (fun h => by subst h; exact Or.inr ⟨by decide, by decide +kernel⟩) (Or.inl rfl)) (tB (P := Py k) (tE (P := Py k) (fun h => by subst h; exact Or.inr ⟨by decide, by decide +kernel⟩) (Or.inl rfl)) (tE (P := Py k) (fun h => by subst h; exact Or.inr ⟨by decide, by decide +kernel⟩) (Or.inl rfl))))) (tB (P := Py k) (tB (P := Py k) (tE (P := Py k) (fun h => by subst h; exact Or.inr ⟨by decide, by decide +kernel⟩) (Or.inl rfl)) (tB (P := Py k) (tE (P := Py k) (fun h => by subst h; exact Or.inr ⟨by decide, by decide +kernel⟩) (Or.inl rfl)) (tE (P := Py k) (fun h => by subst h; exact Or.inr ⟨by decide, by decide +kernel⟩) (Or.inl rfl)))) (tB (P := Py k) (tE (P := Py k) (fun h => by subst h; exact Or.inr ⟨by decide, by decide +kernel⟩) (Or.inl rfl)) (tB (P := Py k) (tE (P := Py k) (fun h => by subst h; exact Or.inr ⟨by decide, by decide +kernel⟩) (Or.inl rfl)) (tE (P := Py k) (fun h => by subst h; exact Or.inr ⟨by decide, by decide +kernel⟩) (Or.inl rfl)))))) (tB (P := Py k) (tB (P := Py k) (tB (P := Py k) (tE (P := Py k) (fun h => by subst h; exact Or.inr ⟨by decide, by decide +kernel⟩) (Or.inl rfl)) (tE (P := Py k) (fun h => by subst h; exact Or.inr ⟨by decide, by decide +kernel⟩) (Or.inl rfl))) (tB (P := Py k) (tE (P := Py k) (fun h => by subst h; exact Or.inr ⟨by decide, by decide +kernel⟩) (Or.inl rfl)) (tB (P := Py k) (tE (P := Py k) (fun h => by subst h; exact Or.inr ⟨by decide, by decide +kernel⟩) (Or.inl rfl)) (tE (P := Py k) (fun h => by subst h; exact Or.inr ⟨by decide, by decide +kernel⟩) (Or.inl rfl))))) (tB (P := Py k) (tB (P := Py k) (tE (P := Py k) (fun h => by subst h; exact Or.inr ⟨by decide, by decide +kernel⟩) (Or.inl rfl)) (tB (P := Py k) (tE (P := Py k) (fun h => by subst h; exact Or.inr ⟨by decide, by decide +kernel⟩) (Or.inl rfl)) (tE (P := Py k) (fun h => by subst h; exact Or.inr ⟨by decide, by decide +kernel⟩) (Or.inl rfl)))) (tB (P := Py k) (tE (P := Py k) (fun h => by subst h; exact Or.inr ⟨by decide, by decide +kernel⟩) (Or.inl rfl)) (tB (P := Py k) (tE (P := Py k) (fun h => by subst h; exact Or.inr ⟨by decide, by decide +kernel⟩) (Or.inl rfl)) (tE (P := Py k) (fun h => by subst h; exact Or.inr ⟨by decide, by decide +kernel⟩) (Or.inl rfl))))))) (tB (P := Py k) (tB (P := Py k) (tB (P := Py k) (tB (P := Py k) (tE (P := Py k) (fun h => by subst h; exact Or.inr ⟨by decide, by decide +kernel⟩) (Or.inl rfl)) (tE (P := Py k) (fun h => by subst h; exact Or.inr ⟨by decide, by decide +kernel⟩) (Or.inl rfl))) (tB (P := Py k) (tE (P := Py k) (fun h => by subst h; exact Or.inr ⟨by decide, by decide +kernel⟩) (Or.inl rfl)) (tB (P := Py k) (tE (P := Py k) (fun h => by subst h; exact Or.inr ⟨by decide, by decide +kernel⟩) (Or.inl rfl)) (tE (P := Py k) (fun h => by subst h; exact Or.inr ⟨by decide, by decide +kernel⟩) (Or.inl rfl))))) (tB (P := Py k) (tB (P := Py k) (tE (P := Py k) (fun h => by subst h; exact Or.inr ⟨by decide, by decide +kernel⟩) (Or.inl rfl)) (tB (P := Py k) (tE (P := Py k) (fun h => by subst h; exact Or.inr ⟨by decide, by decide +kernel⟩) (Or.inl rfl)) (tE (P := Py k) (fun h => by subst h; exact Or.inr ⟨by decide, by decide +kernel⟩) (Or.inl rfl)))) (tB (P := Py k) (tE (P := Py k) (fun h => by subst h; exact Or.inr ⟨by decide, by decide +kernel⟩) (Or.inl rfl)) (tB (P := Py k) (tE (P := Py k) (fun h => by subst h; exact Or.inr ⟨by decide, by decide +kernel⟩) (Or.inl rfl)) (tE (P := Py k) (fun h => by subst h; exact Or.inr ⟨by decide, by decide +kernel⟩) (Or.inl rfl)))))) (tB (P := Py k) (tB (P := Py k) (tB (P := Py k) (tE (P := Py k) (fun h => by subst h; exact Or.inr ⟨by decide, by decide +kernel⟩) (Or.inl rfl)) (tB (P := Py k) (tE (P := Py k) (fun h => by subst h; exact Or.inr ⟨by decide, by decide +kernel⟩) (Or.inl rfl)) (tE (P := Py k) (fun h => by subst h; exact Or.inr ⟨by decide, by decide +kernel⟩) (Or.inl rfl)))) (tB (P := Py k) (tE (P := Py k) (fun h => by subst h; exact Or.inr ⟨by decide, by decide +kernel⟩) (Or.inl rfl)) (tB (P := Py k) (tE (P := Py k) (fun h => by subst h; exact Or.inr ⟨by decide, by decide +kernel⟩) (Or.inl rfl)) (tE (P := Py k) (fun h => by subst h; exact Or.inr ⟨by decide, by decide +kernel⟩) (Or.inl rfl))))) (tB (P := Py k) (tB (P := Py k) (tE (P := Py k) (fun h => by subst h; exact Or.inr ⟨by decide, by decide +kernel⟩) (Or.inl rfl)) (tB (P := Py k) (tE (P := Py k) (fun h => by subst h; exact Or.inr ⟨by decide, by decide +kernel⟩) (Or.inl rfl)) (tE (P := Py k) (fun h => by subst h; exact Or.inr ⟨by decide, by decide +kernel⟩) (Or.inl rfl)))) (tB (P := Py k) (tE (P := Py k) (fun h => by subst h; exact Or.inr ⟨by decide, by decide +kernel⟩) (Or.inl rfl)) (tB (P := Py k) (tE (P := Py k) (fun h => by subst h; exact Or.inr ⟨by decide, by decide +kernel⟩) (Or.inl rfl)) (tE (P := Py k) (fun h => by subst h; exact Or.inr ⟨by decide, by decide +kernel⟩) (Or.inl rfl))))))))) (tB (P := Py k) (tB (P := Py k) (tB (P := Py k) (tB (P := Py k) (tB (P := Py k) (tB (P := Py k) (tE (P := Py k) (fun h => by subst h; exact Or.inr ⟨by decide, by decide +kernel⟩) (Or.inl rfl)) (tE (P := Py k) (fun h => by subst h; exact Or.inr ⟨by decide, by decide +kernel⟩) (Or.inl rfl))) (tB (P := Py k) (tE (P := Py k) (fun h => by subst h; exact Or.inr ⟨by decide, by decide +kernel⟩) (Or.inl rfl)) (tB (P := Py k) (tE (P := Py k) (fun h => by subst h; exact Or.inr ⟨by decide, by decide +kernel⟩) (Or.inl rfl)) (tE (P := Py k) (fun h => by subst h; exact Or.inr ⟨by decide, by decide +kernel⟩) (Or.inl rfl))))) (tB (P := Py k) (tB (P := Py k) (tE (P := Py k) (fun h => by subst h; exact Or.inr ⟨by decide, by decide +kernel⟩) (Or.inl rfl)) (tB (P := Py k) (tE (P := Py k) (fun h => by subst h; exact Or.inr ⟨by decide, by decide +kernel⟩) (Or.inl rfl)) (tE (P := Py k) (fun h => by subst h; exact Or.inr ⟨by decide, by decide +kernel⟩) (Or.inl rfl)))) (tB (P := Py k) (tE (P := Py k) (fun h => by subst h; exact Or.inr ⟨by decide, by decide +kernel⟩) (Or.inl rfl)) (tB (P := Py k) (tE (P := Py k) (fun h => by subst h; exact Or.inr ⟨by decide, by decide +kernel⟩) (Or.inl rfl)) (tE (P := Py k) (fun h => by subst h; exact Or.inr ⟨by decide, by decide +kernel⟩) (Or.inl rfl)))))) (tB (P := Py k) (tB (P := Py k) (tB (P := Py k) (tE (P := Py k) (fun h => by subst h; exact Or.inr ⟨by decide, by decide +kernel⟩) (Or.inl rfl)) (tE (P := Py k) (fun h => by subst h; exact Or.inr ⟨by decide, by decide +kernel⟩) (Or.inl rfl))) (tB (P := Py k) (tE (P := Py k) (fun h => by subst h; exact Or.inr ⟨by decide, by decide +kernel⟩) (Or.inl rfl)) (tB (P := Py k) (tE (P := Py k) (fun h => by subst h; exact Or.inr ⟨by decide, by decide +kernel⟩) (Or.inl rfl)) (tE (P := Py k) (fun h => by subst h; exact Or.inr ⟨by decide, by decide +kernel⟩) (Or.inl rfl))))) (tB (P := Py k) (tB (P := Py k) (tE (P := Py k) (fun h => by subst h; exact Or.inr ⟨by decide, by decide +kernel⟩) (Or.inl rfl)) (tB (P := Py k) (tE (P := Py k) (fun h => by subst h; exact Or.inr ⟨by decide, by decide +kernel⟩) (Or.inl rfl)) (tE (P := Py k) (fun h => by subst h; exact Or.inr ⟨by decide, by decide +kernel⟩) (Or.inl rfl)))) (tB (P := Py k) (tE (P := Py k) (fun h => by subst h; exact Or.inr ⟨by decide, by decide +kernel⟩) (Or.inl rfl)) (tB (P := Py k) (tE (P := Py k) (fun h => by subst h; exact Or.inr ⟨by decide, by decide +kernel⟩) (Or.inl rfl)) (tE (P := Py k) (fun h => by subst h; exact Or.inr ⟨by decide, by decide +kernel⟩) (Or.inl rfl))))))) (tB (P := Py k) (tB (P := Py k) (tB (P := Py k) (tB (P := Py k) (tE (P := Py k) (fun h => by subst h; exact Or.inr ⟨by decide, by decide +kernel⟩) (Or.inl rfl)) (tE (P := Py k) (fun h => by subst h; exact Or.inr ⟨by decide, by decide +kernel⟩) (Or.inl rfl))) (tB (P := Py k) (tE (P := Py k) (fun h => by subst h; exact Or.inr ⟨by decide, by decide +kernel⟩) (Or.inl rfl)) (tB (P := Py k) (tE (P := Py k) (fun h => by subst h; exact Or.inr ⟨by decide, by decide +kernel⟩) (Or.inl rfl)) (tE (P := Py k) (fun h => by subst h; exact Or.inr ⟨by decide, by decide +kernel⟩) (Or.inl rfl))))) (tB (P := Py k) (tB (P := Py k) (tE (P := Py k) (fun h => by subst h; exact Or.inr ⟨by decide, by decide +kernel⟩) (Or.inl rfl)) (tB (P := Py k) (tE (P := Py k) (fun h => by subst h; exact Or.inr ⟨by decide, by decide +kernel⟩) (Or.inl rfl)) (tE (P := Py k) (fun h => by subst h; exact Or.inr ⟨by decide, by decide +kernel⟩) (Or.inl rfl)))) (tB (P := Py k) (tE (P := Py k) (fun h => by subst h; exact Or.inr ⟨by decide, by decide +kernel⟩) (Or.inl rfl)) (tB (P := Py k) (tE (P := Py k) (fun h => by subst h; exact Or.inr ⟨by decide, by decide +kernel⟩) (Or.inl rfl)) (tE (P := Py k) (fun h => by subst h; exact Or.inr ⟨by decide, by decide +kernel⟩) (Or.inl rfl)))))) (tB (P := Py k) (tB (P := Py k) (tB (P := Py k) (tE (P := Py k) (fun h => by subst h; exact Or.inr ⟨by decide, by decide +kernel⟩) (Or.inl rfl)) (tB (P := Py k) (tE (P := Py k) (fun h => by subst h; exact Or.inr ⟨by decide, by decide +kernel⟩) (Or.inl rfl)) (tE (P := Py k) (fun h => by subst h; exact Or.inr ⟨by decide, by decide +kernel⟩) (Or.inl rfl)))) (tB (P := Py k) (tE (P := Py k) (fun h => by subst h; exact Or.inr ⟨by decide, by decide +kernel⟩) (Or.inl rfl)) (tB (P := Py k) (tE (P := Py k) (fun h => by subst h; exact Or.inr ⟨by decide, by decide +kernel⟩) (Or.inl rfl)) (tE (P := Py k) (fun h => by subst h; exact Or.inr ⟨by decide, by decide +kernel⟩) (Or.inl rfl))))) (tB (P := Py k) (tB (P := Py k) (tE (P := Py k) (fun h => by subst h; exact Or.inr ⟨by decide, by decide +kernel⟩) (Or.inl rfl)) (tB (P := Py k) (tE (P := Py k) (fun h => by subst h; exact Or.inr ⟨by decide, by decide +kernel⟩) (Or.inl rfl)) (tE (P := Py k) (fun h => by subst h; exact Or.inr ⟨by decide, by decide +kernel⟩) (Or.inl rfl)))) (tB (P := Py k) (tE (P := Py k) (fun h => by subst h; exact Or.inr ⟨by decide, by decide +kernel⟩) (Or.inl rfl)) (tB (P := Py k) (tE (P := Py k) (fun h => by subst h; exact Or.inr ⟨by decide, by decide +kernel⟩) (Or.inl rfl)) (tE (P := Py k) (fun h => by subst h; exact Or.inr ⟨by decide, by decide +kernel⟩) (Or.inl rfl)))))))) (tB (P := Py k) (tB (P := Py k) (tB (P := Py k) (tB (P := Py k) (tB (P := Py k) (tE (P := Py k) (fun h => by subst h; exact Or.inr ⟨by decide, by decide +kernel⟩) (Or.inl rfl)) (tE (P := Py k) (fun h => by subst h; exact Or.inr ⟨by decide, by decide +kernel⟩) (Or.inl rfl))) (tB (P := Py k) (tE (P := Py k) (fun h => by subst h; exact Or.inr ⟨by decide, by decide +kernel⟩) (Or.inl rfl)) (tB (P := Py k) (tE (P := Py k) (fun h => by subst h; exact Or.inr ⟨by decide, by decide +kernel⟩) (Or.inl rfl)) (tE (P := Py k) (fun h => by subst h; exact Or.inr ⟨by decide, by decide +kernel⟩) (Or.inl rfl))))) (tB (P := Py k) (tB (P := Py k) (tE (P := Py k) (fun h => by subst h; exact Or.inr ⟨by decide, by decide +kernel⟩) (Or.inl rfl)) (tB (P := Py k) (tE (P := Py k) (fun h => by subst h; exact Or.inr ⟨by decide, by decide +kernel⟩) (Or.inl rfl)) (tE (P := Py k) (fun h => by subst h; exact Or.inr ⟨by decide, by decide +kernel⟩) (Or.inl rfl)))) (tB (P := Py k) (tE (P := Py k) (fun h => by subst h; exact Or.inr ⟨by decide, by decide +kernel⟩) (Or.inl rfl)) (tB (P := Py k) (tE (P := Py k) (fun h => by subst h; exact Or.inr ⟨by decide, by decide +kernel⟩) (Or.inl rfl)) (tE (P := Py k) (fun h => by subst h; exact Or.inr ⟨by decide, by decide +kernel⟩) (Or.inl rfl)))))) (tB (P := Py k) (tB (P := Py k) (tB (P := Py k) (tE (P := Py k) (fun h => by subst h; exact Or.inr ⟨by decide, by decide +kernel⟩) (Or.inl rfl)) (tB (P := Py k) (tE (P := Py k) (fun h => by subst h; exact Or.inr ⟨by decide, by decide +kernel⟩) (Or.inl rfl)) (tE (P := Py k) (fun h => by subst h; exact Or.inr ⟨by decide, by decide +kernel⟩) (Or.inl rfl)))) (tB (P := Py k) (tE (P := Py k) (fun h => by subst h; exact Or.inr ⟨by decide, by decide +kernel⟩) (Or.inl rfl)) (tB (P := Py k) (tE (P := Py k) (fun h => by subst h; exact Or.inr ⟨by decide, by decide +kernel⟩) (Or.inl rfl)) (tE (P := Py k) (fun h => by subst h; exact Or.inr ⟨by decide, by decide +kernel⟩) (Or.inl rfl))))) (tB (P := Py k) (tB (P := Py k) (tE (P := Py k) (fun h => by subst h; exact Or.inr ⟨by decide, by decide +kernel⟩) (Or.inl rfl)) (tB (P := Py k) (tE (P := Py k) (fun h => by subst h; exact Or.inr ⟨by decide, by decide +kernel⟩) (Or.inl rfl)) (tE (P := Py k) (fun h => by subst h; exact Or.inr ⟨by decide, by decide +kernel⟩) (Or.inl rfl)))) (tB (P := Py k) (tE (P := Py k) (fun h => by subst h; exact Or.inr ⟨by decide, by decide +kernel⟩) (Or.inl rfl)) (tB (P := Py k) (tE (P := Py k) (fun h => by subst h; exact Or.inr ⟨by decide, by decide +kernel⟩) (Or.inl rfl)) (tE (P := Py k) (fun h => by subst h; exact Or.inr ⟨by decide, by decide +kernel⟩) (Or.inl rfl))))))) (tB (P := Py k) (tB (P := Py k) (tB (P := Py k) (tB (P := Py k) (tE (P := Py k) (fun h => by subst h; exact Or.inr ⟨by decide, by decide +kernel⟩) (Or.inl rfl)) (tE (P := Py k) (fun h => by subst h; exact Or.inr ⟨by decide, by decide +kernel⟩) (Or.inl rfl))) (tB (P := Py k) (tE (P := Py k) (fun h => by subst h; exact Or.inr ⟨by decide, by decide +kernel⟩) (Or.inl rfl)) (tB (P := Py k) (tE (P := Py k) (fun h => by subst h; exact Or.inr ⟨by decide, by decide +kernel⟩) (Or.inl rfl)) (tE (P := Py k) (fun h => by subst h; exact Or.inr ⟨by decide, by decide +kernel⟩) (Or.inl rfl))))) (tB (P := Py k) (tB (P := Py k) (tE (P := Py k) (fun h => by subst h; exact Or.inr ⟨by decide, by decide +kernel⟩) (Or.inl rfl)) (tB (P := Py k) (tE (P := Py k) (fun h => by subst h; exact Or.inr ⟨by decide, by decide +kernel⟩) (Or.inl rfl)) (tE (P := Py k) (fun h => by subst h; exact Or.inr ⟨by decide, by decide +kernel⟩) (Or.inl rfl)))) (tB (P := Py k) (tE (P := Py k) (fun h => by subst h; exact Or.inr ⟨by decide, by decide +kernel⟩) (Or.inl rfl)) (tB (P := Py k) (tE (P := Py k) (fun h => by subst h; exact Or.inr ⟨by decide, by decide +kernel⟩) (Or.inl rfl)) (tE (P := Py k) (fun h => by subst h; exact Or.inr ⟨by decide, by decide +kernel⟩) (Or.inl rfl)))))) (tB (P := Py k) (tB (P := Py k) (tB (P := Py k) (tE (P := Py k) (fun h => by subst h; exact Or.inr ⟨by decide, by decide +kernel⟩) (Or.inl rfl)) (tB (P := Py k) (tE (P := Py k) (fun h => by subst h; exact Or.inr ⟨by decide, by decide +kernel⟩) (Or.inl rfl)) (tE (P := Py k) (fun h => by subst h; exact Or.inr ⟨by decide, by decide +kernel⟩) (Or.inl rfl)))) (tB (P := Py k) (tE (P := Py k) (fun h => by subst h; exact Or.inr ⟨by decide, by decide +kernel⟩) (Or.inl rfl)) (tB (P := Py k) (tE (P := Py k) (fun h => by subst h; exact Or.inr ⟨by decide, by decide +kernel⟩) (Or.inl rfl)) (tE (P := Py k) (fun h => by subst h; exact Or.inr ⟨by decide, by decide +kernel⟩) (Or.inl rfl))))) (tB (P := Py k) (tB (P := Py k) (tE (P := Py k) (fun h => by subst h; exact Or.inr ⟨by decide, by decide +kernel⟩) (Or.inl rfl)) (tB (P := Py k) (tE (P := Py k) (fun h => by subst h; exact Or.inr ⟨by decide, by decide +kernel⟩) (Or.inl rfl)) (tE (P := Py k) (fun h => by subst h; exact Or.inr ⟨by decide, by decide +kernel⟩) (Or.inl rfl)))) (tB (P := Py k) (tE (P := Py k) (fun h => by subst h; exact Or.inr ⟨by decide, by decide +kernel⟩) (Or.inl rfl)) (tB (P := Py k) (tE (P := Py k) (fun h => by subst h; exact Or.inr ⟨by decide, by decide +kernel⟩) (Or.inl rfl)) (tE (P := Py k) (fun h => by subst h; exact Or.inr ⟨by decide, by decide +kernel⟩) (Or.inl rfl)))))))))
end
end
section
noncomputable section
variable {p : Program} {l : Launch} {e : Env} {R : Room} {s : State} {m : MethodId} {args : Array Value} {below : List Frame} {meth : Method} {c : Code} {H H0 : Heap} {locs : List Loc} {cells slots : Nat} {Q : State → Prop} {ls : Array Slot}
def em (ad : Nat → Nat) (v : Value) : Value := match v with | .ref k => .ref (ad k) | v => v
theorem em_cat (ad : Nat → Nat) (v : Value) : (em ad v).category = v.category := by cases v <;> rfl
def lm (ad : Nat → Nat) (lc : LC) : LC := lc.map (fun q => (q.1, em ad q.2))
def wAll : List Cond := lw_tbl.filter goodWord
theorem wA {w : Cond} (h : w ∈ lw_tbl) (g : goodWord w = true) : w ∈ wAll := List.mem_filter.mpr ⟨h, g⟩
theorem lm_get {ad : Nat → Nat} {nL i : Nat} {lc : LC} {v : Value} (h : lv_has ls nL (lm ad lc)) (hg : lget lc i = some v) : ls[i]? = some (.val (em ad v)) := by
  unfold lget at hg
  cases hf : lc.find? (fun q => q.1 == i) with
  | none => rw [hf] at hg; cases hg
  | some q =>
    rw [hf] at hg
    have e1 : q.2 = v := Option.some.inj hg
    have hi : q.1 = i := by simpa using List.find?_some hf
    have hm : q ∈ lc := List.mem_of_find?_eq_some hf
    subst e1; subst hi
    exact h.2.2 (q.1, em ad q.2) (List.mem_map.mpr ⟨q, hm, rfl⟩)
theorem lm_set1 (ad : Nat → Nat) (lc : LC) (i : Nat) (v : Value) : (i, em ad v) :: (lm ad lc).filter (fun q => !(q.1 == i) && !(q.1 + 1 == i && q.2.category == 2)) = lm ad (lset1 lc i v) := by
  unfold lm lset1
  rw [List.map_cons, List.filter_map]
  simp only [Function.comp_def, em_cat]
theorem lm_set2 (ad : Nat → Nat) (lc : LC) (i : Nat) (v : Value) : (i, em ad v) :: (lm ad lc).filter (fun q => !(q.1 == i) && (!(q.1 == i + 1) && !(q.1 + 1 == i && q.2.category == 2))) = lm ad (lset2 lc i v) := by
  unfold lm lset2
  rw [List.map_cons, List.filter_map]
  simp only [Function.comp_def, em_cat]
theorem any2 {α : Type} {l : List α} {f : α → Bool} (h : l.any f = true) : ∃ q, q ∈ l ∧ f q = true := by simpa using h
theorem kP_word {o i : Nat} {v : Value} (h : kP.any (fun q => Nat.beq q.1 o && Nat.beq q.2.1 i && decide (q.2.2.1 = v)) = true) : kW o i v ∈ lw_tbl := by
  obtain ⟨q, hq, hb⟩ := any2 h
  simp only [Bool.and_eq_true, decide_eq_true_eq] at hb
  obtain ⟨⟨h1, h2⟩, h3⟩ := hb
  have h4 := tb_in _ _ (kP_ok q hq)
  rw [Nat.eq_of_beq_eq_true h1, Nat.eq_of_beq_eq_true h2, h3] at h4
  exact h4

set_option maxHeartbeats 4000000 in
theorem sA {ad : Nat → Nat} {mi pc nx r1 r2 r3 : Nat} {ins : Instr} {v : Value} {st st' : List Value} (hx : p.tables.exec = Jvm.exec) (hb : c.code = cB mi) (hown : s.vm.findClass (oN (cO mi)) = some m.cls) (hts : ∀ w ∈ wAll, w.before args s = true)
    (hw : wfE mi pc (0, ins, nx, r1, r2, r3, v) = true) (hs : stA ins v st = some st') (k : W p l e R s m args below meth c H locs cells slots Q (F0 m nx ls (st'.map (em ad)))) : W p l e R s m args below meth c H locs cells slots Q (F0 m pc ls (st.map (em ad))) := by
  have hw9 : (decide (decode (cB mi) pc = .ok (ins, nx - pc)) && Nat.ble pc nx && (Nat.beq nx (pc + lenI ins) && wfA (cO mi) ins v)) = true := hw
  clear hw
  simp only [Bool.and_eq_true, decide_eq_true_eq] at hw9
  obtain ⟨⟨hdg0, -⟩, hnx0, h3⟩ := hw9
  have hnx := Nat.eq_of_beq_eq_true hnx0
  have hdg : decode (cB mi) pc = .ok (ins, lenI ins) := by rw [hdg0, hnx, Nat.add_sub_cancel_left]
  clear hdg0 hnx0
  subst hnx
  cases ins <;> simp only [stA, reduceCtorEq] at hs
  case iconst a =>
    have hv : v = .int (Int32.ofInt a) := of_decide_eq_true h3
    cases hs
    subst hv
    exact lv_iconst hx hb hdg rfl k
  case bipush a =>
    have hv : v = .int ((Int8.ofInt a).toInt32) := of_decide_eq_true h3
    cases hs
    subst hv
    exact lv_bipush hx hb hdg rfl k
  case sipush a =>
    have hv : v = .int ((Int16.ofInt a).toInt32) := of_decide_eq_true h3
    cases hs
    subst hv
    exact lv_sipush hx hb hdg rfl k
  case lconst a =>
    have hv : v = .long (Int64.ofNat (a : Nat)) := of_decide_eq_true h3
    cases hs
    subst hv
    exact lv_lconst hx hb hdg rfl k
  case fconst a =>
    have hv : a = 0 ∧ v = .float FP.fconst0 ∨ a = 1 ∧ v = .float FP.fconst1 ∨ a = 2 ∧ v = .float FP.fconst2 := of_decide_eq_true h3
    cases hs
    rcases hv with ⟨rfl, rfl⟩ | ⟨rfl, rfl⟩ | ⟨rfl, rfl⟩
    · exact lv_fconst0 hx hb hdg k
    · exact lv_fconst1 hx hb hdg k
    · exact lv_fconst2 hx hb hdg k
  case dconst a =>
    have hv : a = 0 ∧ v = .double FP.dconst0 ∨ a = 1 ∧ v = .double FP.dconst1 := of_decide_eq_true h3
    cases hs
    rcases hv with ⟨rfl, rfl⟩ | ⟨rfl, rfl⟩
    · exact lv_dconst0 hx hb hdg k
    · exact lv_dconst1 hx hb hdg k
  case ldc a =>
    simp only [wfA, Bool.and_eq_true] at h3
    obtain ⟨hz, hk0⟩ := h3
    have hk := kP_word hk0
    cases hs
    cases v <;> simp only [reduceCtorEq] at hz
    · exact lv_ldc hx hb hown (hts _ (wA hk rfl)) hdg k
    · exact lv_ldcf hx hb hown (hts _ (wA hk rfl)) hdg k
    all_goals (exact absurd hz (by decide))
  case ldc2_w a =>
    simp only [wfA, Bool.and_eq_true] at h3
    obtain ⟨hz, hk0⟩ := h3
    have hk := kP_word hk0
    cases hs
    cases v <;> simp only [reduceCtorEq] at hz
    · exact lv_ldc2 hx hb hown (hts _ (wA hk rfl)) hdg k
    · exact lv_ldc2d hx hb hown (hts _ (wA hk rfl)) hdg k
    all_goals (exact absurd hz (by decide))
  case iadd =>
    split at hs
    · cases hs
      simp only [List.map_cons, em] at k ⊢
      exact lv_iadd hx hb hdg k
    · cases hs
  case isub =>
    split at hs
    · cases hs
      simp only [List.map_cons, em] at k ⊢
      exact lv_isub hx hb hdg k
    · cases hs
  case imul =>
    split at hs
    · cases hs
      simp only [List.map_cons, em] at k ⊢
      exact lv_imul hx hb hdg k
    · cases hs
  case iand =>
    split at hs
    · cases hs
      simp only [List.map_cons, em] at k ⊢
      exact lv_iand hx hb hdg k
    · cases hs
  case ior =>
    split at hs
    · cases hs
      simp only [List.map_cons, em] at k ⊢
      exact lv_ior hx hb hdg k
    · cases hs
  case ixor =>
    split at hs
    · cases hs
      simp only [List.map_cons, em] at k ⊢
      exact lv_ixor hx hb hdg k
    · cases hs
  case ishl =>
    split at hs
    · cases hs
      simp only [List.map_cons, em] at k ⊢
      exact lv_ishl hx hb hdg k
    · cases hs
  case ishr =>
    split at hs
    · cases hs
      simp only [List.map_cons, em] at k ⊢
      exact lv_ishr hx hb hdg k
    · cases hs
  case ladd =>
    split at hs
    · cases hs
      simp only [List.map_cons, em] at k ⊢
      exact lv_ladd hx hb hdg k
    · cases hs
  case lmul =>
    split at hs
    · cases hs
      simp only [List.map_cons, em] at k ⊢
      exact lv_lmul hx hb hdg k
    · cases hs
  case lor =>
    split at hs
    · cases hs
      simp only [List.map_cons, em] at k ⊢
      exact lv_lor hx hb hdg k
    · cases hs
  case i2f =>
    split at hs
    · cases hs
      simp only [List.map_cons, em] at k ⊢
      exact lv_i2f hx hb hdg k
    · cases hs
  case i2d =>
    split at hs
    · cases hs
      simp only [List.map_cons, em] at k ⊢
      exact lv_i2d hx hb hdg k
    · cases hs
  case f2i =>
    split at hs
    · cases hs
      simp only [List.map_cons, em] at k ⊢
      exact lv_f2i hx hb hdg k
    · cases hs
  case d2l =>
    split at hs
    · cases hs
      simp only [List.map_cons, em] at k ⊢
      exact lv_d2l hx hb hdg k
    · cases hs
  case ineg =>
    split at hs
    · cases hs
      simp only [List.map_cons, em] at k ⊢
      exact lv_ineg hx hb hdg k
    · cases hs
  case lcmp =>
    split at hs
    · cases hs
      simp only [List.map_cons, em] at k ⊢
      exact W.lcmp hx hb hdg k
    · cases hs
  case lshl =>
    split at hs
    · cases hs
      simp only [List.map_cons, em] at k ⊢
      exact lv_lshl hx hb hdg rfl k
    · cases hs
  case i2l =>
    split at hs
    · cases hs
      simp only [List.map_cons, em] at k ⊢
      exact lv_i2l hx hb hdg rfl k
    · cases hs
  case i2c =>
    split at hs
    · cases hs
      simp only [List.map_cons, em] at k ⊢
      exact lv_i2c hx hb hdg rfl k
    · cases hs
  case fcmp op =>
    split at hs
    · cases hs
      simp only [List.map_cons, em] at k ⊢
      exact lv_fcmp hx hb hdg k
    · cases hs
  case dcmp op =>
    split at hs
    · cases hs
      simp only [List.map_cons, em] at k ⊢
      exact lv_dcmp hx hb hdg k
    · cases hs
  case idiv =>
    split at hs
    · split at hs
      · cases hs
      · next hne =>
        cases hs
        simp only [List.map_cons, em] at k ⊢
        exact lv_idiv hx hb hdg hne k
    · cases hs
  case irem =>
    split at hs
    · split at hs
      · cases hs
      · next hne =>
        cases hs
        simp only [List.map_cons, em] at k ⊢
        exact lv_irem hx hb hdg hne k
    · cases hs
  case f2d =>
    split at hs
    · split at hs
      · next hne =>
        cases hs
        simp only [List.map_cons, em] at k ⊢
        exact lv_f2d hx hb hdg hne k
      · cases hs
    · cases hs
  case fadd =>
    split at hs
    · split at hs
      · next hne =>
        cases hs
        simp only [List.map_cons, em] at k ⊢
        exact lv_fadd hx hb hdg hne k
      · cases hs
    · cases hs
  case fsub =>
    split at hs
    · split at hs
      · next hne =>
        cases hs
        simp only [List.map_cons, em] at k ⊢
        exact lv_fsub hx hb hdg hne k
      · cases hs
    · cases hs
  case fmul =>
    split at hs
    · split at hs
      · next hne =>
        cases hs
        simp only [List.map_cons, em] at k ⊢
        exact lv_fmul hx hb hdg hne k
      · cases hs
    · cases hs
  case fdiv =>
    split at hs
    · split at hs
      · next hne =>
        cases hs
        simp only [List.map_cons, em] at k ⊢
        exact lv_fdiv hx hb hdg hne k
      · cases hs
    · cases hs
  case dadd =>
    split at hs
    · split at hs
      · next hne =>
        cases hs
        simp only [List.map_cons, em] at k ⊢
        exact lv_dadd hx hb hdg hne k
      · cases hs
    · cases hs
  case dsub =>
    split at hs
    · split at hs
      · next hne =>
        cases hs
        simp only [List.map_cons, em] at k ⊢
        exact lv_dsub hx hb hdg hne k
      · cases hs
    · cases hs
  case dmul =>
    split at hs
    · split at hs
      · next hne =>
        cases hs
        simp only [List.map_cons, em] at k ⊢
        exact lv_dmul hx hb hdg hne k
      · cases hs
    · cases hs
  case ddiv =>
    split at hs
    · split at hs
      · next hne =>
        cases hs
        simp only [List.map_cons, em] at k ⊢
        exact lv_ddiv hx hb hdg hne k
      · cases hs
    · cases hs
  case dup =>
    split at hs
    · cases hs
      simp only [List.map_cons, em] at k ⊢
      exact lv_dup hx hb hdg rfl k
    · cases hs
      simp only [List.map_cons, em] at k ⊢
      exact lv_dup hx hb hdg rfl k
    · cases hs
  case dup2 =>
    split at hs
    · cases hs
      simp only [List.map_cons, em] at k ⊢
      exact lv_dup2_11 hx hb hdg rfl rfl k
    · cases hs
  case dup_x1 =>
    split at hs
    · cases hs
      simp only [List.map_cons, em] at k ⊢
      exact lv_dup_x1 hx hb hdg rfl rfl k
    · cases hs
  case pop =>
    split at hs
    · cases hs
      simp only [List.map_cons, em] at k ⊢
      exact lv_pop hx hb hdg rfl k
    · cases hs
      simp only [List.map_cons, em] at k ⊢
      exact lv_pop hx hb hdg rfl k
    · cases hs
      simp only [List.map_cons, em] at k ⊢
      exact lv_pop hx hb hdg rfl k
    · cases hs
set_option maxHeartbeats 4000000 in
theorem sL {ad : Nat → Nat} {mi pc nx r1 r2 r3 : Nat} {ins : Instr} {v : Value} {lc : LC} {st : List Value} {q : LC × List Value} (hx : p.tables.exec = Jvm.exec) (hb : c.code = cB mi) (hl : lv_has ls (cM mi) (lm ad lc))
    (hw : wfE mi pc (1, ins, nx, r1, r2, r3, v) = true) (hs : stL ins v lc st = some q) (k : ∀ ls' : Array Slot, lv_has ls' (cM mi) (lm ad q.1) → W p l e R s m args below meth c H locs cells slots Q (F0 m nx ls' (q.2.map (em ad)))) : W p l e R s m args below meth c H locs cells slots Q (F0 m pc ls (st.map (em ad))) := by
  have hw9 : (decide (decode (cB mi) pc = .ok (ins, nx - pc)) && Nat.ble pc nx && (Nat.beq nx (pc + lenI ins) && wfL (cM mi) ins v)) = true := hw
  clear hw
  simp only [Bool.and_eq_true, decide_eq_true_eq] at hw9
  obtain ⟨⟨hdg0, -⟩, hnx0, h3⟩ := hw9
  have hnx := Nat.eq_of_beq_eq_true hnx0
  have hdg : decode (cB mi) pc = .ok (ins, lenI ins) := by rw [hdg0, hnx, Nat.add_sub_cancel_left]
  clear hdg0 hnx0
  subst hnx
  cases ins <;> simp only [stL, reduceCtorEq] at hs
  case iload i =>
    split at hs
    · next hg =>
      cases hs
      exact lv_iload hx hb hdg (lm_get hl hg) (k ls hl)
    · cases hs
  case istore i =>
    split at hs
    · cases hs
      have hn : (i : Nat) < cM mi := of_decide_eq_true h3
      exact lv_istore (lv' := lm ad (lset1 lc i (.int _))) hx hb hdg hl hn (lm_set1 ad lc i (.int _)) (fun ls' h' => k ls' h')
    · cases hs
  case iload_n i =>
    split at hs
    · next hg =>
      cases hs
      exact lv_iload_n hx hb hdg rfl (lm_get hl hg) (k ls hl)
    · cases hs
  case istore_n i =>
    split at hs
    · cases hs
      have hn : (i : Nat) < cM mi := of_decide_eq_true h3
      exact lv_istore_n (lv' := lm ad (lset1 lc i (.int _))) hx hb hdg rfl hl hn (lm_set1 ad lc i (.int _)) (fun ls' h' => k ls' h')
    · cases hs
  case aload i =>
    split at hs
    · next hg =>
      cases hs
      exact lv_aload hx hb hdg (lm_get hl hg) (k ls hl)
    · cases hs
  case astore i =>
    split at hs
    · cases hs
      have hn : (i : Nat) < cM mi := of_decide_eq_true h3
      exact lv_astore (lv' := lm ad (lset1 lc i (.ref _))) hx hb hdg hl hn (lm_set1 ad lc i (.ref _)) (fun ls' h' => k ls' h')
    · cases hs
  case aload_n i =>
    split at hs
    · next hg =>
      cases hs
      exact lv_aload_n hx hb hdg rfl (lm_get hl hg) (k ls hl)
    · cases hs
  case astore_n i =>
    split at hs
    · cases hs
      have hn : (i : Nat) < cM mi := of_decide_eq_true h3
      exact lv_astore_n (lv' := lm ad (lset1 lc i (.ref _))) hx hb hdg rfl hl hn (lm_set1 ad lc i (.ref _)) (fun ls' h' => k ls' h')
    · cases hs
  case fload i =>
    split at hs
    · next hg =>
      cases hs
      exact lv_fload hx hb hdg (lm_get hl hg) (k ls hl)
    · cases hs
  case fstore i =>
    split at hs
    · cases hs
      have hn : (i : Nat) < cM mi := of_decide_eq_true h3
      exact lv_fstore (lv' := lm ad (lset1 lc i (.float _))) hx hb hdg hl hn (lm_set1 ad lc i (.float _)) (fun ls' h' => k ls' h')
    · cases hs
  case fload_n i =>
    split at hs
    · next hg =>
      cases hs
      exact lv_fload_n hx hb hdg rfl (lm_get hl hg) (k ls hl)
    · cases hs
  case fstore_n i =>
    split at hs
    · cases hs
      have hn : (i : Nat) < cM mi := of_decide_eq_true h3
      exact lv_fstore_n (lv' := lm ad (lset1 lc i (.float _))) hx hb hdg rfl hl hn (lm_set1 ad lc i (.float _)) (fun ls' h' => k ls' h')
    · cases hs
  case lload i =>
    split at hs
    · next hg =>
      cases hs
      exact lv_lload hx hb hdg (lm_get hl hg) (k ls hl)
    · cases hs
  case lstore i =>
    split at hs
    · cases hs
      have hn : (i : Nat) + 1 < cM mi := of_decide_eq_true h3
      exact lv_lstore (lv' := lm ad (lset2 lc i (.long _))) hx hb hdg hl hn (lm_set2 ad lc i (.long _)) (fun ls' h' => k ls' h')
    · cases hs
  case lload_n i =>
    split at hs
    · next hg =>
      cases hs
      exact lv_lload_n hx hb hdg rfl (lm_get hl hg) (k ls hl)
    · cases hs
  case lstore_n i =>
    split at hs
    · cases hs
      have hn : (i : Nat) + 1 < cM mi := of_decide_eq_true h3
      exact lv_lstore_n (lv' := lm ad (lset2 lc i (.long _))) hx hb hdg rfl hl hn (lm_set2 ad lc i (.long _)) (fun ls' h' => k ls' h')
    · cases hs
  case dload i =>
    split at hs
    · next hg =>
      cases hs
      exact lv_dload hx hb hdg (lm_get hl hg) (k ls hl)
    · cases hs
  case dstore i =>
    split at hs
    · cases hs
      have hn : (i : Nat) + 1 < cM mi := of_decide_eq_true h3
      exact lv_dstore (lv' := lm ad (lset2 lc i (.double _))) hx hb hdg hl hn (lm_set2 ad lc i (.double _)) (fun ls' h' => k ls' h')
    · cases hs
  case dload_n i =>
    split at hs
    · next hg =>
      cases hs
      exact lv_dload_n hx hb hdg rfl (lm_get hl hg) (k ls hl)
    · cases hs
  case dstore_n i =>
    split at hs
    · cases hs
      have hn : (i : Nat) + 1 < cM mi := of_decide_eq_true h3
      exact lv_dstore_n (lv' := lm ad (lset2 lc i (.double _))) hx hb hdg rfl hl hn (lm_set2 ad lc i (.double _)) (fun ls' h' => k ls' h')
    · cases hs
  case iinc i n =>
    have h3 : i < cM mi ∧ v = .int (Int32.ofInt n) := of_decide_eq_true h3
    obtain ⟨hn, rfl⟩ := h3
    simp only [] at hs
    split at hs
    · next x hg =>
      cases hs
      have hg2 := hg
      unfold lget at hg2
      cases hf : lc.find? (fun q => q.1 == i) with
      | none => rw [hf] at hg2; cases hg2
      | some q =>
        rw [hf] at hg2
        have e1 : q.2 = .int x := Option.some.inj hg2
        have hi : q.1 = i := by simpa using List.find?_some hf
        have hm : q ∈ lc := List.mem_of_find?_eq_some hf
        obtain ⟨kk, hkk⟩ := List.getElem?_of_mem hm
        have hkk2 : (lm ad lc)[kk]? = some (i, .int x) := by
          unfold lm
          rw [List.getElem?_map, hkk]
          show some (q.1, em ad q.2) = _
          rw [e1, hi]
          rfl
        exact lv_iinc (v := x + Int32.ofInt n) (lv' := lm ad (lset1 lc i (.int (x + Int32.ofInt n)))) hx hb hdg hl hkk2 rfl hn (lm_set1 ad lc i (.int _)) (fun ls' h' => k ls' h')
    · cases hs
set_option maxHeartbeats 4000000 in
theorem sB {ad : Nat → Nat} {mi pc nx r1 r2 r3 : Nat} {ins : Instr} {v : Value} {st : List Value} {q : Bool × List Value} (hx : p.tables.exec = Jvm.exec) (hb : c.code = cB mi)
    (hw : wfE mi pc (2, ins, nx, r1, r2, r3, v) = true) (hs : stB ins st = some q) (k : W p l e R s m args below meth c H locs cells slots Q (F0 m (if q.1 = true then r1 else nx) ls (q.2.map (em ad)))) : W p l e R s m args below meth c H locs cells slots Q (F0 m pc ls (st.map (em ad))) := by
  have hw9 : (decide (decode (cB mi) pc = .ok (ins, nx - pc)) && Nat.ble pc nx && (Nat.beq nx (pc + lenI ins) && wfB pc ins r1)) = true := hw
  clear hw
  simp only [Bool.and_eq_true, decide_eq_true_eq] at hw9
  obtain ⟨⟨hdg0, -⟩, hnx0, h3⟩ := hw9
  have hnx := Nat.eq_of_beq_eq_true hnx0
  have hdg : decode (cB mi) pc = .ok (ins, lenI ins) := by rw [hdg0, hnx, Nat.add_sub_cancel_left]
  clear hdg0 hnx0
  subst hnx
  cases ins
  case goto f =>
    cases hs
    exact lv_goto hx hb hdg (of_decide_eq_true h3) k
  case ifnull f =>
    simp only [stB] at hs
    split at hs
    · cases hs
      exact lv_ifnull hx hb hdg k
    · cases hs
  case ifnonnull f =>
    simp only [stB] at hs
    split at hs
    · cases hs
      exact lv_ifnonnull hx hb hdg (of_decide_eq_true h3) k
    · cases hs
  case ifCond cd f =>
    cases cd
    case eq =>
      simp only [stB] at hs
      split at hs
      · cases hs
        refine lv_if_eq hx hb hdg (of_decide_eq_true h3) (fun hc => ?_) (fun hc => ?_)
        · rw [if_pos (by simpa using hc)] at k; exact k
        · rw [if_neg (by simpa using hc)] at k; exact k
      · cases hs
    case ne =>
      simp only [stB] at hs
      split at hs
      · cases hs
        refine lv_if_ne hx hb hdg (of_decide_eq_true h3) (fun hc => ?_) (fun hc => ?_)
        · rw [if_pos (by simpa using hc)] at k; exact k
        · rw [if_neg (by simpa using hc)] at k; exact k
      · cases hs
    case lt =>
      simp only [stB] at hs
      split at hs
      · cases hs
        refine lv_if_lt hx hb hdg (of_decide_eq_true h3) (fun hc => ?_) (fun hc => ?_)
        · rw [if_pos (by simpa using hc)] at k; exact k
        · rw [if_neg (by simpa using hc)] at k; exact k
      · cases hs
    case ge =>
      simp only [stB] at hs
      split at hs
      · cases hs
        refine lv_if_ge hx hb hdg (of_decide_eq_true h3) (fun hc => ?_) (fun hc => ?_)
        · rw [if_pos (by simpa using hc)] at k; exact k
        · rw [if_neg (by simpa using hc)] at k; exact k
      · cases hs
    case gt =>
      simp only [stB] at hs
      split at hs
      · cases hs
        refine lv_if_gt hx hb hdg (of_decide_eq_true h3) (fun hc => ?_) (fun hc => ?_)
        · rw [if_pos (by simpa using hc)] at k; exact k
        · rw [if_neg (by simpa using hc)] at k; exact k
      · cases hs
    case le =>
      simp only [stB] at hs
      split at hs
      · cases hs
        refine lv_if_le hx hb hdg (of_decide_eq_true h3) (fun hc => ?_) (fun hc => ?_)
        · rw [if_pos (by simpa using hc)] at k; exact k
        · rw [if_neg (by simpa using hc)] at k; exact k
      · cases hs
  case if_icmp cd f =>
    cases cd
    case eq =>
      simp only [stB] at hs
      split at hs
      · cases hs
        refine lv_icmp_eq hx hb hdg (of_decide_eq_true h3) (fun hc => ?_) (fun hc => ?_)
        · rw [if_pos (by simpa using hc)] at k; exact k
        · rw [if_neg (by simpa using hc)] at k; exact k
      · cases hs
    case ne =>
      simp only [stB] at hs
      split at hs
      · cases hs
        refine lv_icmp_ne hx hb hdg (of_decide_eq_true h3) (fun hc => ?_) (fun hc => ?_)
        · rw [if_pos (by simpa using hc)] at k; exact k
        · rw [if_neg (by simpa using hc)] at k; exact k
      · cases hs
    case lt =>
      simp only [stB] at hs
      split at hs
      · cases hs
        refine lv_icmp_lt hx hb hdg (of_decide_eq_true h3) (fun hc => ?_) (fun hc => ?_)
        · rw [if_pos (by simpa using hc)] at k; exact k
        · rw [if_neg (by simpa using hc)] at k; exact k
      · cases hs
    case ge =>
      simp only [stB] at hs
      split at hs
      · cases hs
        refine lv_icmp_ge hx hb hdg (of_decide_eq_true h3) (fun hc => ?_) (fun hc => ?_)
        · rw [if_pos (by simpa using hc)] at k; exact k
        · rw [if_neg (by simpa using hc)] at k; exact k
      · cases hs
    case gt =>
      simp only [stB] at hs
      split at hs
      · cases hs
        refine lv_icmp_gt hx hb hdg (of_decide_eq_true h3) (fun hc => ?_) (fun hc => ?_)
        · rw [if_pos (by simpa using hc)] at k; exact k
        · rw [if_neg (by simpa using hc)] at k; exact k
      · cases hs
    case le =>
      simp only [stB] at hs
      split at hs
      · cases hs
        refine lv_icmp_le hx hb hdg (of_decide_eq_true h3) (fun hc => ?_) (fun hc => ?_)
        · rw [if_pos (by simpa using hc)] at k; exact k
        · rw [if_neg (by simpa using hc)] at k; exact k
      · cases hs
  all_goals (simp only [stB, reduceCtorEq] at hs)
end
end
section
noncomputable section
variable {p : Program} {l : Launch} {e : Env} {R : Room} {s : State} {m : MethodId} {args : Array Value} {below : List Frame} {meth : Method} {c : Code} {H H0 : Heap} {locs : List Loc} {cells slots : Nat} {Q : State → Prop} {ls : Array Slot} {D : va_G} {ca : Nat → ClassId} {ad : Nat → Nat} {base : Nat → Prop}
def wcell (ca : Nat → ClassId) (ad : Nat → Nat) (y : Lay) (f1 : Nat → Int32) (f2 : Nat → UInt32) (f3 : Nat → Int64) (f4 : Nat → UInt64) : va_E :=
  match y with
  | (0, ci, sl) => .inr (ci, (List.range sl.length).map (fun j => em ad (fv (sl.getD j 0) (f1 j))))
  | (4, n, _) => .inl (ca 4, n, .inr (.inr (.inl f2)))
  | (5, n, _) => .inl (ca 5, n, .inr (.inl f3))
  | (6, n, _) => .inl (ca 6, n, .inr (.inr (.inr (.inl f4))))
  | (7, n, ts) => .inl (ca 7, n, .inr (.inr (.inr (.inr (fun i => (ts[i]?).map ad)))))
  | (8, n, ts) => .inl (ca 8, n, .inr (.inr (.inr (.inr (fun i => (ts[i]?).map ad)))))
  | (9, n, ts) => .inl (ca 9, n, .inr (.inr (.inr (.inr (fun i => (ts[i]?).map ad)))))
  | (t, n, _) => .inl (ca t, n, .inl f1)
def wsOf (ca : Nat → ClassId) (ad : Nat → Nat) (h : AH) : va_W := (List.range 181).map (fun j => (ad (31 + j), wcell ca ad (layAt (31 + j)) (h.1 (31 + j)) (h.2.1 (31 + j)) (h.2.2.1 (31 + j)) (h.2.2.2 (31 + j))))
def tysOf (ca : Nat → ClassId) : List (ClassId × FieldType) := [(ca 1, .int), (ca 2, .char), (ca 4, .float), (ca 7, .object "SawnIce$Palace")]
def AdOk (base : Nat → Prop) (ad : Nat → Nat) : Prop := (∀ i j, (31 ≤ i ∧ i < 212) → (31 ≤ j ∧ j < 212) → ad i = ad j → i = j) ∧ ∀ k, (31 ≤ k ∧ k < 212) → base (ad k)
theorem ws_at {k : Nat} (hk : 31 ≤ k ∧ k < 212) (h : AH) : (wsOf ca ad h)[k - 31]? = some (ad k, wcell ca ad (layAt k) (h.1 k) (h.2.1 k) (h.2.2.1 k) (h.2.2.2 k)) := by
  unfold wsOf
  rw [List.getElem?_map, List.getElem?_range (show k - 31 < 181 by omega)]
  show some (ad (31 + (k - 31)), wcell ca ad (layAt (31 + (k - 31))) _ _ _ _) = _
  rw [show 31 + (k - 31) = k by omega]
theorem ws_len (h : AH) : (wsOf ca ad h).length = 181 := by simp [wsOf]
theorem ws_set {k : Nat} (hk : 31 ≤ k ∧ k < 212) {h h' : AH} {x : va_E} (hx : wcell ca ad (layAt k) (h'.1 k) (h'.2.1 k) (h'.2.2.1 k) (h'.2.2.2 k) = x)
    (ho : ∀ a, a ≠ k → h'.1 a = h.1 a ∧ h'.2.1 a = h.2.1 a ∧ h'.2.2.1 a = h.2.2.1 a ∧ h'.2.2.2 a = h.2.2.2 a) : (wsOf ca ad h).set (k - 31) (ad k, x) = wsOf ca ad h' := by
  apply List.ext_getElem?
  intro j
  rw [List.getElem?_set]
  by_cases hj : k - 31 = j
  · subst hj
    rw [if_pos rfl, if_pos (by rw [ws_len]; omega), ws_at hk, hx]
  · rw [if_neg hj]
    by_cases hjn : j < 181
    · have hj2 : 31 ≤ j + 31 ∧ j + 31 < 212 := ⟨by omega, by omega⟩
      obtain ⟨h1, h2, h3, h4⟩ := ho (j + 31) (fun q => hj (by omega))
      have e1 := ws_at (ca := ca) (ad := ad) hj2 h
      have e2 := ws_at (ca := ca) (ad := ad) hj2 h'
      rw [Nat.add_sub_cancel] at e1 e2
      rw [e1, e2, h1, h2, h3, h4]
    · rw [List.getElem?_eq_none (by rw [ws_len]; omega), List.getElem?_eq_none (by rw [ws_len]; omega)]
theorem ws_D (hA : AdOk base ad) (h : AH) : va_D (fun q : Nat => base q) (wsOf ca ad h) := by
  have hlt : ∀ (i : Nat) (q : Nat × va_E), (wsOf ca ad h)[i]? = some q → i < 181 ∧ q.1 = ad (i + 31) := by
    intro i q hq
    have hi : i < 181 := by
      have := (List.getElem?_eq_some_iff.mp hq).1
      rw [ws_len] at this
      exact this
    have e1 := ws_at (ca := ca) (ad := ad) (show 31 ≤ i + 31 ∧ i + 31 < 212 from ⟨by omega, by omega⟩) h
    rw [Nat.add_sub_cancel] at e1
    rw [e1] at hq
    exact ⟨hi, by rw [← Option.some.inj hq]⟩
  refine ⟨fun i j p q hp hq he => ?_, fun k q hq => ?_⟩
  · obtain ⟨h1, h2⟩ := hlt i p hp
    obtain ⟨h3, h4⟩ := hlt j q hq
    have := hA.1 (i + 31) (j + 31) ⟨by omega, by omega⟩ ⟨by omega, by omega⟩ (by rw [← h2, ← h4, he])
    omega
  · obtain ⟨h1, h2⟩ := hlt k q hq
    rw [h2]
    exact hA.2 (k + 31) ⟨by omega, by omega⟩
theorem lay_in {k t n : Nat} {sl : List Nat} (h : layAt k = (t, n, sl)) (ht : t < 99) : (31 ≤ k ∧ k < 212) ∧ wfY (t, n, sl) = true := by
  rcases layAt_wf k with q | q
  · rw [h] at q
    have : t = 99 := congrArg (fun y : Lay => y.1) q
    omega
  · rw [h] at q
    exact q
theorem vcls_at : ∀ ci, ci < 9 → vcls[ci]? = some (cC ci, cT ci, cN ci)
  | 0, _ => rfl | 1, _ => rfl | 2, _ => rfl | 3, _ => rfl | 4, _ => rfl | 5, _ => rfl | 6, _ => rfl | 7, _ => rfl | 8, _ => rfl
  | n + 9, h => by omega
theorem cty_ok : ∀ ci, ci < 9 → ∀ k, k < cN ci → parseFieldDescriptor (cT ci k).2.2.1 = some (cTy ci k)
  | 0, _ => tyX0_ok | 1, _ => tyX3_ok | 2, _ => tyX4_ok | 3, _ => tyX5_ok | 4, _ => tyX6_ok | 5, _ => tyX7_ok | 6, _ => tyX8_ok | 7, _ => tyX9_ok | 8, _ => tyX10_ok
  | n + 9, h => by omega
theorem cnm_ok : ∀ ci, ci < 9 → ∀ a, a < cN ci → ∀ b, b < cN ci → a ≠ b → (cT ci a).2.1 ≠ (cT ci b).2.1
  | 0, _ => nmX0 | 1, _ => nmX3 | 2, _ => nmX4 | 3, _ => nmX5 | 4, _ => nmX6 | 5, _ => nmX7 | 6, _ => nmX8 | 7, _ => nmX9 | 8, _ => nmX10
  | n + 9, h => by omega
set_option maxRecDepth 100000 in
theorem uw_0 : ∀ w ∈ u_ws (cC 0) (cT 0) (cN 0), w ∈ lw_tbl ∧ goodWord w = true := by decide +kernel
set_option maxRecDepth 100000 in
theorem uw_1 : ∀ w ∈ u_ws (cC 1) (cT 1) (cN 1), w ∈ lw_tbl ∧ goodWord w = true := by decide +kernel
set_option maxRecDepth 100000 in
theorem uw_2 : ∀ w ∈ u_ws (cC 2) (cT 2) (cN 2), w ∈ lw_tbl ∧ goodWord w = true := by decide +kernel
set_option maxRecDepth 100000 in
theorem uw_3 : ∀ w ∈ u_ws (cC 3) (cT 3) (cN 3), w ∈ lw_tbl ∧ goodWord w = true := by decide +kernel
set_option maxRecDepth 100000 in
theorem uw_4 : ∀ w ∈ u_ws (cC 4) (cT 4) (cN 4), w ∈ lw_tbl ∧ goodWord w = true := by decide +kernel
set_option maxRecDepth 100000 in
theorem uw_5 : ∀ w ∈ u_ws (cC 5) (cT 5) (cN 5), w ∈ lw_tbl ∧ goodWord w = true := by decide +kernel
set_option maxRecDepth 100000 in
theorem uw_6 : ∀ w ∈ u_ws (cC 6) (cT 6) (cN 6), w ∈ lw_tbl ∧ goodWord w = true := by decide +kernel
set_option maxRecDepth 100000 in
theorem uw_7 : ∀ w ∈ u_ws (cC 7) (cT 7) (cN 7), w ∈ lw_tbl ∧ goodWord w = true := by decide +kernel
set_option maxRecDepth 100000 in
theorem uw_8 : ∀ w ∈ u_ws (cC 8) (cT 8) (cN 8), w ∈ lw_tbl ∧ goodWord w = true := by decide +kernel
theorem uw_ok : ∀ ci, ci < 9 → ∀ w ∈ u_ws (cC ci) (cT ci) (cN ci), w ∈ wAll
  | 0, _ => fun w h => wA (uw_0 w h).1 (uw_0 w h).2
  | 1, _ => fun w h => wA (uw_1 w h).1 (uw_1 w h).2
  | 2, _ => fun w h => wA (uw_2 w h).1 (uw_2 w h).2
  | 3, _ => fun w h => wA (uw_3 w h).1 (uw_3 w h).2
  | 4, _ => fun w h => wA (uw_4 w h).1 (uw_4 w h).2
  | 5, _ => fun w h => wA (uw_5 w h).1 (uw_5 w h).2
  | 6, _ => fun w h => wA (uw_6 w h).1 (uw_6 w h).2
  | 7, _ => fun w h => wA (uw_7 w h).1 (uw_7 w h).2
  | 8, _ => fun w h => wA (uw_8 w h).1 (uw_8 w h).2
  | n + 9, h => by omega
theorem fP_word {o i r1 r2 : Nat} (h : fP.any (fun q => Nat.beq q.1 o && Nat.beq q.2.1 i && Nat.beq q.2.2.1 r1 && Nat.beq q.2.2.2.1 r2) = true) : Cond.fieldLink (oN o) i (cT r1 r2).1 (cT r1 r2).2.1 (cT r1 r2).2.2.1 ∈ lw_tbl := by
  obtain ⟨q, hq, hb⟩ := any2 h
  simp only [Bool.and_eq_true] at hb
  obtain ⟨⟨⟨h1, h2⟩, h3⟩, h4⟩ := hb
  have h5 := tb_in _ _ (fP_ok q hq)
  rw [Nat.eq_of_beq_eq_true h1, Nat.eq_of_beq_eq_true h2, Nat.eq_of_beq_eq_true h3, Nat.eq_of_beq_eq_true h4] at h5
  exact h5
theorem ck_fit {x : Int32} (h : kOk 2 x = true) : narrow .char (.int x) = .int x ∧ fits .char (.int x) = true := by
  have h : ¬ x < 0 ∧ x ≤ 65535 := of_decide_eq_true h
  obtain ⟨j, hj, rfl⟩ := nI_of2 (M := 65535) (n := 65535) rfl h.1 h.2
  exact pk_charN (by omega)
theorem zk_fit {x : Int32} (h : kOk 1 x = true) : narrow .boolean (.int x) = .int x ∧ fits .boolean (.int x) = true := by
  have h : (decide (x = 0) || decide (x = 1)) = true := h
  simp only [Bool.or_eq_true, decide_eq_true_eq] at h
  rcases h with rfl | rfl <;> exact ⟨rfl, rfl⟩
theorem k_fit {ty : FieldType} {sv : Nat} {x : Int32} (h : kOk sv x = true) (h0 : sv = 0 → ty = .int) (h1 : sv = 1 → ty = .boolean) (h2 : sv = 2 → ty = .char) : narrow ty (.int x) = .int x ∧ fits ty (.int x) = true := by
  match sv, h with
  | 0, _ => rw [h0 rfl]; exact ⟨rfl, rfl⟩
  | 1, h => rw [h1 rfl]; exact zk_fit h
  | 2, h => rw [h2 rfl]; exact ck_fit h
  | n + 3, h => exact absurd h (by simp [kOk])
theorem fv_int {sv : Nat} {x : Int32} (h : sv < 3) (ad : Nat → Nat) : em ad (fv sv x) = .int x := by
  match sv, h with
  | 0, _ => rfl
  | 1, _ => rfl
  | 2, _ => rfl
theorem fld_at {sl : List Nat} {j sv : Nat} (h : sl[j]? = some sv) (f : Nat → Value → Nat → Value) : True := trivial
theorem flds_get {sl : List Nat} {r sv : Nat} (h : sl[r]? = some sv) (g : Nat → Int32) : ((List.range sl.length).map (fun j => em ad (fv (sl.getD j 0) (g j))))[r]? = some (em ad (fv sv (g r))) := by
  have hr : r < sl.length := (List.getElem?_eq_some_iff.mp h).1
  rw [List.getElem?_map, List.getElem?_range hr]
  show some (em ad (fv (sl.getD r 0) (g r))) = _
  rw [List.getD_eq_getElem?_getD, h]
  rfl
theorem flds_set {sl : List Nat} {r sv : Nat} {x : Int32} (h : sl[r]? = some sv) (h3 : sv < 3) (g g' : Nat → Int32) (hg : g' r = x) (ho : ∀ j, j ≠ r → g' j = g j) : ((List.range sl.length).map (fun j => em ad (fv (sl.getD j 0) (g j)))).set r (.int x) = (List.range sl.length).map (fun j => em ad (fv (sl.getD j 0) (g' j))) := by
  have hr : r < sl.length := (List.getElem?_eq_some_iff.mp h).1
  apply List.ext_getElem?
  intro j
  rw [List.getElem?_set]
  by_cases hj : r = j
  · subst hj
    rw [if_pos rfl, if_pos (by simpa using hr), flds_get h g', hg, fv_int h3]
  · rw [if_neg hj]
    by_cases hjn : j < sl.length
    · rw [List.getElem?_map, List.getElem?_map, List.getElem?_range hjn]
      show some (em ad (fv (sl.getD j 0) (g j))) = some (em ad (fv (sl.getD j 0) (g' j)))
      rw [ho j (fun q => hj q.symm)]
    · rw [List.getElem?_eq_none (by simp; omega), List.getElem?_eq_none (by simp; omega)]
theorem xaald (hexec : p.tables.exec = Jvm.exec) {cc : ByteArray} {cl : List vw_C} {ws : va_W} {tys : List (ClassId × FieldType)} {a pc : Nat} {rest : List Value} (hb : c.code = cc) (hK : va_K D cl tys s) (hP : va_P D cl ws H) (q0 t0 : Nat) {cA : ClassId} {ty : FieldType} {n : Nat} {f : Nat → Option Nat} (ha : ws[q0]? = some (a, .inl (cA, n, .inr (.inr (.inr (.inr f)))))) (ht : tys[t0]? = some (cA, .array ty)) {i : Int32} (hin : vp_in i n) (hdg : decode cc pc = .ok (.aaload, 1))
    (kk : W p l e R s m args below meth c H locs cells slots Q (F0 m (pc + 1) ls (va_rf (f i.toNatClampNeg) :: rest))) : W p l e R s m args below meth c H locs cells slots Q (F0 m pc ls (.int i :: .ref a :: rest)) := by
  have hlt : i.toNatClampNeg < n := Nat.not_le.mp fun q => hin (Or.inr q)
  exact W.aald (v := va_rf (f i.toNatClampNeg)) (ty := .array ty) hexec hb (hP q0 _ ha) ((hK.2 t0 _ ht).1 n (fun j => va_rf (f j))) rfl (fun q => by cases q) (by show ¬ (i < 0 ∨ (arrV _ _ _).slots.size ≤ _); rw [arrV_size]; exact hin) (by show (arrV _ _ _).slots[_]? = _; rw [arrV_read _ _ hlt]) rfl rfl hdg kk

set_option maxHeartbeats 4000000 in
theorem sH {mi pc nx r1 r2 r3 : Nat} {ins : Instr} {v : Value} {st : List Value} {h : AH} {q : List Value × AH} (hx : p.tables.exec = Jvm.exec) (hb : c.code = cB mi) (hown : s.vm.findClass (oN (cO mi)) = some m.cls) (hts : ∀ w ∈ wAll, w.before args s = true)
    (hK : va_K D vcls (tysOf ca) s) (hA : AdOk base ad) (hP : va_P D vcls (wsOf ca ad h) H) (hS : va_S (fun q : Nat => base q) H0 H locs)
    (hw : wfE mi pc (3, ins, nx, r1, r2, r3, v) = true) (hs : stH ins r1 r2 st h = some q)
    (k : ∀ (H1 : Heap) (locs1 : List Loc), va_P D vcls (wsOf ca ad q.2) H1 → va_S (fun q : Nat => base q) H0 H1 locs1 → W p l e R s m args below meth c H1 locs1 cells slots Q (F0 m nx ls (q.1.map (em ad)))) : W p l e R s m args below meth c H locs cells slots Q (F0 m pc ls (st.map (em ad))) := by
  have hw9 : (decide (decode (cB mi) pc = .ok (ins, nx - pc)) && Nat.ble pc nx && (Nat.beq nx (pc + lenI ins) && wfH (cO mi) ins r1 r2)) = true := hw
  clear hw
  simp only [Bool.and_eq_true, decide_eq_true_eq] at hw9
  obtain ⟨⟨hdg0, -⟩, hnx0, h3⟩ := hw9
  have hnx := Nat.eq_of_beq_eq_true hnx0
  have hdg : decode (cB mi) pc = .ok (ins, lenI ins) := by rw [hdg0, hnx, Nat.add_sub_cancel_left]
  clear hdg0 hnx0
  subst hnx
  have hDw := ws_D (ca := ca) hA h
  cases ins <;> simp only [stH, reduceCtorEq] at hs
  case getfield i =>
    split at hs
    case h_2 => cases hs
    rename_i k0 r
    split at hs
    case h_2 => cases hs
    rename_i ci sl hlay
    split at hs
    case isFalse => cases hs
    rename_i hci
    split at hs
    case h_2 => cases hs
    rename_i sv hsv
    cases hs
    subst hci
    obtain ⟨hk0, hy⟩ := lay_in hlay (by omega)
    have hy : (Nat.blt ci 9 && Nat.beq sl.length (cN ci) && (List.range sl.length).all (fun j => (match sl.getD j 0 with | 0 => decide (cTy ci j = .int) | 1 => decide (cTy ci j = .boolean) | 2 => decide (cTy ci j = .char) | t + 3 => Nat.blt t NC))) = true := hy
    simp only [Bool.and_eq_true] at hy
    obtain ⟨⟨hc1, hc2⟩, -⟩ := hy
    have hc1 : ci < 9 := Nat.le_of_ble_eq_true hc1
    have hc2 := Nat.eq_of_beq_eq_true hc2
    have hr2 : r2 < cN ci := by rw [← hc2]; exact (List.getElem?_eq_some_iff.mp hsv).1
    have he := ws_at (ca := ca) (ad := ad) hk0 h
    rw [hlay] at he
    exact va_get (Ts := wAll) hx hb hts (uw_ok ci hc1) hown hK hP (k0 - 31) he (vcls_at ci hc1) r2 hr2 (hts _ (wA (fP_word h3) rfl)) (fun x hx9 => hx9) (flds_get hsv (h.1 k0)) hdg (k _ _ hP hS)
  case putfield i =>
    split at hs
    case h_2 => cases hs
    rename_i x k0 r
    split at hs
    case h_2 => cases hs
    rename_i ci sl hlay
    split at hs
    case isFalse => cases hs
    rename_i hci
    split at hs
    case h_2 => cases hs
    rename_i sv hsv
    split at hs
    case isFalse => cases hs
    rename_i hok
    cases hs
    subst hci
    obtain ⟨hk0, hy⟩ := lay_in hlay (by omega)
    have hy : (Nat.blt ci 9 && Nat.beq sl.length (cN ci) && (List.range sl.length).all (fun j => (match sl.getD j 0 with | 0 => decide (cTy ci j = .int) | 1 => decide (cTy ci j = .boolean) | 2 => decide (cTy ci j = .char) | t + 3 => Nat.blt t NC))) = true := hy
    simp only [Bool.and_eq_true] at hy
    obtain ⟨⟨hc1, hc2⟩, hc3⟩ := hy
    have hc1 : ci < 9 := Nat.le_of_ble_eq_true hc1
    have hc2 := Nat.eq_of_beq_eq_true hc2
    have hrl : r2 < sl.length := (List.getElem?_eq_some_iff.mp hsv).1
    have hr2 : r2 < cN ci := by rw [← hc2]; exact hrl
    have hc4 := List.all_eq_true.mp hc3 r2 (List.mem_range.mpr hrl)
    rw [show sl.getD r2 0 = sv by rw [List.getD_eq_getElem?_getD, hsv]; rfl] at hc4
    have hsv3 : sv < 3 := by
      match sv, hok with
      | 0, _ => omega
      | 1, _ => omega
      | 2, _ => omega
      | n + 3, hok => exact absurd hok (by simp [kOk])
    have hf := k_fit (ty := cTy ci r2) hok (fun q => by subst q; exact of_decide_eq_true hc4) (fun q => by subst q; exact of_decide_eq_true hc4) (fun q => by subst q; exact of_decide_eq_true hc4)
    have he := ws_at (ca := ca) (ad := ad) hk0 h
    rw [hlay] at he
    have h3 : (fP.any (fun q => Nat.beq q.1 (cO mi) && Nat.beq q.2.1 i && Nat.beq q.2.2.1 ci && Nat.beq q.2.2.2.1 r2) && !(cT ci r2).2.2.2) = true := h3
    rw [Bool.and_eq_true] at h3
    obtain ⟨h3, hfin⟩ := h3
    have hfin : (cT ci r2).2.2.2 = false := by simpa using hfin
    refine va_put (Ts := wAll) hx hb hts (uw_ok ci hc1) (cTy ci) (cty_ok ci hc1) (cnm_ok ci hc1) hown hK hP hDw hS (k0 - 31) he (vcls_at ci hc1) r2 hr2 (hts _ (wA (fP_word h3) rfl)) (fun x hx9 => hx9) hfin (cty_ok ci hc1 r2 hr2) hf.1 hf.2 (by simpa using hrl) hdg (fun H1 locs1 hP1 _ hS1 => ?_)
    have hset : (wsOf ca ad h).set (k0 - 31) (ad k0, .inr (ci, ((List.range sl.length).map (fun j => em ad (fv (sl.getD j 0) (h.1 k0 j)))).set r2 (.int x))) = wsOf ca ad (hI h k0 r2 x) :=
      ws_set hk0 (by rw [hlay, flds_set hsv hsv3 (h.1 k0) ((hI h k0 r2 x).1 k0) (by simp [hI]) (fun j hj => by simp [hI, hj])]; rfl) (fun a ha => ⟨by funext j; simp [hI, ha], rfl, rfl, rfl⟩)
    rw [show em ad (.int x) = .int x from rfl, hset] at hP1
    exact k _ _ hP1 hS1
  case iaload =>
    split at hs
    case h_2 => cases hs
    rename_i i k0 r
    split at hs
    case h_2 => cases hs
    rename_i n sl hlay
    split at hs
    case isTrue => cases hs
    rename_i hin
    cases hs
    obtain ⟨hk0, -⟩ := lay_in hlay (by omega)
    have he := ws_at (ca := ca) (ad := ad) hk0 h
    rw [hlay] at he
    exact va_iald hx hb hK hP (k0 - 31) 0 he rfl hin hdg (k _ _ hP hS)
  case caload =>
    split at hs
    case h_2 => cases hs
    rename_i i k0 r
    split at hs
    case h_2 => cases hs
    rename_i n sl hlay
    split at hs
    case isTrue => cases hs
    rename_i hin
    cases hs
    obtain ⟨hk0, -⟩ := lay_in hlay (by omega)
    have he := ws_at (ca := ca) (ad := ad) hk0 h
    rw [hlay] at he
    exact va_cald hx hb hK hP (k0 - 31) 1 he rfl hin hdg (k _ _ hP hS)
  case faload =>
    split at hs
    case h_2 => cases hs
    rename_i i k0 r
    split at hs
    case h_2 => cases hs
    rename_i n sl hlay
    split at hs
    case isTrue => cases hs
    rename_i hin
    cases hs
    obtain ⟨hk0, -⟩ := lay_in hlay (by omega)
    have he := ws_at (ca := ca) (ad := ad) hk0 h
    rw [hlay] at he
    exact va_fald hx hb hK hP (k0 - 31) 2 he rfl hin hdg (k _ _ hP hS)
  case iastore =>
    split at hs
    case h_2 => cases hs
    rename_i x i k0 r
    split at hs
    case h_2 => cases hs
    rename_i n sl hlay
    split at hs
    case isTrue => cases hs
    rename_i hin
    cases hs
    obtain ⟨hk0, -⟩ := lay_in hlay (by omega)
    have he := ws_at (ca := ca) (ad := ad) hk0 h
    rw [hlay] at he
    refine va_iast hx hb hK hP hDw hS (k0 - 31) 0 he rfl hin hdg (fun H1 locs1 hP1 _ hS1 => ?_)
    have hu : (hI h k0 i.toNatClampNeg x).1 k0 = upd (h.1 k0) i.toNatClampNeg x := by
      funext j
      by_cases hj : j = i.toNatClampNeg <;> simp [hI, upd, hj]
    have hset : (wsOf ca ad h).set (k0 - 31) (ad k0, .inl (ca 1, n, .inl ((hI h k0 i.toNatClampNeg x).1 k0))) = wsOf ca ad (hI h k0 i.toNatClampNeg x) := ws_set hk0 (by rw [hlay]; rfl) (fun a ha => ⟨by funext j; simp [hI, ha], rfl, rfl, rfl⟩)
    rw [hu] at hset
    rw [hset] at hP1
    exact k _ _ hP1 hS1
  case castore =>
    split at hs
    case h_2 => cases hs
    rename_i x i k0 r
    split at hs
    case h_2 => cases hs
    rename_i n sl hlay
    split at hs
    case isTrue => cases hs
    rename_i hin
    split at hs
    case isFalse => cases hs
    rename_i hok
    cases hs
    obtain ⟨hk0, -⟩ := lay_in hlay (by omega)
    have he := ws_at (ca := ca) (ad := ad) hk0 h
    rw [hlay] at he
    refine va_cast hx hb hK hP hDw hS (k0 - 31) 1 he rfl hin hdg (fun H1 locs1 hP1 _ hS1 => ?_)
    rw [show vp_nar .char x = x by unfold vp_nar; rw [(ck_fit hok).1]] at hP1
    have hu : (hI h k0 i.toNatClampNeg x).1 k0 = upd (h.1 k0) i.toNatClampNeg x := by
      funext j
      by_cases hj : j = i.toNatClampNeg <;> simp [hI, upd, hj]
    have hset : (wsOf ca ad h).set (k0 - 31) (ad k0, .inl (ca 2, n, .inl ((hI h k0 i.toNatClampNeg x).1 k0))) = wsOf ca ad (hI h k0 i.toNatClampNeg x) := ws_set hk0 (by rw [hlay]; rfl) (fun a ha => ⟨by funext j; simp [hI, ha], rfl, rfl, rfl⟩)
    rw [hu] at hset
    rw [hset] at hP1
    exact k _ _ hP1 hS1
  case fastore =>
    split at hs
    case h_2 => cases hs
    rename_i x i k0 r
    split at hs
    case h_2 => cases hs
    rename_i n sl hlay
    split at hs
    case isTrue => cases hs
    rename_i hin
    cases hs
    obtain ⟨hk0, -⟩ := lay_in hlay (by omega)
    have he := ws_at (ca := ca) (ad := ad) hk0 h
    rw [hlay] at he
    refine va_fast hx hb hK hP hDw hS (k0 - 31) 2 he rfl hin hdg (fun H1 locs1 hP1 _ hS1 => ?_)
    have hu : (hF h k0 i.toNatClampNeg x).2.1 k0 = vf_upd (h.2.1 k0) i.toNatClampNeg x := by
      funext j
      by_cases hj : j = i.toNatClampNeg <;> simp [hF, vf_upd, hj]
    have hset : (wsOf ca ad h).set (k0 - 31) (ad k0, .inl (ca 4, n, .inr (.inr (.inl ((hF h k0 i.toNatClampNeg x).2.1 k0))))) = wsOf ca ad (hF h k0 i.toNatClampNeg x) := ws_set hk0 (by rw [hlay]; rfl) (fun a ha => ⟨rfl, by funext j; simp [hF, ha], rfl, rfl⟩)
    rw [hu] at hset
    rw [hset] at hP1
    exact k _ _ hP1 hS1
  case aaload =>
    split at hs
    case h_2 => cases hs
    rename_i i k0 r
    split at hs
    case h_2 => cases hs
    case h_1 =>
      rename_i n ts hlay
      split at hs
      case isTrue => cases hs
      rename_i hin
      split at hs
      case h_2 => cases hs
      rename_i t ht
      cases hs
      obtain ⟨hk0, -⟩ := lay_in hlay (by omega)
      have he := ws_at (ca := ca) (ad := ad) hk0 h
      rw [hlay] at he
      refine va_aldq hx hb hK hP (k0 - 31) 3 he rfl hin hdg ?_
      simp only [ht, Option.map_some, va_rf]
      exact k _ _ hP hS
  case arraylength =>
    split at hs
    case h_2 => cases hs
    rename_i k0 r
    obtain ⟨t, n, sl, hlay⟩ : ∃ t n sl, layAt k0 = (t, n, sl) := ⟨_, _, _, rfl⟩
    rw [hlay] at hs
    simp only [] at hs
    split at hs
    case isFalse => cases hs
    rename_i ht
    cases hs
    obtain ⟨hk0, -⟩ := lay_in hlay (by omega)
    have he := ws_at (ca := ca) (ad := ad) hk0 h
    rw [hlay] at he
    obtain rfl | rfl | rfl := ht
    · exact va_alen hx hb hK hP (k0 - 31) 0 he (ty := .int) rfl rfl hdg (k _ _ hP hS)
    · exact va_alen hx hb hK hP (k0 - 31) 1 he (ty := .char) rfl rfl hdg (k _ _ hP hS)
    · exact va_alen hx hb hK hP (k0 - 31) 2 he (ty := .float) rfl rfl hdg (k _ _ hP hS)
end
end
section
noncomputable section
variable {p : Program} {l : Launch} {e : Env} {R : Room} {s : State} {m : MethodId} {args : Array Value} {below : List Frame} {meth : Method} {c : Code} {H H0 : Heap} {locs : List Loc} {cells slots : Nat} {Q : State → Prop} {ls : Array Slot} {D : va_G} {ca : Nat → ClassId} {ad : Nat → Nat} {base : Nat → Prop}
theorem em_cats (ad : Nat → Nat) (st : List Value) : ((st.map (em ad)).map fun v => v.category).sum = (st.map fun v => v.category).sum := by
  rw [List.map_map]
  congr 1
  apply List.map_congr_left
  intro v _
  exact em_cat ad v
theorem cat_le2 (v : Value) : v.category ≤ 2 := by cases v <;> simp [Value.category]
theorem pP_word {o i r3 : Nat} (h : pP.any (fun q => Nat.beq q.1 o && Nat.beq q.2.1 i && Nat.beq q.2.2.1 r3) = true) : Cond.methodLink (oN o) i (pW r3) ∈ lw_tbl := by
  obtain ⟨q, hq, hb⟩ := any2 h
  simp only [Bool.and_eq_true] at hb
  obtain ⟨⟨h1, h2⟩, h3⟩ := hb
  have h5 := tb_in _ _ (pP_ok q hq)
  rw [Nat.eq_of_beq_eq_true h1, Nat.eq_of_beq_eq_true h2, Nat.eq_of_beq_eq_true h3] at h5
  exact h5
theorem w_maxS : Cond.static Lib.Math.max.name ∈ lw_tbl := tb_in 3 94 (by decide +kernel)
theorem w_minS : Cond.static Lib.Math.min.name ∈ lw_tbl := tb_in 2 68 (by decide +kernel)
theorem w_mathI : Cond.initialized "java/lang/Math" ∈ lw_tbl := tb_in 1 18 (by decide +kernel)
theorem w_maxC : Cond.code Lib.Math.max.name Lib.Math.max.code 2 (some .int) ∈ lw_tbl := tb_in 3 95 rfl
theorem w_minC : Cond.code Lib.Math.min.name Lib.Math.min.code 2 (some .int) ∈ lw_tbl := tb_in 2 69 rfl
theorem w_cpS : Cond.static arraycopyName ∈ lw_tbl := tb_in 2 71 (by decide +kernel)
theorem w_cpN : Cond.native arraycopyName ∈ lw_tbl := tb_in 2 72 (by decide +kernel)
theorem w_cpI : Cond.initialized "java/lang/System" ∈ lw_tbl := tb_in 1 19 (by decide +kernel)
theorem w_fS : Cond.static ⟨"java/lang/Float", "intBitsToFloat", "(I)F"⟩ ∈ lw_tbl := tb_in 5 179 (by decide +kernel)
theorem w_fN : Cond.native ⟨"java/lang/Float", "intBitsToFloat", "(I)F"⟩ ∈ lw_tbl := tb_in 5 180 (by decide +kernel)
theorem w_fI : Cond.initialized "java/lang/Float" ∈ lw_tbl := tb_in 1 29 (by decide +kernel)
theorem w_dS : Cond.static ⟨"java/lang/Double", "doubleToRawLongBits", "(D)J"⟩ ∈ lw_tbl := tb_in 6 5 (by decide +kernel)
theorem w_dN : Cond.native ⟨"java/lang/Double", "doubleToRawLongBits", "(D)J"⟩ ∈ lw_tbl := tb_in 6 6 (by decide +kernel)
theorem w_dI : Cond.initialized "java/lang/Double" ∈ lw_tbl := tb_in 1 31 (by decide +kernel)
set_option maxHeartbeats 4000000 in
theorem sPr {mi pc nx r1 r2 r3 : Nat} {ins : Instr} {v : Value} {st : List Value} {h : AH} {q : List Value × AH} (hx : p.tables.exec = Jvm.exec) (hb : c.code = cB mi) (hml : c.maxLocals = ls.size) (hown : s.vm.findClass (oN (cO mi)) = some m.cls) (hts : ∀ w ∈ wAll, w.before args s = true)
    (hK : va_K D vcls (tysOf ca) s) (hA : AdOk base ad) (hP : va_P D vcls (wsOf ca ad h) H) (hS : va_S (fun q : Nat => base q) H0 H locs) (hRf : 1 ≤ R.frames) (hRl : 60 ≤ R.locals) (hc : cells ≤ R.cells) (hsl : slots ≤ R.slots)
    (hw : wfE mi pc (5, ins, nx, r1, r2, r3, v) = true) (h8 : ((st.drop 2).map fun v => v.category).sum ≤ 8) (hs : stP r3 st h = some q)
    (k : ∀ (H1 : Heap) (locs1 : List Loc), va_P D vcls (wsOf ca ad q.2) H1 → va_S (fun q : Nat => base q) H0 H1 locs1 → W p l e R s m args below meth c H1 locs1 cells slots Q (F0 m nx ls (q.1.map (em ad)))) : W p l e R s m args below meth c H locs cells slots Q (F0 m pc ls (st.map (em ad))) := by
  have hw9 : (decide (decode (cB mi) pc = .ok (ins, nx - pc)) && Nat.ble pc nx && (Nat.beq nx (pc + lenI ins) && wfP (cO mi) ins r3)) = true := hw
  clear hw
  simp only [Bool.and_eq_true, decide_eq_true_eq] at hw9
  obtain ⟨⟨hdg0, -⟩, hnx0, h3⟩ := hw9
  have hnx := Nat.eq_of_beq_eq_true hnx0
  have hdg : decode (cB mi) pc = .ok (ins, lenI ins) := by rw [hdg0, hnx, Nat.add_sub_cancel_left]
  clear hdg0 hnx0
  subst hnx
  have hDw := ws_D (ca := ca) hA h
  obtain ⟨i, rfl⟩ : ∃ i, ins = .invokestatic i := by
    cases ins <;> simp only [wfP, reduceCtorEq] at h3
    exact ⟨_, rfl⟩
  have hlk := pP_word h3
  unfold stP at hs
  split at hs
  · split at hs
    · next y x r =>
      cases hs
      have h9 : ((r.map (em ad)).map fun v => v.category).sum ≤ 8 := by rw [em_cats]; exact h8
      exact va_mmax hx hb hml hown (hts _ (wA hlk rfl)) (hts _ (wA w_maxS rfl)) (hts _ (wA w_mathI rfl)) (hts _ (wA w_maxC rfl)) hRf (by omega) hc hsl hdg (k _ _ hP hS)
    · cases hs
  · split at hs
    · next y x r =>
      cases hs
      have h9 : ((r.map (em ad)).map fun v => v.category).sum ≤ 8 := by rw [em_cats]; exact h8
      exact va_mmin hx hb hml hown (hts _ (wA hlk rfl)) (hts _ (wA w_minS rfl)) (hts _ (wA w_mathI rfl)) (hts _ (wA w_minC rfl)) hRf (by omega) hc hsl hdg (k _ _ hP hS)
    · cases hs
  · split at hs
    · next b r =>
      split at hs
      case isFalse => cases hs
      rename_i hv
      cases hs
      have h9 : ((r.map (em ad)).map fun v => v.category).sum ≤ 10 := by
        rw [em_cats]
        cases r with
        | nil => simp
        | cons z r =>
          have h8 : (r.map fun v => v.category).sum ≤ 8 := h8
          have := cat_le2 z
          simp only [List.map_cons, List.sum_cons]
          omega
      exact vn_i2f hx hb hml hown (hts _ (wA hlk rfl)) (hts _ (wA w_fN rfl)) (hts _ (wA w_fS rfl)) (hts _ (wA w_fI rfl)) hv hRf (by omega) hdg (k _ _ hP hS)
    · cases hs
  · split at hs
    · next b r =>
      cases hs
      have h9 : ((r.map (em ad)).map fun v => v.category).sum ≤ 10 := by
        rw [em_cats]
        cases r with
        | nil => simp
        | cons z r =>
          have h8 : (r.map fun v => v.category).sum ≤ 8 := h8
          have := cat_le2 z
          simp only [List.map_cons, List.sum_cons]
          omega
      exact vn_d2l hx hb hml hown (hts _ (wA hlk rfl)) (hts _ (wA w_dN rfl)) (hts _ (wA w_dS rfl)) (hts _ (wA w_dI rfl)) hRf (by omega) hdg (k _ _ hP hS)
    · cases hs
  · split at hs
    · next n dp a sp a0 r =>
      have h9 : ((r.map (em ad)).map fun v => v.category).sum ≤ 8 := by
        rw [em_cats]
        have h8 : (((.ref a :: .int sp :: .ref a0 :: r : List Value)).map fun v => v.category).sum ≤ 8 := h8
        simp only [List.map_cons, List.sum_cons] at h8
        omega
      have hnw : nativeFrameWords "java/lang/System" "arraycopy" 5 ≤ 40 := by decide +kernel
      split at hs
      · cases hs
      · next hneg =>
        have n1 : ¬ sp < 0 := fun q => hneg (Or.inl q)
        have n2 : ¬ dp < 0 := fun q => hneg (Or.inr (Or.inl q))
        have n3 : ¬ n < 0 := fun q => hneg (Or.inr (Or.inr q))
        split at hs
        · next n0 s0 n1' s1 hl0 hl1 =>
          split at hs
          · next hle =>
            cases hs
            obtain ⟨hk0, -⟩ := lay_in hl0 (by omega)
            obtain ⟨hk1, -⟩ := lay_in hl1 (by omega)
            have he0 := ws_at (ca := ca) (ad := ad) hk0 h
            rw [hl0] at he0
            have he1 := ws_at (ca := ca) (ad := ad) hk1 h
            rw [hl1] at he1
            refine va_copyi (ty := .int) hx hb hml hown (hts _ (wA hlk rfl)) (hts _ (wA w_cpN rfl)) (hts _ (wA w_cpS rfl)) (hts _ (wA w_cpI rfl)) hK hP hDw hS (a0 - 31) (a - 31) 0 0 he0 he1 rfl rfl rfl n1 n2 n3 hle.1 hle.2 (fun _ _ => rfl) hRf (by omega) hdg (fun H1 locs1 hP1 _ hS1 => ?_)
            have hu : (hIr h a (va_cpy (h.1 a0) (h.1 a) sp.toNatClampNeg dp.toNatClampNeg n.toNatClampNeg)).1 a = va_cpy (h.1 a0) (h.1 a) sp.toNatClampNeg dp.toNatClampNeg n.toNatClampNeg := by funext j; simp [hIr]
            have hset : (wsOf ca ad h).set (a - 31) (ad a, .inl (ca 1, n1', .inl ((hIr h a (va_cpy (h.1 a0) (h.1 a) sp.toNatClampNeg dp.toNatClampNeg n.toNatClampNeg)).1 a))) = wsOf ca ad (hIr h a (va_cpy (h.1 a0) (h.1 a) sp.toNatClampNeg dp.toNatClampNeg n.toNatClampNeg)) := ws_set hk1 (by rw [hl1]; rfl) (fun b hb => ⟨by funext j; simp [hIr, hb], rfl, rfl, rfl⟩)
            rw [hu] at hset
            rw [hset] at hP1
            exact k _ _ hP1 hS1
          · cases hs
        · next n0 s0 n1' s1 hl0 hl1 =>
          split at hs
          · next hle =>
            cases hs
            obtain ⟨hk0, -⟩ := lay_in hl0 (by omega)
            obtain ⟨hk1, -⟩ := lay_in hl1 (by omega)
            have he0 := ws_at (ca := ca) (ad := ad) hk0 h
            rw [hl0] at he0
            have he1 := ws_at (ca := ca) (ad := ad) hk1 h
            rw [hl1] at he1
            refine va_copyf (ty := .float) hx hb hml hown (hts _ (wA hlk rfl)) (hts _ (wA w_cpN rfl)) (hts _ (wA w_cpS rfl)) (hts _ (wA w_cpI rfl)) hK hP hDw hS (a0 - 31) (a - 31) 2 2 he0 he1 rfl rfl rfl n1 n2 n3 hle.1 hle.2 (fun _ _ => rfl) hRf (by omega) hdg (fun H1 locs1 hP1 _ hS1 => ?_)
            have hu : (hFr h a (va_cpy (h.2.1 a0) (h.2.1 a) sp.toNatClampNeg dp.toNatClampNeg n.toNatClampNeg)).2.1 a = va_cpy (h.2.1 a0) (h.2.1 a) sp.toNatClampNeg dp.toNatClampNeg n.toNatClampNeg := by funext j; simp [hFr]
            have hset : (wsOf ca ad h).set (a - 31) (ad a, .inl (ca 4, n1', .inr (.inr (.inl ((hFr h a (va_cpy (h.2.1 a0) (h.2.1 a) sp.toNatClampNeg dp.toNatClampNeg n.toNatClampNeg)).2.1 a))))) = wsOf ca ad (hFr h a (va_cpy (h.2.1 a0) (h.2.1 a) sp.toNatClampNeg dp.toNatClampNeg n.toNatClampNeg)) := ws_set hk1 (by rw [hl1]; rfl) (fun b hb => ⟨rfl, by funext j; simp [hFr, hb], rfl, rfl⟩)
            rw [hu] at hset
            rw [hset] at hP1
            exact k _ _ hP1 hS1
          · cases hs
        · cases hs
    · cases hs
  · cases hs
theorem lkp_none {d x : Int} : ∀ (l : List (Int × Int)), (∀ a ∈ l, a.1 ≠ x) → Op.lookupswitch.offset l d x = d
  | [], _ => rfl
  | (a, o) :: r, h => by
    rw [Op.lookupswitch.offset_cons, if_neg]
    · exact lkp_none r (fun b hb => h b (List.mem_cons_of_mem _ hb))
    · intro q
      exact h (a, o) List.mem_cons_self q
set_option maxHeartbeats 4000000 in
theorem sS {mi pc nx r1 r2 r3 : Nat} {ins : Instr} {v : Value} {r : List Value} {x : Int32} (hx : p.tables.exec = Jvm.exec) (hb : c.code = cB mi)
    (hw : wfE mi pc (6, ins, nx, r1, r2, r3, v) = true) (k : W p l e R s m args below meth c H locs cells slots Q (F0 m (swt (cSw mi pc) x) ls (r.map (em ad)))) : W p l e R s m args below meth c H locs cells slots Q (F0 m pc ls ((Value.int x :: r).map (em ad))) := by
  have hw9 : (decide (decode (cB mi) pc = .ok (ins, nx - pc)) && Nat.ble pc nx && wfS pc ins (cSw mi pc)) = true := hw
  clear hw
  simp only [Bool.and_eq_true, decide_eq_true_eq] at hw9
  obtain ⟨⟨hdg, -⟩, h3⟩ := hw9
  generalize cSw mi pc = t at h3 k
  obtain ⟨l9, d9⟩ := t
  unfold swt at k
  cases ins <;> simp only [wfS, Bool.and_eq_true, decide_eq_true_eq, reduceCtorEq] at h3
  case tableswitch d lo hi offs =>
    obtain ⟨⟨hd, hall⟩, hcov⟩ := h3
    cases hf : l9.find? (fun e => e.1 == x) with
    | none =>
      rw [hf] at k
      refine lv_tableOut hx hb hdg ?_ hd k
      have hnf : ∀ a ∈ l9, ¬ a.1 = x := by simpa using hf
      rcases Int.lt_or_le x.toInt lo with q1 | q1
      · exact Or.inl q1
      · rcases Int.lt_or_le hi x.toInt with q2 | q2
        · exact Or.inr q2
        · exfalso
          have h4 := List.all_eq_true.mp hcov (x.toInt - lo).toNat (List.mem_range.mpr (by omega))
          obtain ⟨a, ha, hb9⟩ := any2 h4
          have h5 : a.1.toInt = lo + (((x.toInt - lo).toNat : Nat) : Int) := of_decide_eq_true hb9
          exact hnf a ha (Int32.toInt_inj.mp (by omega))
    | some a =>
      rw [hf] at k
      have hm : a ∈ l9 := List.mem_of_find?_eq_some hf
      have ha : a.1 = x := by simpa using List.find?_some hf
      have h4 := of_decide_eq_true (List.all_eq_true.mp hall a hm)
      rw [ha] at h4
      obtain ⟨h5, h6, h7⟩ := h4
      cases ho : offs[(x.toInt - lo).toNat]? with
      | none => rw [ho] at h7; cases h7
      | some f =>
        rw [ho] at h7
        exact lv_tableIn hx hb hdg (by omega) (by omega) ho (Option.some.inj h7) k
  case lookupswitch d ps =>
    obtain ⟨⟨⟨hd, hsrt⟩, hall⟩, hcov⟩ := h3
    cases hf : l9.find? (fun e => e.1 == x) with
    | none =>
      rw [hf] at k
      have hnf : ∀ a ∈ l9, ¬ a.1 = x := by simpa using hf
      refine lv_lookup hx hb hdg hsrt (lkp_none _ (fun a ha hax => ?_)) hd k
      obtain ⟨b, hb1, hb2⟩ := any2 (List.all_eq_true.mp hcov a ha)
      have h5 : b.1.toInt = a.1 := of_decide_eq_true hb2
      exact hnf b hb1 (Int32.toInt_inj.mp (by omega))
    | some a =>
      rw [hf] at k
      have hm : a ∈ l9 := List.mem_of_find?_eq_some hf
      have ha : a.1 = x := by simpa using List.find?_some hf
      have h4 := of_decide_eq_true (List.all_eq_true.mp hall a hm)
      rw [ha] at h4
      exact lv_lookup hx hb hdg hsrt rfl h4 k
theorem rk_fit {rt : Option FieldType} {x : Int32} (h : kOk (rKind rt) x = true) : ∃ ty, rt = some ty ∧ narrow ty (.int x) = .int x := by
  cases rt with
  | none => exact absurd h (by simp [rKind, kOk])
  | some ty =>
    cases ty with
    | int => exact ⟨_, rfl, rfl⟩
    | boolean => exact ⟨_, rfl, (zk_fit h).1⟩
    | char => exact ⟨_, rfl, (ck_fit h).1⟩
    | _ => exact absurd h (by simp [rKind, kOk])
set_option maxHeartbeats 4000000 in
theorem sR {mj pc : Nat} {st : List Value} {v : Option Value} {Qc : Array Value → State → Outcome → State → Prop} {free : Addr → Prop} (hL : ¬ mj = mL_law) (hrv : retv mj pc st = some v) (hx : p.tables.exec = Jvm.exec) (hb : c.code = cB mj) (hr : meth.sig.returnType = cR mj) (hlocks : meth.locks = false)
    (hq : ∀ t : State, t.heap = H → s.WarmedH t.vm → Qc args s (.returned (v.map (em ad))) t) (hf : ∀ q ∈ locs, free q.base) : W p l e R s m args below meth c H locs cells slots (MQ below Qc args s cells slots free) (F0 m pc ls (st.map (em ad))) := by
  unfold retv at hrv
  have wf9 : ∀ (ins : Instr) (z : Nat × Nat × Nat × Nat × Value), cdT mj pc = some (9, ins, z) → decode (cB mj) pc = .ok (ins, 1) ∧ wfR ins (cR mj) = true := by
    intro ins z hcd
    obtain ⟨nx, r1, r2, r3, vv⟩ := z
    have hw := (cdT_wf hL hcd).1
    have hw9 : (decide (decode (cB mj) pc = .ok (ins, nx - pc)) && Nat.ble pc nx && (Nat.beq nx (pc + 1) && wfR ins (cR mj))) = true := hw
    simp only [Bool.and_eq_true, decide_eq_true_eq] at hw9
    obtain ⟨⟨hdg, -⟩, hnx0, h3⟩ := hw9
    have hnx := Nat.eq_of_beq_eq_true hnx0
    exact ⟨by rw [hdg, hnx, Nat.add_sub_cancel_left], h3⟩
  split at hrv
  · next z hcd =>
    obtain ⟨hdg, h3⟩ := wf9 _ _ hcd
    split at hrv
    · split at hrv
      · next hok =>
        cases hrv
        obtain ⟨ty, h1, h2⟩ := rk_fit hok
        exact W.zret hx hb (hr.trans h1) h2 hq hf hdg hlocks
      · cases hrv
    · cases hrv
  · next z hcd =>
    obtain ⟨hdg, h3⟩ := wf9 _ _ hcd
    split at hrv
    · cases hrv
      exact W.fret hx hb (hr.trans (of_decide_eq_true h3)) hq hf hdg hlocks
    · cases hrv
  · next z hcd =>
    obtain ⟨hdg, h3⟩ := wf9 _ _ hcd
    split at hrv
    · cases hrv
      exact W.dret hx hb (hr.trans (of_decide_eq_true h3)) hq hf hdg hlocks
    · cases hrv
  · next z hcd =>
    obtain ⟨hdg, h3⟩ := wf9 _ _ hcd
    split at hrv
    · cases hrv
      exact W.lret hx hb (hr.trans (of_decide_eq_true h3)) hq hf hdg hlocks
    · cases hrv
  · next z hcd =>
    obtain ⟨hdg, h3⟩ := wf9 _ _ hcd
    split at hrv
    · cases hrv
      exact W.vret hx hb (hr.trans (of_decide_eq_true h3)) hq hf hdg hlocks
    · cases hrv
  · cases hrv
end
end
section
noncomputable section
variable {p : Program} {l : Launch} {e : Env} {R : Room} {s : State} {m : MethodId} {args : Array Value} {below : List Frame} {meth : Method} {c : Code} {H H0 : Heap} {locs : List Loc} {cells slots : Nat} {Q : State → Prop} {ls : Array Slot} {D : va_G} {ca : Nat → ClassId} {ad : Nat → Nat} {base : Nat → Prop}
def PcX (D : va_G) (ca : Nat → ClassId) (ad : Nat → Nat) (av : List Value) (h : AH) : Array Value → State → Prop := va_Pc (av.map (em ad)) (fun U => va_P D vcls (wsOf ca ad h) U.heap ∧ va_K D vcls (tysOf ca) U)
def QcX (D : va_G) (ca : Nat → ClassId) (ad : Nat → Nat) (base : Nat → Prop) (v : Option Value) (h' : AH) : Array Value → State → Outcome → State → Prop := fun _ st o t => (o = .returned (v.map (em ad)) ∧ va_P D vcls (wsOf ca ad h') t.heap) ∧ va_F (fun q : Nat => base q) st t
def wsM (mj : Nat) : List Cond := Cond.code (cY mj) (cB mj) (cM mj) (cR mj) :: wAll
def rmX (d : Nat) : Room := { frames := d + 1, cells := 0, slots := 0, locals := 60 * (d + 1) }
theorem gAll {ws : List Cond} (h : ∀ w ∈ ws, w ∈ wAll) : GoodIn wAll ws := fun w hw => ⟨h w hw, good_of_word (List.mem_filter.mp (h w hw)).2⟩
theorem PcX_blind {av : List Value} {h : AH} : FrameBlind (PcX D ca ad av h) := fun a U g mk q => ⟨q.1, q.2.1, va_K.moved (u := U) (U := U.calling g mk a) (Vm.Alike.refl U.vm) q.2.2⟩
theorem callX {pc : Nat} {st0 rest : List Value} {a : Array Value} {rv : Option Value} {h' : AH} (hr : va_Run p l e R s m args below meth c H locs cells slots 0 0 (F0 m pc ls st0) (rest.map (em ad)) (QcX D ca ad base rv h' a) (fun q : Nat => base q)) (hS : va_S (fun q : Nat => base q) H0 H locs)
    (k : ∀ (H1 : Heap) (locs1 : List Loc), va_P D vcls (wsOf ca ad h') H1 → va_S (fun q : Nat => base q) H0 H1 locs1 → W p l e R s m args below meth c H1 locs1 cells slots Q (F0 m (pc + 3) ls ((rv.toList ++ rest).map (em ad)))) : W p l e R s m args below meth c H locs cells slots Q (F0 m pc ls st0) := by
  intro T hT X
  obtain ⟨v9, st₀, t, T', L, h0, X', hL, e1, e2, ⟨⟨hv, hp⟩, hz, hk⟩, st⟩ := hr T hT X
  have hv : v9 = rv.map (em ad) := by cases hv; rfl
  subst hv
  rw [h0] at hz hk
  obtain ⟨t2, a1, b1⟩ := k T'.heap (locs ++ L) (by rw [e1]; exact hp)
    ⟨Nat.le_trans hS.1 (by rw [e1]; exact hz), fun q h1 h2 => by rw [e1, hk q (Nat.lt_of_lt_of_le h1 hS.1) h2]; exact hS.2.1 q h1 h2, fun q hq => by
      rcases List.mem_append.mp hq with h | h
      · exact hS.2.2 q h
      · exact hL q h⟩ T' rfl X'
  refine ⟨t2, st t2 ?_, b1⟩
  have e9 : (rv.map (em ad)).toList ++ rest.map (em ad) = (rv.toList ++ rest).map (em ad) := by cases rv <;> simp
  show Steps p.tables e below (T'.setTop { F0 m pc ls st0 with pc := pc + 3, stack := (rv.map (em ad)).toList ++ rest.map (em ad) }) t2
  rw [e9]
  exact a1
set_option maxHeartbeats 4000000 in
theorem sC {mi pc nx mj na kd d' : Nat} {ins : Instr} {v : Value} {st : List Value} {q : List Value × List Value} {rv : Option Value} {h h' : AH} (hx : p.tables.exec = Jvm.exec) (hb : c.code = cB mi) (hml : c.maxLocals = cM mi) (hown : s.vm.findClass (oN (cO mi)) = some m.cls) (hts : ∀ w ∈ wAll, w.before args s = true)
    (hK : va_K D vcls (tysOf ca) s) (hP : va_P D vcls (wsOf ca ad h) H) (hS : va_S (fun q : Nat => base q) H0 H locs) (hl : ls.size = cM mi) (hRf : d' + 2 ≤ R.frames) (hRl : 60 * (d' + 2) ≤ R.locals) (hc : cells ≤ R.cells) (hsl : slots ≤ R.slots)
    (hw : wfE mi pc (4, ins, nx, mj, na, kd, v) = true) (ha : cArgs kd na mj st = some q) (h8 : (q.2.map fun v => v.category).sum ≤ 8)
    (hM : Met l (cY mj) (wsM mj) (rmX d') (PcX D ca ad q.1 h) (QcX D ca ad base rv h') 0 0 (fun a : Nat => base a))
    (k : ∀ (H1 : Heap) (locs1 : List Loc), va_P D vcls (wsOf ca ad h') H1 → va_S (fun q : Nat => base q) H0 H1 locs1 → W p l e R s m args below meth c H1 locs1 cells slots Q (F0 m nx ls ((rv.toList ++ q.2).map (em ad)))) : W p l e R s m args below meth c H locs cells slots Q (F0 m pc ls (st.map (em ad))) := by
  have hw9 : (decide (decode (cB mi) pc = .ok (ins, nx - pc)) && Nat.ble pc nx && (Nat.beq nx (pc + lenI ins) && wfC (cO mi) ins mj na kd)) = true := hw
  clear hw
  simp only [Bool.and_eq_true, decide_eq_true_eq] at hw9
  obtain ⟨⟨hdg0, -⟩, hnx0, h3⟩ := hw9
  have hnx := Nat.eq_of_beq_eq_true hnx0
  have hdg : decode (cB mi) pc = .ok (ins, lenI ins) := by rw [hdg0, hnx, Nat.add_sub_cancel_left]
  clear hdg0 hnx0
  subst hnx
  unfold wfC at h3
  simp only [Bool.and_eq_true, decide_eq_true_eq] at h3
  obtain ⟨⟨⟨⟨⟨⟨⟨⟨hmp, hkd⟩, hnl⟩, hmh⟩, hnp⟩, hcd⟩, hmn⟩, hpa⟩, hm16⟩ := h3
  have hm16 : cM mj ≤ 16 := Nat.le_of_ble_eq_true hm16
  have hmn : mj < nMeth := Nat.le_of_ble_eq_true hmn
  have hcls : (cY mj).cls = oN (cO mj) := oN_ok mj (List.mem_range.mpr hmn)
  have hini : Cond.initialized (cY mj).cls ∈ wAll := by
    obtain ⟨z, hz, hb9⟩ := any2 hnp
    have h5 := tb_in _ _ (nP_ok z hz)
    rw [Nat.eq_of_beq_eq_true hb9, ← hcls] at h5
    exact wA h5 rfl
  have hcode : Cond.code (cY mj) (cB mj) (cM mj) (cR mj) ∈ wAll := by
    obtain ⟨z, hz, hb9⟩ := any2 hcd
    have := Nat.eq_of_beq_eq_true hb9
    subst this
    exact wA (cdd_ok z hz) rfl
  have hwsM : ∀ w ∈ wsM mj, w ∈ wAll := fun w hw => by
    rcases List.mem_cons.mp hw with h | h
    · rw [h]; exact hcode
    · exact h
  obtain ⟨zm, hzm, hbm⟩ := any2 hmp
  simp only [Bool.and_eq_true] at hbm
  obtain ⟨⟨hm1, hm2⟩, hm3⟩ := hbm
  have hml9 := tb_in _ _ (mP_ok zm hzm)
  rw [Nat.eq_of_beq_eq_true hm1, Nat.eq_of_beq_eq_true hm3] at hml9
  unfold cArgs at ha
  split at ha
  case isFalse => cases ha
  rename_i hna
  have hlen : (((st.take na).reverse).map (em ad)).length = na := by simp; omega
  have hroom : (rmX d').frames + 1 ≤ R.frames ∧ 8 + (cM mj + 11) + (rmX d').locals ≤ R.locals := ⟨hRf, by show 8 + (cM mj + 11) + 60 * (d' + 1) ≤ _; omega⟩
  cases ins <;> simp only [reduceCtorEq, Bool.false_eq_true, Bool.and_eq_true, decide_eq_true_eq] at hkd
  case invokevirtual i =>
    obtain ⟨⟨⟨⟨hk0, hko⟩, hkc⟩, hip⟩, hsp⟩ := hkd
    have hk0 := Nat.eq_of_beq_eq_true hk0
    subst hk0
    have hko : kOf (cO mj) < 9 := Nat.le_of_ble_eq_true hko
    rw [Nat.eq_of_beq_eq_true hm2] at hml9
    have hinst : Cond.instanceMethod (cY mj) ∈ wAll := by
      obtain ⟨z, hz, hb9⟩ := any2 hip
      have h5 := tb_in _ _ (iP_ok z hz)
      rw [Nat.eq_of_beq_eq_true hb9] at h5
      exact wA h5 rfl
    have hsel : Cond.selects (cY mj).cls (cY mj) (cY mj) ∈ wAll := by
      obtain ⟨z, hz, hb9⟩ := any2 hsp
      have h5 := tb_in _ _ (sP_ok z hz)
      rw [Nat.eq_of_beq_eq_true hb9] at h5
      exact wA h5 rfl
    split at ha
    · next hz => cases hz
    · split at ha
      case h_2 => cases ha
      rename_i b r hdrop
      split at ha
      case h_2 => cases ha
      rename_i ci sl hlay
      split at ha
      case isFalse => cases ha
      rename_i hci
      cases ha
      subst hci
      obtain ⟨hkb, -⟩ := lay_in hlay (by omega)
      have he := ws_at (ca := ca) (ad := ad) hkb h
      rw [hlay] at he
      have hst : st.map (em ad) = (((st.take na).reverse).map (em ad)).reverse ++ .ref (ad b) :: r.map (em ad) := by
        rw [← List.map_reverse, List.reverse_reverse]
        conv => lhs; rw [← List.take_append_drop na st, hdrop]
        rw [List.map_append]
        rfl
      have hrecv := va_recv hK hP (vcls_at _ hko) he
      refine callX (rest := r) (va_runV (As := ((st.take na).reverse).map (em ad)) (Ts := wAll) (C := (cY mj).cls) ⟨hx, hb, hml, hown, hts⟩ hM
        (cwV na hts (gAll (fun w hw => ?_)) rfl rfl rfl ⟨rfl, hmh.1, hmh.2, hpa⟩ hroom)
        ⟨PcX_blind, (by rw [← hkc]; exact hrecv), fun U hU hW => ⟨rfl, by rw [hU]; exact hP, va_K.moved hW.alike hK⟩⟩ rfl hlen hl hst (lv_room (by rw [em_cats]; exact h8)) hdg ⟨hc, hsl⟩) hS k
      unfold wsV at hw
      rcases List.mem_append.mp hw with h | h
      · simp only [List.mem_cons, List.not_mem_nil, or_false] at h
        rcases h with h | h | h | h <;> rw [h]
        · exact wA hml9 rfl
        · exact hinst
        · exact hsel
        · exact hini
      · exact hwsM w h
  case invokestatic i =>
    obtain ⟨hk0, htp⟩ := hkd
    have hk0 := Nat.eq_of_beq_eq_true hk0
    subst hk0
    rw [Nat.eq_of_beq_eq_true hm2] at hml9
    have hstat : Cond.static (cY mj) ∈ wAll := by
      obtain ⟨z, hz, hb9⟩ := any2 htp
      have h5 := tb_in _ _ (tP_ok z hz)
      rw [Nat.eq_of_beq_eq_true hb9] at h5
      exact wA h5 rfl
    simp only [] at ha
    cases ha
    have hst : st.map (em ad) = (((st.take na).reverse).map (em ad)).reverse ++ (st.drop na).map (em ad) := by
      rw [← List.map_reverse, List.reverse_reverse]
      conv => lhs; rw [← List.take_append_drop na st]
      rw [List.map_append]
    refine callX (rest := st.drop na) (va_runS (As := ((st.take na).reverse).map (em ad)) (Ts := wAll) ⟨hx, hb, hml, hown, hts⟩ hM
      (va_cwS na hts (gAll (fun w hw => ?_)) rfl rfl rfl ⟨hmh.1, hmh.2, hpa⟩ hroom)
      ⟨PcX_blind, fun U hU hW => ⟨rfl, by rw [hU]; exact hP, va_K.moved hW.alike hK⟩⟩ rfl hlen hl hst (lv_room (by rw [em_cats]; exact h8)) hdg ⟨hc, hsl⟩) hS k
    unfold va_wsS at hw
    rcases List.mem_append.mp hw with h | h
    · simp only [List.mem_cons, List.not_mem_nil, or_false] at h
      rcases h with h | h | h <;> rw [h]
      · exact wA hml9 rfl
      · exact hstat
      · exact hini
    · exact hwsM w h
/-- THE SIMULATION: what run does, the machine does, in any frame of one of the methods -/
def Sim (l : Launch) (D : va_G) (ca : Nat → ClassId) (ad : Nat → Nat) (base : Nat → Prop) (n : Nat) : Prop := ∀ (d mi pc : Nat) (lc : LC) (st : List Value) (h : AH) (cf : Cf), run n d mi pc lc st h = some cf → ¬ mi = mL_law →
  ∀ (p : Program) (e : Env) (R : Room) (s : State) (m : MethodId) (args : Array Value) (below : List Frame) (meth : Method) (c : Code) (H0 H : Heap) (locs : List Loc) (cells slots : Nat) (Q : State → Prop) (ls : Array Slot),
    p.tables.exec = Jvm.exec → c.code = cB mi → c.maxLocals = cM mi → s.vm.findClass (oN (cO mi)) = some m.cls → (∀ w ∈ wAll, w.before args s = true) → va_K D vcls (tysOf ca) s → AdOk base ad → d + 1 ≤ R.frames → 60 * (d + 1) ≤ R.locals → cells ≤ R.cells → slots ≤ R.slots →
    va_P D vcls (wsOf ca ad h) H → va_S (fun q : Nat => base q) H0 H locs → lv_has ls (cM mi) (lm ad lc) →
    (∀ (H1 : Heap) (locs1 : List Loc) (ls1 : Array Slot), va_P D vcls (wsOf ca ad cf.2.2.2) H1 → va_S (fun q : Nat => base q) H0 H1 locs1 → lv_has ls1 (cM mi) (lm ad cf.2.1) → W p l e R s m args below meth c H1 locs1 cells slots Q (F0 m cf.1 ls1 (cf.2.2.1.map (em ad)))) →
    W p l e R s m args below meth c H locs cells slots Q (F0 m pc ls (st.map (em ad)))
theorem sl_len (vs : List Value) : (lg_sl vs).length = (vs.map fun v => v.category).sum := by
  induction vs with
  | nil => rfl
  | cons v t ih =>
    unfold lg_sl at ih ⊢
    rw [List.flatMap_cons, List.length_append, ih, List.map_cons, List.sum_cons]
    cases v <;> rfl
theorem args_em (ad : Nat → Nat) : ∀ (vs : List Value) (i : Nat), lv_args i (vs.map (em ad)) = lm ad (lv_args i vs)
  | [], _ => rfl
  | v :: t, i => by
    rw [List.map_cons]
    unfold lv_args
    rw [em_cat, args_em ad t]
    rfl
/-- as the kit's Met.ofW, for a method none of whose natives stands ahead of it -/
theorem ofWF {y : MethodName} {ws ws' : List Cond} {rm : Room} {Pc : Array Value → State → Prop} {Qc : Array Value → State → Outcome → State → Prop} {mc ms : Nat} {free : Addr → Prop} {cc : ByteArray} {maxL : Nat} {ret : Option FieldType}
    (hy : plainFor y = true) (hw : ws = Cond.code y cc maxL ret :: ws')
    (body : ∀ p e s m args below meth c s₁, BodyLoose p l y (headSpec ws rm) cc maxL ret e s m args below meth c s₁ → c.maxLocals = maxL → Pc args s →
      W p l e (headSpec ws rm).room s m args below meth c s.heap [] 0 0 (MQ below Qc args s mc ms free) (entryFrame m args maxL)) : Met l y ws rm Pc Qc mc ms free := by
  refine MetFree.of_bodySF (code := cc) (maxLocals := maxL) (ret := ret) hy ?_ ?_
  · intro args s m h hn
    obtain ⟨meth, c, h1, h2, h3, h4, h5, h6, -, -⟩ := Cond.code_spec hn (atoms_spec (ws := ws) h _ (by rw [hw]; exact List.mem_cons_self))
    exact ⟨meth, c, h1, h2, h3, h4, h5, h6⟩
  · intro p e s m args below meth c s₁ B hml hP _
    have hh0 : s₁.heap = s.heap := by rw [B.state]; rfl
    obtain ⟨t, a1, o, b1, b2, b3⟩ := body p e s m args below meth c s₁ B hml hP s₁ hh0 (Stand.of_body B)
    exact ⟨t, o, a1, b1, b2, ⟨b3.1, b3.2⟩⟩
set_option maxRecDepth 100000 in
theorem pf_ok : ∀ mj ∈ cdd, plainFor (cY mj) = true := by decide +kernel
set_option maxHeartbeats 4000000 in
theorem metOf {n d mj : Nat} (hSim : Sim l D ca ad base n) (hL : ¬ mj = mL_law) (hmj : mj < nMeth) (hpl : plainFor (cY mj) = true) {av : List Value} {h : AH} {cf : Cf} {v : Option Value} (hcat : (av.map fun v => v.category).sum ≤ cM mj) (hrun : run n d mj 0 (lv_args 0 av) [] h = some cf) (hrv : retv mj cf.1 cf.2.2.1 = some v) (hA : AdOk base ad) :
    Met l (cY mj) (wsM mj) (rmX d) (PcX D ca ad av h) (QcX D ca ad base v cf.2.2.2) 0 0 (fun a : Nat => base a) := by
  refine ofWF (cc := cB mj) (maxL := cM mj) (ret := cR mj) hpl rfl ?_
  intro p e s m args below meth c s₁ B hml hv
  obtain ⟨rfl, hP, hK⟩ := hv
  have hts := atoms_spec (ws := wsM mj) B.pre
  have hown : s.vm.findClass (oN (cO mj)) = some m.cls := by rw [← oN_ok mj (List.mem_range.mpr hmj)]; exact findClass_of_methodNamed B.named
  have hl := lv_entry (av.map (em ad)) (n := cM mj) (by rw [sl_len, em_cats]; exact hcat)
  rw [lg_entry_eq]
  generalize (lg_sl (av.map (em ad)) ++ List.replicate (cM mj - (lg_sl (av.map (em ad))).length) Slot.unset).toArray = ls at hl ⊢
  rw [args_em] at hl
  refine hSim d mj 0 _ [] h cf hrun hL p e (rmX d) s m _ below meth c s.heap s.heap [] 0 0 _ ls B.exec B.bytes hml hown (fun w hw => hts w (List.mem_cons_of_mem _ hw)) hK hA (Nat.le_refl _) (Nat.le_refl _) (Nat.zero_le _) (Nat.zero_le _) hP va_S.rf hl (fun H1 locs1 ls1 hP1 hS1 hl1 => ?_)
  exact sR hL hrv B.exec B.bytes B.returns B.notSynchronized (fun t ht hW => ⟨⟨rfl, by rw [ht]; exact hP1⟩, hS1.F ht⟩) hS1.2.2
set_option maxHeartbeats 4000000 in
theorem sim (n : Nat) : Sim l D ca ad base n := by
  induction n with
  | zero =>
    intro d mi pc lc st h cf hrun
    cases hrun
  | succ n ih =>
    intro d mi pc lc st h cf hrun hL p e R s m args below meth c H0 H locs cells slots Q ls hx hb hml hown hts hK hA hRf hRl hc hsl hP hS hl k
    unfold run at hrun
    split at hrun
    · cases hrun
    · next ins nx r1 r2 r3 v hcd =>
      split at hrun
      · next q hq =>
        exact sB hx hb (cdT_wf hL hcd).1 hq (ih d mi _ lc q.2 h cf hrun hL p e R s m args below meth c H0 H locs cells slots Q ls hx hb hml hown hts hK hA hRf hRl hc hsl hP hS hl k)
      · cases hrun
    · next ins nx mj na kd v hcd =>
      split at hrun
      · cases hrun
      · next d' =>
        split at hrun
        · cases hrun
        · next q hq =>
          split at hrun
          · next h8 =>
            split at hrun
            · cases hrun
            · next c2 hc2 =>
              split at hrun
              · cases hrun
              · next rv hrv =>
                have hw := (cdT_wf hL hcd).1
                have hw9 : (decide (decode (cB mi) pc = .ok (ins, nx - pc)) && Nat.ble pc nx && (Nat.beq nx (pc + lenI ins) && wfC (cO mi) ins mj na kd)) = true := hw
                unfold wfC at hw9
                simp only [Bool.and_eq_true, decide_eq_true_eq] at hw9
                obtain ⟨-, -, ⟨⟨⟨⟨⟨⟨⟨⟨hmp, hkd⟩, hnl⟩, hmh⟩, hnp⟩, hcd9⟩, hmn⟩, hpa⟩, hm16⟩⟩ := hw9
                have hpl : plainFor (cY mj) = true := by
                  obtain ⟨z, hz, hb9⟩ := any2 hcd9
                  rw [← Nat.eq_of_beq_eq_true hb9]
                  exact pf_ok z hz
                have hnl : ¬ mj = mL_law := fun q => by subst q; exact absurd hnl (by decide)
                have hM := metOf (l := l) (D := D) (ca := ca) (ad := ad) (base := base) ih hnl (Nat.le_of_ble_eq_true hmn) hpl h8.2 hc2 hrv hA
                exact sC (d' := d') hx hb hml hown hts hK hP hS hl.1 hRf hRl hc hsl hw hq h8.1 hM (fun H1 locs1 hP1 hS1 => ih (d' + 1) mi _ lc _ _ cf hrun hL p e R s m args below meth c H0 H1 locs1 cells slots Q ls hx hb hml hown hts hK hA hRf hRl hc hsl hP1 hS1 hl k)
          · cases hrun
    · cases hrun
      exact k H locs ls hP hS hl
    · cases hrun
      exact k H locs ls hP hS hl
    · next en hn2 hn4 hn7 hn9 hcd =>
      split at hrun
      · cases hrun
      · next c2 hc2 =>
        have ih2 : ∀ (H1 : Heap) (locs1 : List Loc) (ls1 : Array Slot), va_P D vcls (wsOf ca ad c2.2.2.2) H1 → va_S (fun q : Nat => base q) H0 H1 locs1 → lv_has ls1 (cM mi) (lm ad c2.2.1) → W p l e R s m args below meth c H1 locs1 cells slots Q (F0 m c2.1 ls1 (c2.2.2.1.map (em ad))) :=
          fun H1 locs1 ls1 hP1 hS1 hl1 => ih d mi c2.1 c2.2.1 c2.2.2.1 c2.2.2.2 cf hrun hL p e R s m args below meth c H0 H1 locs1 cells slots Q ls1 hx hb hml hown hts hK hA hRf hRl hc hsl hP1 hS1 hl1 k
        have hw := (cdT_wf hL hcd).1
        unfold stp at hc2
        rw [hcd] at hc2
        split at hc2
        · next ins nx r1 r2 r3 v he =>
          cases he
          split at hc2
          · next st' hst =>
            cases hc2
            exact sA hx hb hown hts hw hst (ih2 H locs ls hP hS hl)
          · cases hc2
        · next ins nx r1 r2 r3 v he =>
          cases he
          split at hc2
          · next lc' st' hst =>
            cases hc2
            exact sL hx hb hl hw hst (fun ls' hl' => ih2 H locs ls' hP hS hl')
          · cases hc2
        · next ins nx r1 r2 r3 v he =>
          cases he
          split at hc2
          · next st' h' hst =>
            cases hc2
            exact sH hx hb hown hts hK hA hP hS hw hst (fun H1 locs1 hP1 hS1 => ih2 H1 locs1 ls hP1 hS1 hl)
          · cases hc2
        · next ins nx r1 r2 r3 v he =>
          cases he
          split at hc2
          · next h8 =>
            split at hc2
            · next st' h' hst =>
              cases hc2
              exact sPr hx hb (hml.trans hl.1.symm) hown hts hK hA hP hS (by omega) (by omega) hc hsl hw h8 hst (fun H1 locs1 hP1 hS1 => ih2 H1 locs1 ls hP1 hS1 hl)
            · cases hc2
          · cases hc2
        · next ins nx r1 r2 r3 v he =>
          cases he
          split at hc2
          · cases hc2
            exact sS hx hb hw (ih2 H locs ls hP hS hl)
          · cases hc2
        · cases hc2
end
end
section
noncomputable section
theorem run_mono1 : ∀ (n d mi pc : Nat) (lc : LC) (st : List Value) (h : AH) (c : Cf), run n d mi pc lc st h = some c → run (n + 1) d mi pc lc st h = some c
  | 0, _, _, _, _, _, _, _, hr => by cases hr
  | n + 1, d, mi, pc, lc, st, h, c, hr => by
    unfold run at hr ⊢
    split at hr
    · cases hr
    · next ins nx r1 r2 r3 v hcd =>
      try simp only [hcd]
      split at hr
      · next q hq => exact run_mono1 n _ _ _ _ _ _ _ hr
      · cases hr
    · next ins nx mj na kd v hcd =>
      try simp only [hcd]
      split at hr
      · cases hr
      · next d' =>
        split at hr
        · cases hr
        · next q hq =>
          try simp only [hq]
          split at hr
          · next h8 =>
            try rw [if_pos h8]
            split at hr
            · cases hr
            · next c2 hc2 =>
              rw [run_mono1 n _ _ _ _ _ _ _ hc2]
              simp only []
              split at hr
              · cases hr
              · next rv hrv => exact run_mono1 n _ _ _ _ _ _ _ hr
          · cases hr
    · next hcd => first | exact hr | (simp only [hcd]; exact hr)
    · next hcd => first | exact hr | (simp only [hcd]; exact hr)
    · next en hn2 hn4 hn7 hn9 hcd =>
      try simp only [hcd]
      split at hr
      · cases hr
      · next c2 hc2 =>
        try simp only [hc2]
        exact run_mono1 n _ _ _ _ _ _ _ hr
theorem run_mono {n k d mi pc : Nat} {lc : LC} {st : List Value} {h : AH} {c : Cf} (hr : run n d mi pc lc st h = some c) (hk : n ≤ k) : run k d mi pc lc st h = some c := by
  induction hk with
  | refl => exact hr
  | step _ ih => exact run_mono1 _ _ _ _ _ _ _ _ ih
/-- it comes to a return, with this answer and heap -/
def EvR (d mi pc : Nat) (lc : LC) (st : List Value) (h : AH) (v : Option Value) (h' : AH) : Prop := ∃ (n pc' : Nat) (lc' : LC) (st' : List Value), run n d mi pc lc st h = some (pc', lc', st', h') ∧ retv mi pc' st' = some v
abbrev EvM (d mj : Nat) (av : List Value) (h : AH) (v : Option Value) (h' : AH) : Prop := EvR d mj 0 (lv_args 0 av) [] h v h'
variable {d mi pc pc' nx r1 r2 r3 : Nat} {lc lc' : LC} {st st' : List Value} {h h2 h' : AH} {v : Option Value} {ins : Instr} {w : Value}
theorem er_s (hs : stp mi pc lc st h = some (pc', lc', st', h2)) (K : EvR d mi pc' lc' st' h2 v h') : EvR d mi pc lc st h v h' := by
  obtain ⟨n, pc9, lc9, st9, h1, h3⟩ := K
  refine ⟨n + 1, pc9, lc9, st9, ?_, h3⟩
  unfold run
  have hs0 := hs
  unfold stp at hs0
  split
  · next hcd => rw [hcd] at hs0; cases hs0
  · next hcd => rw [hcd] at hs0; cases hs0
  · next hcd => rw [hcd] at hs0; cases hs0
  · next hcd => rw [hcd] at hs0; cases hs0
  · next hcd => rw [hcd] at hs0; cases hs0
  · rw [hs]; exact h1
theorem er_b {P : Prop} {iP : Decidable P} (hc : cdT mi pc = some (2, ins, nx, r1, r2, r3, w)) (hs : stB ins st = some (@decide P iP, st')) (K1 : P → EvR d mi r1 lc st' h v h') (K2 : ¬ P → EvR d mi nx lc st' h v h') : EvR d mi pc lc st h v h' := by
  by_cases hP : P
  · obtain ⟨n, pc9, lc9, st9, h1, h3⟩ := K1 hP
    refine ⟨n + 1, pc9, lc9, st9, ?_, h3⟩
    unfold run
    simp only [hc, hs, hP, decide_true, if_true]
    exact h1
  · obtain ⟨n, pc9, lc9, st9, h1, h3⟩ := K2 hP
    refine ⟨n + 1, pc9, lc9, st9, ?_, h3⟩
    unfold run
    simp only [hc, hs, hP, decide_false, Bool.false_eq_true, if_false]
    exact h1
theorem er_g (hc : cdT mi pc = some (2, ins, nx, r1, r2, r3, w)) (hs : stB ins st = some (true, st')) (K1 : EvR d mi r1 lc st' h v h') : EvR d mi pc lc st h v h' := by
  obtain ⟨n, pc9, lc9, st9, h1, h3⟩ := K1
  refine ⟨n + 1, pc9, lc9, st9, ?_, h3⟩
  unfold run
  simp only [hc, hs, if_true]
  exact h1
theorem er_n (hc : cdT mi pc = some (2, ins, nx, r1, r2, r3, w)) (hs : stB ins st = some (false, st')) (K1 : EvR d mi nx lc st' h v h') : EvR d mi pc lc st h v h' := by
  obtain ⟨n, pc9, lc9, st9, h1, h3⟩ := K1
  refine ⟨n + 1, pc9, lc9, st9, ?_, h3⟩
  unfold run
  simp only [hc, hs, Bool.false_eq_true, if_false]
  exact h1
theorem er_c {mj na kd : Nat} {av rest : List Value} {rv : Option Value} (hc : cdT mi pc = some (4, ins, nx, mj, na, kd, w)) (ha : cArgs kd na mj st = some (av, rest)) (h8 : (rest.map fun v => v.category).sum ≤ 8 ∧ (av.map fun v => v.category).sum ≤ cM mj)
    (hM : EvM d mj av h rv h2) (K : EvR (d + 1) mi nx lc (rv.toList ++ rest) h2 v h') : EvR (d + 1) mi pc lc st h v h' := by
  obtain ⟨n1, pc1, lc1, st1, a1, a2⟩ := hM
  obtain ⟨n, pc9, lc9, st9, h1, h3⟩ := K
  refine ⟨max n1 n + 1, pc9, lc9, st9, ?_, h3⟩
  unfold run
  simp only [hc, ha]
  rw [if_pos h8, run_mono a1 (Nat.le_max_left _ _)]
  simp only [a2]
  exact run_mono h1 (Nat.le_max_right _ _)
theorem er_r (hr : retv mi pc st = some v) : EvR d mi pc lc st h v h := by
  refine ⟨1, pc, lc, st, ?_, hr⟩
  unfold run
  unfold retv at hr
  split at hr
  all_goals first | (next hcd => simp only [hcd]) | cases hr
/-- the heap's rows where the layout is known by a hypothesis -/
theorem er_f {k ci sv : Nat} {sl : List Nat} {i : Nat} (hc : cdT mi pc = some (3, .getfield i, nx, ci, r2, r3, w)) (hl : layAt k = (0, ci, sl)) (hs : sl[r2]? = some sv) (K : EvR d mi nx lc (fv sv (h.1 k r2) :: st) h v h') : EvR d mi pc lc (.ref k :: st) h v h' := by
  refine er_s (pc' := nx) (lc' := lc) (st' := fv sv (h.1 k r2) :: st) (h2 := h) ?_ K
  unfold stp
  simp only [hc, stH, hl, hs, if_true]
theorem er_p {k ci sv : Nat} {sl : List Nat} {i : Nat} {x : Int32} (hc : cdT mi pc = some (3, .putfield i, nx, ci, r2, r3, w)) (hl : layAt k = (0, ci, sl)) (hs : sl[r2]? = some sv) (hk : kOk sv x = true) (K : EvR d mi nx lc st (hI h k r2 x) v h') : EvR d mi pc lc (.int x :: .ref k :: st) h v h' := by
  refine er_s (pc' := nx) (lc' := lc) (st' := st) (h2 := hI h k r2 x) ?_ K
  unfold stp
  simp only [hc, stH, hl, hs, hk, if_true]
theorem er_il {k n : Nat} {sl : List Nat} {i : Int32} (hc : cdT mi pc = some (3, .iaload, nx, r1, r2, r3, w)) (hl : layAt k = (1, n, sl)) (hi : vp_in i n) (K : EvR d mi nx lc (.int (h.1 k i.toNatClampNeg) :: st) h v h') : EvR d mi pc lc (.int i :: .ref k :: st) h v h' := by
  refine er_s (pc' := nx) (lc' := lc) (st' := .int (h.1 k i.toNatClampNeg) :: st) (h2 := h) ?_ K
  unfold stp
  simp only [hc, stH, hl]
  rw [if_neg hi]
theorem er_cl {k n : Nat} {sl : List Nat} {i : Int32} (hc : cdT mi pc = some (3, .caload, nx, r1, r2, r3, w)) (hl : layAt k = (2, n, sl)) (hi : vp_in i n) (K : EvR d mi nx lc (.int (h.1 k i.toNatClampNeg) :: st) h v h') : EvR d mi pc lc (.int i :: .ref k :: st) h v h' := by
  refine er_s (pc' := nx) (lc' := lc) (st' := .int (h.1 k i.toNatClampNeg) :: st) (h2 := h) ?_ K
  unfold stp
  simp only [hc, stH, hl]
  rw [if_neg hi]
theorem er_fl {k n : Nat} {sl : List Nat} {i : Int32} (hc : cdT mi pc = some (3, .faload, nx, r1, r2, r3, w)) (hl : layAt k = (4, n, sl)) (hi : vp_in i n) (K : EvR d mi nx lc (.float (h.2.1 k i.toNatClampNeg) :: st) h v h') : EvR d mi pc lc (.int i :: .ref k :: st) h v h' := by
  refine er_s (pc' := nx) (lc' := lc) (st' := .float (h.2.1 k i.toNatClampNeg) :: st) (h2 := h) ?_ K
  unfold stp
  simp only [hc, stH, hl]
  rw [if_neg hi]
theorem er_is {k n : Nat} {sl : List Nat} {i x : Int32} (hc : cdT mi pc = some (3, .iastore, nx, r1, r2, r3, w)) (hl : layAt k = (1, n, sl)) (hi : vp_in i n) (K : EvR d mi nx lc st (hI h k i.toNatClampNeg x) v h') : EvR d mi pc lc (.int x :: .int i :: .ref k :: st) h v h' := by
  refine er_s (pc' := nx) (lc' := lc) (st' := st) (h2 := hI h k i.toNatClampNeg x) ?_ K
  unfold stp
  simp only [hc, stH, hl]
  rw [if_neg hi]
theorem er_cs {k n : Nat} {sl : List Nat} {i x : Int32} (hc : cdT mi pc = some (3, .castore, nx, r1, r2, r3, w)) (hl : layAt k = (2, n, sl)) (hi : vp_in i n) (hk : kOk 2 x = true) (K : EvR d mi nx lc st (hI h k i.toNatClampNeg x) v h') : EvR d mi pc lc (.int x :: .int i :: .ref k :: st) h v h' := by
  refine er_s (pc' := nx) (lc' := lc) (st' := st) (h2 := hI h k i.toNatClampNeg x) ?_ K
  unfold stp
  simp only [hc, stH, hl]
  rw [if_neg hi]
  simp only [hk, if_true]
theorem er_fs {k n : Nat} {sl : List Nat} {i : Int32} {x : UInt32} (hc : cdT mi pc = some (3, .fastore, nx, r1, r2, r3, w)) (hl : layAt k = (4, n, sl)) (hi : vp_in i n) (K : EvR d mi nx lc st (hF h k i.toNatClampNeg x) v h') : EvR d mi pc lc (.float x :: .int i :: .ref k :: st) h v h' := by
  refine er_s (pc' := nx) (lc' := lc) (st' := st) (h2 := hF h k i.toNatClampNeg x) ?_ K
  unfold stp
  simp only [hc, stH, hl]
  rw [if_neg hi]
/-- a float's operation that makes no NaN -/
abbrev nn (r : UInt32) : Prop := r &&& 0x7fffffff ≤ 0x7f800000
theorem er_fmul {x y : UInt32} (hc : cdT mi pc = some (0, .fmul, nx, r1, r2, r3, w)) (hn : nn (FP.fmul x y)) (K : EvR d mi nx lc (.float (FP.fmul x y) :: st) h v h') : EvR d mi pc lc (.float y :: .float x :: st) h v h' := by
  refine er_s (pc' := nx) (lc' := lc) (st' := .float (FP.fmul x y) :: st) (h2 := h) ?_ K
  unfold stp
  simp only [hc, stA]
  rw [if_pos hn]
theorem er_fadd {x y : UInt32} (hc : cdT mi pc = some (0, .fadd, nx, r1, r2, r3, w)) (hn : nn (FP.fadd x y)) (K : EvR d mi nx lc (.float (FP.fadd x y) :: st) h v h') : EvR d mi pc lc (.float y :: .float x :: st) h v h' := by
  refine er_s (pc' := nx) (lc' := lc) (st' := .float (FP.fadd x y) :: st) (h2 := h) ?_ K
  unfold stp
  simp only [hc, stA]
  rw [if_pos hn]
theorem er_fsub {x y : UInt32} (hc : cdT mi pc = some (0, .fsub, nx, r1, r2, r3, w)) (hn : nn (FP.fsub x y)) (K : EvR d mi nx lc (.float (FP.fsub x y) :: st) h v h') : EvR d mi pc lc (.float y :: .float x :: st) h v h' := by
  refine er_s (pc' := nx) (lc' := lc) (st' := .float (FP.fsub x y) :: st) (h2 := h) ?_ K
  unfold stp
  simp only [hc, stA]
  rw [if_pos hn]
theorem er_fdiv {x y : UInt32} (hc : cdT mi pc = some (0, .fdiv, nx, r1, r2, r3, w)) (hn : nn (FP.fdiv x y)) (K : EvR d mi nx lc (.float (FP.fdiv x y) :: st) h v h') : EvR d mi pc lc (.float y :: .float x :: st) h v h' := by
  refine er_s (pc' := nx) (lc' := lc) (st' := .float (FP.fdiv x y) :: st) (h2 := h) ?_ K
  unfold stp
  simp only [hc, stA]
  rw [if_pos hn]
theorem er_q {v0 : Option Value} (hr : retv mi pc st = some v0) (he : v0 = v) (hh : h = h') : EvR d mi pc lc st h v h' := he ▸ hh ▸ er_r hr
theorem er_cast {v0 : Option Value} {h0 : AH} (K : EvR d mi pc lc st h v0 h0) (hv : v0 = v) (hh : h0 = h') : EvR d mi pc lc st h v h' := hv ▸ hh ▸ K
theorem er_sw {x : Int32} {tgt : Nat} {rest : List Value} (hc : cdT mi pc = some (6, ins, nx, r1, r2, r3, w)) (ht : swt (cSw mi pc) x = tgt) (K : EvR d mi tgt lc rest h v h') : EvR d mi pc lc (.int x :: rest) h v h' := by
  refine er_s (pc' := tgt) (lc' := lc) (st' := rest) (h2 := h) ?_ K
  unfold stp
  simp only [hc, ht]
theorem er_v {b mj na ci : Nat} {sl : List Nat} {as rest : List Value} {rv : Option Value} (hc : cdT mi pc = some (4, ins, nx, mj, na, 0, w)) (hl : layAt b = (0, ci, sl)) (hk : kOf (cO mj) = ci) (hna : as.length = na) (h8 : (rest.map fun v => v.category).sum ≤ 8 ∧ ((Value.ref b :: as.reverse).map fun v => v.category).sum ≤ cM mj)
    (hM : EvM d mj (.ref b :: as.reverse) h rv h2) (K : EvR (d + 1) mi nx lc (rv.toList ++ rest) h2 v h') : EvR (d + 1) mi pc lc (as ++ .ref b :: rest) h v h' := by
  refine er_c hc ?_ h8 hM K
  unfold cArgs
  subst hna
  rw [if_pos (by simp)]
  have e1 : (as ++ Value.ref b :: rest).drop as.length = .ref b :: rest := by simp
  have e2 : (as ++ Value.ref b :: rest).take as.length = as := by simp
  simp only [e1, e2, hl]
  rw [if_pos hk.symm]
theorem er_v0 {b mj ci : Nat} {sl : List Nat} {rest : List Value} {rv : Option Value} (hc : cdT mi pc = some (4, ins, nx, mj, 0, 0, w)) (hl : layAt b = (0, ci, sl)) (hk : kOf (cO mj) = ci) (h8 : (rest.map fun v => v.category).sum ≤ 8 ∧ ([Value.ref b].map fun v => v.category).sum ≤ cM mj)
    (hM : EvM d mj [.ref b] h rv h2) (K : EvR (d + 1) mi nx lc (rv.toList ++ rest) h2 v h') : EvR (d + 1) mi pc lc (.ref b :: rest) h v h' := er_v (as := []) hc hl hk rfl h8 hM K
theorem er_v1 {b mj ci : Nat} {sl : List Nat} {rest : List Value} {rv : Option Value} {a1 : Value} (hc : cdT mi pc = some (4, ins, nx, mj, 1, 0, w)) (hl : layAt b = (0, ci, sl)) (hk : kOf (cO mj) = ci) (h8 : (rest.map fun v => v.category).sum ≤ 8 ∧ ([Value.ref b, a1].map fun v => v.category).sum ≤ cM mj)
    (hM : EvM d mj [.ref b, a1] h rv h2) (K : EvR (d + 1) mi nx lc (rv.toList ++ rest) h2 v h') : EvR (d + 1) mi pc lc (a1 :: .ref b :: rest) h v h' := er_v (as := [a1]) hc hl hk rfl h8 hM K
theorem er_v2 {b mj ci : Nat} {sl : List Nat} {rest : List Value} {rv : Option Value} {a1 a2 : Value} (hc : cdT mi pc = some (4, ins, nx, mj, 2, 0, w)) (hl : layAt b = (0, ci, sl)) (hk : kOf (cO mj) = ci) (h8 : (rest.map fun v => v.category).sum ≤ 8 ∧ ([Value.ref b, a1, a2].map fun v => v.category).sum ≤ cM mj)
    (hM : EvM d mj [.ref b, a1, a2] h rv h2) (K : EvR (d + 1) mi nx lc (rv.toList ++ rest) h2 v h') : EvR (d + 1) mi pc lc (a2 :: a1 :: .ref b :: rest) h v h' := er_v (as := [a2, a1]) hc hl hk rfl h8 hM K
theorem er_v3 {b mj ci : Nat} {sl : List Nat} {rest : List Value} {rv : Option Value} {a1 a2 a3 : Value} (hc : cdT mi pc = some (4, ins, nx, mj, 3, 0, w)) (hl : layAt b = (0, ci, sl)) (hk : kOf (cO mj) = ci) (h8 : (rest.map fun v => v.category).sum ≤ 8 ∧ ([Value.ref b, a1, a2, a3].map fun v => v.category).sum ≤ cM mj)
    (hM : EvM d mj [.ref b, a1, a2, a3] h rv h2) (K : EvR (d + 1) mi nx lc (rv.toList ++ rest) h2 v h') : EvR (d + 1) mi pc lc (a3 :: a2 :: a1 :: .ref b :: rest) h v h' := er_v (as := [a3, a2, a1]) hc hl hk rfl h8 hM K
theorem er_v4 {b mj ci : Nat} {sl : List Nat} {rest : List Value} {rv : Option Value} {a1 a2 a3 a4 : Value} (hc : cdT mi pc = some (4, ins, nx, mj, 4, 0, w)) (hl : layAt b = (0, ci, sl)) (hk : kOf (cO mj) = ci) (h8 : (rest.map fun v => v.category).sum ≤ 8 ∧ ([Value.ref b, a1, a2, a3, a4].map fun v => v.category).sum ≤ cM mj)
    (hM : EvM d mj [.ref b, a1, a2, a3, a4] h rv h2) (K : EvR (d + 1) mi nx lc (rv.toList ++ rest) h2 v h') : EvR (d + 1) mi pc lc (a4 :: a3 :: a2 :: a1 :: .ref b :: rest) h v h' := er_v (as := [a4, a3, a2, a1]) hc hl hk rfl h8 hM K
theorem er_v5 {b mj ci : Nat} {sl : List Nat} {rest : List Value} {rv : Option Value} {a1 a2 a3 a4 a5 : Value} (hc : cdT mi pc = some (4, ins, nx, mj, 5, 0, w)) (hl : layAt b = (0, ci, sl)) (hk : kOf (cO mj) = ci) (h8 : (rest.map fun v => v.category).sum ≤ 8 ∧ ([Value.ref b, a1, a2, a3, a4, a5].map fun v => v.category).sum ≤ cM mj)
    (hM : EvM d mj [.ref b, a1, a2, a3, a4, a5] h rv h2) (K : EvR (d + 1) mi nx lc (rv.toList ++ rest) h2 v h') : EvR (d + 1) mi pc lc (a5 :: a4 :: a3 :: a2 :: a1 :: .ref b :: rest) h v h' := er_v (as := [a5, a4, a3, a2, a1]) hc hl hk rfl h8 hM K
theorem ret_bK {mj pc : Nat} {x : Int32} {z : Nat × Nat × Nat × Nat × Value} (hc : cdT mj pc = some (9, .ireturn, z)) (hr : kOk (rKind (cR mj)) x = true) : retv mj pc [.int x] = some (some (.int x)) := by
  unfold retv
  rw [hc]
  simp only [hr, if_true]
/-- fewer locals known: what runs with them runs with more -/
def SubM (lc lc2 : LC) : Prop := ∀ q ∈ lc, lget lc2 q.1 = some q.2
theorem lget_mem {lc : LC} {i : Nat} {v : Value} (h : lget lc i = some v) : (i, v) ∈ lc := by
  unfold lget at h
  cases hf : lc.find? (fun q => q.1 == i) with
  | none => rw [hf] at h; cases h
  | some q =>
    rw [hf] at h
    have e1 : q.2 = v := Option.some.inj h
    have hi : q.1 = i := by simpa using List.find?_some hf
    have hm : q ∈ lc := List.mem_of_find?_eq_some hf
    rw [← e1, ← hi]
    exact hm
theorem SubM.get {lc lc2 : LC} (h : SubM lc lc2) {i : Nat} {v : Value} (hg : lget lc i = some v) : lget lc2 i = some v := h (i, v) (lget_mem hg)
theorem lget_filter {lc : LC} {i : Nat} {v : Value} {P : Nat × Value → Bool} (hg : lget lc i = some v) (hP : P (i, v) = true) : lget (lc.filter P) i = some v := by
  induction lc with
  | nil => cases hg
  | cons q t ih =>
    unfold lget at hg ih ⊢
    rw [List.find?_cons] at hg
    by_cases hq : (q.1 == i) = true
    · rw [hq] at hg
      have e1 : q.2 = v := Option.some.inj hg
      have hi : q.1 = i := by simpa using hq
      have e2 : q = (i, v) := by rw [← e1, ← hi]
      rw [List.filter_cons, e2, if_pos hP, List.find?_cons]
      simp
    · have hq2 : (q.1 == i) = false := by simpa using hq
      rw [hq2] at hg
      rw [List.filter_cons]
      split
      · rw [List.find?_cons, hq2]
        exact ih hg
      · exact ih hg
theorem SubM.set1 {lc lc2 : LC} (h : SubM lc lc2) (i : Nat) (v : Value) : SubM (lset1 lc i v) (lset1 lc2 i v) := by
  intro q hq
  unfold lset1 at hq ⊢
  rcases List.mem_cons.mp hq with e | hm
  · subst e
    simp [lget]
  · obtain ⟨h1, h2⟩ := List.mem_filter.mp hm
    have h3 : (q.1 == i) = false := by
      simp only [Bool.and_eq_true, Bool.not_eq_true'] at h2
      exact h2.1
    have h4 := lget_filter (P := fun q => !(q.1 == i) && !(q.1 + 1 == i && q.2.category == 2)) (h q h1) h2
    unfold lget at h4 ⊢
    rw [List.find?_cons]
    have h5 : (i == q.1) = false := by
      have : ¬ q.1 = i := by simpa using h3
      simpa using fun z => this z.symm
    simp only [h5]
    exact h4
theorem SubM.set2 {lc lc2 : LC} (h : SubM lc lc2) (i : Nat) (v : Value) : SubM (lset2 lc i v) (lset2 lc2 i v) := by
  intro q hq
  unfold lset2 at hq ⊢
  rcases List.mem_cons.mp hq with e | hm
  · subst e
    simp [lget]
  · obtain ⟨h1, h2⟩ := List.mem_filter.mp hm
    have h3 : (q.1 == i) = false := by
      simp only [Bool.and_eq_true, Bool.not_eq_true'] at h2
      exact h2.1
    have h4 := lget_filter (P := fun q => !(q.1 == i) && (!(q.1 == i + 1) && !(q.1 + 1 == i && q.2.category == 2))) (h q h1) h2
    unfold lget at h4 ⊢
    rw [List.find?_cons]
    have h5 : (i == q.1) = false := by
      have : ¬ q.1 = i := by simpa using h3
      simpa using fun z => this z.symm
    simp only [h5]
    exact h4
theorem stL_sub {ins : Instr} {v : Value} {lc lc2 lc' : LC} {st st' : List Value} (h : SubM lc lc2) (hs : stL ins v lc st = some (lc', st')) : ∃ lc9, stL ins v lc2 st = some (lc9, st') ∧ SubM lc' lc9 := by
  cases ins <;> simp only [stL, reduceCtorEq] at hs ⊢
  all_goals (first
    | (split at hs
       · next hg =>
         cases hs
         exact ⟨lc2, by rw [h.get hg], h⟩
       · cases hs)
    | (split at hs
       · cases hs
         exact ⟨_, rfl, h.set1 _ _⟩
       · cases hs)
    | (split at hs
       · cases hs
         exact ⟨_, rfl, h.set2 _ _⟩
       · cases hs)
    | (split at hs
       · split at hs
         · next hg =>
           cases hs
           exact ⟨_, by rw [h.get hg], h.set1 _ _⟩
         · cases hs
       · cases hs))
theorem run_sub : ∀ (n d mi pc : Nat) (lc lc2 : LC) (st : List Value) (h : AH) (c : Cf), SubM lc lc2 → run n d mi pc lc st h = some c → ∃ lc9, run n d mi pc lc2 st h = some (c.1, lc9, c.2.2)
  | 0, _, _, _, _, _, _, _, _, _, hr => by cases hr
  | n + 1, d, mi, pc, lc, lc2, st, h, c, hs, hr => by
    unfold run at hr ⊢
    split at hr
    · cases hr
    · next ins nx r1 r2 r3 v hcd =>
      try simp only [hcd]
      split at hr
      · next q hq => exact run_sub n _ _ _ _ _ _ _ _ hs hr
      · cases hr
    · next ins nx mj na kd v hcd =>
      try simp only [hcd]
      split at hr
      · cases hr
      · next d' =>
        split at hr
        · cases hr
        · next q hq =>
          split at hr
          · next h8 =>
            try rw [if_pos h8]
            split at hr
            · cases hr
            · next c2 hc2 =>
              split at hr
              · cases hr
              · next rv hrv => exact run_sub n _ _ _ _ _ _ _ _ hs hr
          · cases hr
    · next hcd =>
      cases hr
      exact ⟨lc2, rfl⟩
    · next hcd =>
      cases hr
      exact ⟨lc2, rfl⟩
    · next en hn2 hn4 hn7 hn9 hcd =>
      split at hr
      · cases hr
      · next c2 hc2 =>
        unfold stp at hc2
        rw [hcd] at hc2
        have key : ∃ lc9, stp mi pc lc2 st h = some (c2.1, lc9, c2.2.2) ∧ SubM c2.2.1 lc9 := by
          unfold stp
          rw [hcd]
          split at hc2
          · next ins nx r1 r2 r3 v he =>
            cases he
            split at hc2
            · next st' hst => cases hc2; exact ⟨lc2, by simp only [hst], hs⟩
            · cases hc2
          · next ins nx r1 r2 r3 v he =>
            cases he
            split at hc2
            · next lc' st' hst =>
              cases hc2
              obtain ⟨lc9, e1, e2⟩ := stL_sub hs hst
              exact ⟨lc9, by simp only [e1], e2⟩
            · cases hc2
          · next ins nx r1 r2 r3 v he =>
            cases he
            split at hc2
            · next st' h' hst => cases hc2; exact ⟨lc2, by simp only [hst], hs⟩
            · cases hc2
          · next ins nx r1 r2 r3 v he =>
            cases he
            split at hc2
            · next h8 =>
              split at hc2
              · next st' h' hst => cases hc2; exact ⟨lc2, by simp only [h8, hst, if_true], hs⟩
              · cases hc2
            · cases hc2
          · next ins nx r1 r2 r3 v he =>
            cases he
            split at hc2
            · cases hc2; exact ⟨lc2, rfl, hs⟩
            · cases hc2
          · cases hc2
        obtain ⟨lc9, e1, e2⟩ := key
        simp only [e1]
        exact run_sub n _ _ _ _ _ _ _ _ e2 hr
theorem er_sub (hs : SubM lc' lc) (K : EvR d mi pc lc' st h v h') : EvR d mi pc lc st h v h' := by
  obtain ⟨n, pc9, lc9, st9, h1, h3⟩ := K
  obtain ⟨lc8, h4⟩ := run_sub _ _ _ _ _ _ _ _ _ hs h1
  exact ⟨n, pc9, lc8, st9, h4, h3⟩
theorem SubM.nil {lc2 : LC} : SubM [] lc2 := fun q h => absurd h List.not_mem_nil
theorem SubM.cons {lc lc2 : LC} {i : Nat} {v : Value} (h1 : lget lc2 i = some v) (h2 : SubM lc lc2) : SubM ((i, v) :: lc) lc2 := fun q h => by
  rcases List.mem_cons.mp h with e | e
  · rw [e]; exact h1
  · exact h2 q e
theorem sub1 {lc2 : LC} {i : Nat} {v : Value} (h1 : lget lc2 i = some v) : SubM [(i, v)] lc2 := .cons h1 .nil
theorem sub2 {lc2 : LC} {i1 i2 : Nat} {v1 v2 : Value} (h1 : lget lc2 i1 = some v1) (h2 : lget lc2 i2 = some v2) : SubM [(i1, v1), (i2, v2)] lc2 := .cons h1 (sub1 h2)
theorem sub3 {lc2 : LC} {i1 i2 i3 : Nat} {v1 v2 v3 : Value} (h1 : lget lc2 i1 = some v1) (h2 : lget lc2 i2 = some v2) (h3 : lget lc2 i3 = some v3) : SubM [(i1, v1), (i2, v2), (i3, v3)] lc2 := .cons h1 (sub2 h2 h3)
theorem sub4 {lc2 : LC} {i1 i2 i3 i4 : Nat} {v1 v2 v3 v4 : Value} (h1 : lget lc2 i1 = some v1) (h2 : lget lc2 i2 = some v2) (h3 : lget lc2 i3 = some v3) (h4 : lget lc2 i4 = some v4) : SubM [(i1, v1), (i2, v2), (i3, v3), (i4, v4)] lc2 := .cons h1 (sub3 h2 h3 h4)
theorem sub5 {lc2 : LC} {i1 i2 i3 i4 i5 : Nat} {v1 v2 v3 v4 v5 : Value} (h1 : lget lc2 i1 = some v1) (h2 : lget lc2 i2 = some v2) (h3 : lget lc2 i3 = some v3) (h4 : lget lc2 i4 = some v4) (h5 : lget lc2 i5 = some v5) : SubM [(i1, v1), (i2, v2), (i3, v3), (i4, v4), (i5, v5)] lc2 := .cons h1 (sub4 h2 h3 h4 h5)
theorem sub6 {lc2 : LC} {i1 i2 i3 i4 i5 i6 : Nat} {v1 v2 v3 v4 v5 v6 : Value} (h1 : lget lc2 i1 = some v1) (h2 : lget lc2 i2 = some v2) (h3 : lget lc2 i3 = some v3) (h4 : lget lc2 i4 = some v4) (h5 : lget lc2 i5 = some v5) (h6 : lget lc2 i6 = some v6) : SubM [(i1, v1), (i2, v2), (i3, v3), (i4, v4), (i5, v5), (i6, v6)] lc2 := .cons h1 (sub5 h2 h3 h4 h5 h6)
theorem sub7 {lc2 : LC} {i1 i2 i3 i4 i5 i6 i7 : Nat} {v1 v2 v3 v4 v5 v6 v7 : Value} (h1 : lget lc2 i1 = some v1) (h2 : lget lc2 i2 = some v2) (h3 : lget lc2 i3 = some v3) (h4 : lget lc2 i4 = some v4) (h5 : lget lc2 i5 = some v5) (h6 : lget lc2 i6 = some v6) (h7 : lget lc2 i7 = some v7) : SubM [(i1, v1), (i2, v2), (i3, v3), (i4, v4), (i5, v5), (i6, v6), (i7, v7)] lc2 := .cons h1 (sub6 h2 h3 h4 h5 h6 h7)
end
end
section
-- needs: 08
noncomputable section
/-- it comes to a return with an answer and a heap of which P holds -/
def WX (d mi pc : Nat) (lc : LC) (st : List Value) (h : AH) (P : Option Value → AH → Prop) : Prop := ∃ (v : Option Value) (h' : AH), EvR d mi pc lc st h v h' ∧ P v h'
abbrev WM (d mj : Nat) (av : List Value) (h : AH) (P : Option Value → AH → Prop) : Prop := WX d mj 0 (lv_args 0 av) [] h P
variable {d mi pc pc' nx r1 r2 r3 : Nat} {lc lc' : LC} {st st' : List Value} {h h2 h' : AH} {v : Option Value} {ins : Instr} {w : Value} {P : Option Value → AH → Prop}
theorem ex_s (hs : stp mi pc lc st h = some (pc', lc', st', h2)) (K : WX d mi pc' lc' st' h2 P) : WX d mi pc lc st h P := by
  obtain ⟨v0, h0, k0, p0⟩ := K
  exact ⟨v0, h0, er_s hs k0, p0⟩
theorem ex_g (hc : cdT mi pc = some (2, ins, nx, r1, r2, r3, w)) (hs : stB ins st = some (true, st')) (K1 : WX d mi r1 lc st' h P) : WX d mi pc lc st h P := by
  obtain ⟨v0, h0, k0, p0⟩ := K1
  exact ⟨v0, h0, er_g hc hs k0, p0⟩
theorem ex_n (hc : cdT mi pc = some (2, ins, nx, r1, r2, r3, w)) (hs : stB ins st = some (false, st')) (K1 : WX d mi nx lc st' h P) : WX d mi pc lc st h P := by
  obtain ⟨v0, h0, k0, p0⟩ := K1
  exact ⟨v0, h0, er_n hc hs k0, p0⟩
theorem ex_c {mj na kd : Nat} {av rest : List Value} {rv : Option Value} (hc : cdT mi pc = some (4, ins, nx, mj, na, kd, w)) (ha : cArgs kd na mj st = some (av, rest)) (h8 : (rest.map fun v => v.category).sum ≤ 8 ∧ (av.map fun v => v.category).sum ≤ cM mj)     (hM : EvM d mj av h rv h2) (K : WX (d + 1) mi nx lc (rv.toList ++ rest) h2 P) : WX (d + 1) mi pc lc st h P := by
  obtain ⟨v0, h0, k0, p0⟩ := K
  exact ⟨v0, h0, er_c hc ha h8 hM k0, p0⟩
theorem ex_f {k ci sv : Nat} {sl : List Nat} {i : Nat} (hc : cdT mi pc = some (3, .getfield i, nx, ci, r2, r3, w)) (hl : layAt k = (0, ci, sl)) (hs : sl[r2]? = some sv) (K : WX d mi nx lc (fv sv (h.1 k r2) :: st) h P) : WX d mi pc lc (.ref k :: st) h P := by
  obtain ⟨v0, h0, k0, p0⟩ := K
  exact ⟨v0, h0, er_f hc hl hs k0, p0⟩
theorem ex_p {k ci sv : Nat} {sl : List Nat} {i : Nat} {x : Int32} (hc : cdT mi pc = some (3, .putfield i, nx, ci, r2, r3, w)) (hl : layAt k = (0, ci, sl)) (hs : sl[r2]? = some sv) (hk : kOk sv x = true) (K : WX d mi nx lc st (hI h k r2 x) P) : WX d mi pc lc (.int x :: .ref k :: st) h P := by
  obtain ⟨v0, h0, k0, p0⟩ := K
  exact ⟨v0, h0, er_p hc hl hs hk k0, p0⟩
theorem ex_il {k n : Nat} {sl : List Nat} {i : Int32} (hc : cdT mi pc = some (3, .iaload, nx, r1, r2, r3, w)) (hl : layAt k = (1, n, sl)) (hi : vp_in i n) (K : WX d mi nx lc (.int (h.1 k i.toNatClampNeg) :: st) h P) : WX d mi pc lc (.int i :: .ref k :: st) h P := by
  obtain ⟨v0, h0, k0, p0⟩ := K
  exact ⟨v0, h0, er_il hc hl hi k0, p0⟩
theorem ex_cl {k n : Nat} {sl : List Nat} {i : Int32} (hc : cdT mi pc = some (3, .caload, nx, r1, r2, r3, w)) (hl : layAt k = (2, n, sl)) (hi : vp_in i n) (K : WX d mi nx lc (.int (h.1 k i.toNatClampNeg) :: st) h P) : WX d mi pc lc (.int i :: .ref k :: st) h P := by
  obtain ⟨v0, h0, k0, p0⟩ := K
  exact ⟨v0, h0, er_cl hc hl hi k0, p0⟩
theorem ex_fl {k n : Nat} {sl : List Nat} {i : Int32} (hc : cdT mi pc = some (3, .faload, nx, r1, r2, r3, w)) (hl : layAt k = (4, n, sl)) (hi : vp_in i n) (K : WX d mi nx lc (.float (h.2.1 k i.toNatClampNeg) :: st) h P) : WX d mi pc lc (.int i :: .ref k :: st) h P := by
  obtain ⟨v0, h0, k0, p0⟩ := K
  exact ⟨v0, h0, er_fl hc hl hi k0, p0⟩
theorem ex_is {k n : Nat} {sl : List Nat} {i x : Int32} (hc : cdT mi pc = some (3, .iastore, nx, r1, r2, r3, w)) (hl : layAt k = (1, n, sl)) (hi : vp_in i n) (K : WX d mi nx lc st (hI h k i.toNatClampNeg x) P) : WX d mi pc lc (.int x :: .int i :: .ref k :: st) h P := by
  obtain ⟨v0, h0, k0, p0⟩ := K
  exact ⟨v0, h0, er_is hc hl hi k0, p0⟩
theorem ex_cs {k n : Nat} {sl : List Nat} {i x : Int32} (hc : cdT mi pc = some (3, .castore, nx, r1, r2, r3, w)) (hl : layAt k = (2, n, sl)) (hi : vp_in i n) (hk : kOk 2 x = true) (K : WX d mi nx lc st (hI h k i.toNatClampNeg x) P) : WX d mi pc lc (.int x :: .int i :: .ref k :: st) h P := by
  obtain ⟨v0, h0, k0, p0⟩ := K
  exact ⟨v0, h0, er_cs hc hl hi hk k0, p0⟩
theorem ex_fs {k n : Nat} {sl : List Nat} {i : Int32} {x : UInt32} (hc : cdT mi pc = some (3, .fastore, nx, r1, r2, r3, w)) (hl : layAt k = (4, n, sl)) (hi : vp_in i n) (K : WX d mi nx lc st (hF h k i.toNatClampNeg x) P) : WX d mi pc lc (.float x :: .int i :: .ref k :: st) h P := by
  obtain ⟨v0, h0, k0, p0⟩ := K
  exact ⟨v0, h0, er_fs hc hl hi k0, p0⟩
theorem ex_fmul {x y : UInt32} (hc : cdT mi pc = some (0, .fmul, nx, r1, r2, r3, w)) (hn : nn (FP.fmul x y)) (K : WX d mi nx lc (.float (FP.fmul x y) :: st) h P) : WX d mi pc lc (.float y :: .float x :: st) h P := by
  obtain ⟨v0, h0, k0, p0⟩ := K
  exact ⟨v0, h0, er_fmul hc hn k0, p0⟩
theorem ex_fadd {x y : UInt32} (hc : cdT mi pc = some (0, .fadd, nx, r1, r2, r3, w)) (hn : nn (FP.fadd x y)) (K : WX d mi nx lc (.float (FP.fadd x y) :: st) h P) : WX d mi pc lc (.float y :: .float x :: st) h P := by
  obtain ⟨v0, h0, k0, p0⟩ := K
  exact ⟨v0, h0, er_fadd hc hn k0, p0⟩
theorem ex_fsub {x y : UInt32} (hc : cdT mi pc = some (0, .fsub, nx, r1, r2, r3, w)) (hn : nn (FP.fsub x y)) (K : WX d mi nx lc (.float (FP.fsub x y) :: st) h P) : WX d mi pc lc (.float y :: .float x :: st) h P := by
  obtain ⟨v0, h0, k0, p0⟩ := K
  exact ⟨v0, h0, er_fsub hc hn k0, p0⟩
theorem ex_fdiv {x y : UInt32} (hc : cdT mi pc = some (0, .fdiv, nx, r1, r2, r3, w)) (hn : nn (FP.fdiv x y)) (K : WX d mi nx lc (.float (FP.fdiv x y) :: st) h P) : WX d mi pc lc (.float y :: .float x :: st) h P := by
  obtain ⟨v0, h0, k0, p0⟩ := K
  exact ⟨v0, h0, er_fdiv hc hn k0, p0⟩
theorem ex_sw {x : Int32} {tgt : Nat} {rest : List Value} (hc : cdT mi pc = some (6, ins, nx, r1, r2, r3, w)) (ht : swt (cSw mi pc) x = tgt) (K : WX d mi tgt lc rest h P) : WX d mi pc lc (.int x :: rest) h P := by
  obtain ⟨v0, h0, k0, p0⟩ := K
  exact ⟨v0, h0, er_sw hc ht k0, p0⟩
theorem ex_v {b mj na ci : Nat} {sl : List Nat} {as rest : List Value} {rv : Option Value} (hc : cdT mi pc = some (4, ins, nx, mj, na, 0, w)) (hl : layAt b = (0, ci, sl)) (hk : kOf (cO mj) = ci) (hna : as.length = na) (h8 : (rest.map fun v => v.category).sum ≤ 8 ∧ ((Value.ref b :: as.reverse).map fun v => v.category).sum ≤ cM mj)     (hM : EvM d mj (.ref b :: as.reverse) h rv h2) (K : WX (d + 1) mi nx lc (rv.toList ++ rest) h2 P) : WX (d + 1) mi pc lc (as ++ .ref b :: rest) h P := by
  obtain ⟨v0, h0, k0, p0⟩ := K
  exact ⟨v0, h0, er_v hc hl hk hna h8 hM k0, p0⟩
theorem ex_v0 {b mj ci : Nat} {sl : List Nat} {rest : List Value} {rv : Option Value} (hc : cdT mi pc = some (4, ins, nx, mj, 0, 0, w)) (hl : layAt b = (0, ci, sl)) (hk : kOf (cO mj) = ci) (h8 : (rest.map fun v => v.category).sum ≤ 8 ∧ ([Value.ref b].map fun v => v.category).sum ≤ cM mj)     (hM : EvM d mj [.ref b] h rv h2) (K : WX (d + 1) mi nx lc (rv.toList ++ rest) h2 P) : WX (d + 1) mi pc lc (.ref b :: rest) h P := by
  obtain ⟨v0, h0, k0, p0⟩ := K
  exact ⟨v0, h0, er_v0 hc hl hk h8 hM k0, p0⟩
theorem ex_v1 {b mj ci : Nat} {sl : List Nat} {rest : List Value} {rv : Option Value} {a1 : Value} (hc : cdT mi pc = some (4, ins, nx, mj, 1, 0, w)) (hl : layAt b = (0, ci, sl)) (hk : kOf (cO mj) = ci) (h8 : (rest.map fun v => v.category).sum ≤ 8 ∧ ([Value.ref b, a1].map fun v => v.category).sum ≤ cM mj)     (hM : EvM d mj [.ref b, a1] h rv h2) (K : WX (d + 1) mi nx lc (rv.toList ++ rest) h2 P) : WX (d + 1) mi pc lc (a1 :: .ref b :: rest) h P := by
  obtain ⟨v0, h0, k0, p0⟩ := K
  exact ⟨v0, h0, er_v1 hc hl hk h8 hM k0, p0⟩
theorem ex_v2 {b mj ci : Nat} {sl : List Nat} {rest : List Value} {rv : Option Value} {a1 a2 : Value} (hc : cdT mi pc = some (4, ins, nx, mj, 2, 0, w)) (hl : layAt b = (0, ci, sl)) (hk : kOf (cO mj) = ci) (h8 : (rest.map fun v => v.category).sum ≤ 8 ∧ ([Value.ref b, a1, a2].map fun v => v.category).sum ≤ cM mj)     (hM : EvM d mj [.ref b, a1, a2] h rv h2) (K : WX (d + 1) mi nx lc (rv.toList ++ rest) h2 P) : WX (d + 1) mi pc lc (a2 :: a1 :: .ref b :: rest) h P := by
  obtain ⟨v0, h0, k0, p0⟩ := K
  exact ⟨v0, h0, er_v2 hc hl hk h8 hM k0, p0⟩
theorem ex_v3 {b mj ci : Nat} {sl : List Nat} {rest : List Value} {rv : Option Value} {a1 a2 a3 : Value} (hc : cdT mi pc = some (4, ins, nx, mj, 3, 0, w)) (hl : layAt b = (0, ci, sl)) (hk : kOf (cO mj) = ci) (h8 : (rest.map fun v => v.category).sum ≤ 8 ∧ ([Value.ref b, a1, a2, a3].map fun v => v.category).sum ≤ cM mj)     (hM : EvM d mj [.ref b, a1, a2, a3] h rv h2) (K : WX (d + 1) mi nx lc (rv.toList ++ rest) h2 P) : WX (d + 1) mi pc lc (a3 :: a2 :: a1 :: .ref b :: rest) h P := by
  obtain ⟨v0, h0, k0, p0⟩ := K
  exact ⟨v0, h0, er_v3 hc hl hk h8 hM k0, p0⟩
theorem ex_v4 {b mj ci : Nat} {sl : List Nat} {rest : List Value} {rv : Option Value} {a1 a2 a3 a4 : Value} (hc : cdT mi pc = some (4, ins, nx, mj, 4, 0, w)) (hl : layAt b = (0, ci, sl)) (hk : kOf (cO mj) = ci) (h8 : (rest.map fun v => v.category).sum ≤ 8 ∧ ([Value.ref b, a1, a2, a3, a4].map fun v => v.category).sum ≤ cM mj)     (hM : EvM d mj [.ref b, a1, a2, a3, a4] h rv h2) (K : WX (d + 1) mi nx lc (rv.toList ++ rest) h2 P) : WX (d + 1) mi pc lc (a4 :: a3 :: a2 :: a1 :: .ref b :: rest) h P := by
  obtain ⟨v0, h0, k0, p0⟩ := K
  exact ⟨v0, h0, er_v4 hc hl hk h8 hM k0, p0⟩
theorem ex_v5 {b mj ci : Nat} {sl : List Nat} {rest : List Value} {rv : Option Value} {a1 a2 a3 a4 a5 : Value} (hc : cdT mi pc = some (4, ins, nx, mj, 5, 0, w)) (hl : layAt b = (0, ci, sl)) (hk : kOf (cO mj) = ci) (h8 : (rest.map fun v => v.category).sum ≤ 8 ∧ ([Value.ref b, a1, a2, a3, a4, a5].map fun v => v.category).sum ≤ cM mj)     (hM : EvM d mj [.ref b, a1, a2, a3, a4, a5] h rv h2) (K : WX (d + 1) mi nx lc (rv.toList ++ rest) h2 P) : WX (d + 1) mi pc lc (a5 :: a4 :: a3 :: a2 :: a1 :: .ref b :: rest) h P := by
  obtain ⟨v0, h0, k0, p0⟩ := K
  exact ⟨v0, h0, er_v5 hc hl hk h8 hM k0, p0⟩
theorem ex_sub (hs : SubM lc' lc) (K : WX d mi pc lc' st h P) : WX d mi pc lc st h P := by
  obtain ⟨v0, h0, k0, p0⟩ := K
  exact ⟨v0, h0, er_sub hs k0, p0⟩
theorem ex_b {P1 : Prop} {iP : Decidable P1} (hc : cdT mi pc = some (2, ins, nx, r1, r2, r3, w)) (hs : stB ins st = some (@decide P1 iP, st')) (K1 : P1 → WX d mi r1 lc st' h P) (K2 : ¬ P1 → WX d mi nx lc st' h P) : WX d mi pc lc st h P := by
  by_cases hP : P1
  · obtain ⟨v0, h0, k0, p0⟩ := K1 hP
    exact ⟨v0, h0, er_b hc hs (fun _ => k0) (fun q => absurd hP q), p0⟩
  · obtain ⟨v0, h0, k0, p0⟩ := K2 hP
    exact ⟨v0, h0, er_b hc hs (fun q => absurd q hP) (fun _ => k0), p0⟩
theorem ex_q {v0 : Option Value} (hr : retv mi pc st = some v0) (hp : P v0 h) : WX d mi pc lc st h P := ⟨v0, h, er_r hr, hp⟩
theorem ex_w (K : WX d mi pc lc st h (fun v0 h0 => P v0 h0)) : WX d mi pc lc st h P := K
theorem WX.mono {P9 : Option Value → AH → Prop} (K : WX d mi pc lc st h P9) (hP : ∀ v0 h0, P9 v0 h0 → P v0 h0) : WX d mi pc lc st h P := by
  obtain ⟨v0, h0, k0, p0⟩ := K
  exact ⟨v0, h0, k0, hP _ _ p0⟩
theorem ex_of (K : EvR d mi pc lc st h v h') (hp : P v h') : WX d mi pc lc st h P := ⟨v, h', K, hp⟩
/-- an exact row out of one over a post -/
theorem WX.ev (K : WX d mi pc lc st h (fun v0 h0 => v0 = v ∧ h0 = h')) : EvR d mi pc lc st h v h' := by
  obtain ⟨v0, h0, k0, rfl, rfl⟩ := K
  exact k0

theorem ex_x0 {b mj ci : Nat} {sl : List Nat} {rest : List Value} {P9 : Option Value → AH → Prop} (hc : cdT mi pc = some (4, ins, nx, mj, 0, 0, w)) (hl : layAt b = (0, ci, sl)) (hk : kOf (cO mj) = ci) (h8 : (rest.map fun v => v.category).sum ≤ 8 ∧ ([Value.ref b].map fun v => v.category).sum ≤ cM mj)
    (hM : WM d mj [Value.ref b] h P9) (K : ∀ rv h2, P9 rv h2 → WX (d + 1) mi nx lc (rv.toList ++ rest) h2 P) : WX (d + 1) mi pc lc (.ref b :: rest) h P := by
  obtain ⟨v1, h1, k1, p1⟩ := hM
  exact ex_v0 hc hl hk h8 k1 (K _ _ p1)
theorem ex_x1 {b mj ci : Nat} {sl : List Nat} {rest : List Value} {a1 : Value} {P9 : Option Value → AH → Prop} (hc : cdT mi pc = some (4, ins, nx, mj, 1, 0, w)) (hl : layAt b = (0, ci, sl)) (hk : kOf (cO mj) = ci) (h8 : (rest.map fun v => v.category).sum ≤ 8 ∧ ([Value.ref b, a1].map fun v => v.category).sum ≤ cM mj)
    (hM : WM d mj [Value.ref b, a1] h P9) (K : ∀ rv h2, P9 rv h2 → WX (d + 1) mi nx lc (rv.toList ++ rest) h2 P) : WX (d + 1) mi pc lc (a1 :: .ref b :: rest) h P := by
  obtain ⟨v1, h1, k1, p1⟩ := hM
  exact ex_v1 hc hl hk h8 k1 (K _ _ p1)
theorem ex_x2 {b mj ci : Nat} {sl : List Nat} {rest : List Value} {a1 a2 : Value} {P9 : Option Value → AH → Prop} (hc : cdT mi pc = some (4, ins, nx, mj, 2, 0, w)) (hl : layAt b = (0, ci, sl)) (hk : kOf (cO mj) = ci) (h8 : (rest.map fun v => v.category).sum ≤ 8 ∧ ([Value.ref b, a1, a2].map fun v => v.category).sum ≤ cM mj)
    (hM : WM d mj [Value.ref b, a1, a2] h P9) (K : ∀ rv h2, P9 rv h2 → WX (d + 1) mi nx lc (rv.toList ++ rest) h2 P) : WX (d + 1) mi pc lc (a2 :: a1 :: .ref b :: rest) h P := by
  obtain ⟨v1, h1, k1, p1⟩ := hM
  exact ex_v2 hc hl hk h8 k1 (K _ _ p1)
theorem ex_x3 {b mj ci : Nat} {sl : List Nat} {rest : List Value} {a1 a2 a3 : Value} {P9 : Option Value → AH → Prop} (hc : cdT mi pc = some (4, ins, nx, mj, 3, 0, w)) (hl : layAt b = (0, ci, sl)) (hk : kOf (cO mj) = ci) (h8 : (rest.map fun v => v.category).sum ≤ 8 ∧ ([Value.ref b, a1, a2, a3].map fun v => v.category).sum ≤ cM mj)
    (hM : WM d mj [Value.ref b, a1, a2, a3] h P9) (K : ∀ rv h2, P9 rv h2 → WX (d + 1) mi nx lc (rv.toList ++ rest) h2 P) : WX (d + 1) mi pc lc (a3 :: a2 :: a1 :: .ref b :: rest) h P := by
  obtain ⟨v1, h1, k1, p1⟩ := hM
  exact ex_v3 hc hl hk h8 k1 (K _ _ p1)
theorem ex_x4 {b mj ci : Nat} {sl : List Nat} {rest : List Value} {a1 a2 a3 a4 : Value} {P9 : Option Value → AH → Prop} (hc : cdT mi pc = some (4, ins, nx, mj, 4, 0, w)) (hl : layAt b = (0, ci, sl)) (hk : kOf (cO mj) = ci) (h8 : (rest.map fun v => v.category).sum ≤ 8 ∧ ([Value.ref b, a1, a2, a3, a4].map fun v => v.category).sum ≤ cM mj)
    (hM : WM d mj [Value.ref b, a1, a2, a3, a4] h P9) (K : ∀ rv h2, P9 rv h2 → WX (d + 1) mi nx lc (rv.toList ++ rest) h2 P) : WX (d + 1) mi pc lc (a4 :: a3 :: a2 :: a1 :: .ref b :: rest) h P := by
  obtain ⟨v1, h1, k1, p1⟩ := hM
  exact ex_v4 hc hl hk h8 k1 (K _ _ p1)
theorem ex_x5 {b mj ci : Nat} {sl : List Nat} {rest : List Value} {a1 a2 a3 a4 a5 : Value} {P9 : Option Value → AH → Prop} (hc : cdT mi pc = some (4, ins, nx, mj, 5, 0, w)) (hl : layAt b = (0, ci, sl)) (hk : kOf (cO mj) = ci) (h8 : (rest.map fun v => v.category).sum ≤ 8 ∧ ([Value.ref b, a1, a2, a3, a4, a5].map fun v => v.category).sum ≤ cM mj)
    (hM : WM d mj [Value.ref b, a1, a2, a3, a4, a5] h P9) (K : ∀ rv h2, P9 rv h2 → WX (d + 1) mi nx lc (rv.toList ++ rest) h2 P) : WX (d + 1) mi pc lc (a5 :: a4 :: a3 :: a2 :: a1 :: .ref b :: rest) h P := by
  obtain ⟨v1, h1, k1, p1⟩ := hM
  exact ex_v5 hc hl hk h8 k1 (K _ _ p1)
theorem ex_xc {mj na kd : Nat} {av rest : List Value} {P9 : Option Value → AH → Prop} (hc : cdT mi pc = some (4, ins, nx, mj, na, kd, w)) (ha : cArgs kd na mj st = some (av, rest)) (h8 : (rest.map fun v => v.category).sum ≤ 8 ∧ (av.map fun v => v.category).sum ≤ cM mj)
    (hM : WM d mj av h P9) (K : ∀ rv h2, P9 rv h2 → WX (d + 1) mi nx lc (rv.toList ++ rest) h2 P) : WX (d + 1) mi pc lc st h P := by
  obtain ⟨v1, h1, k1, p1⟩ := hM
  exact ex_c hc ha h8 k1 (K _ _ p1)

end
end
section
noncomputable section
theorem zz_q : FP.fneg_xor = FP.fneg_xor := rfl
end
end
section
-- needs: 91
noncomputable section
def exP0 : List (Nat × Nat) := [(2, 148), (1, 13), (1, 10), (2, 170), (2, 179), (2, 187), (2, 190), (2, 192), (2, 171), (2, 172), (1, 38), (1, 39), (2, 173), (2, 178), (2, 188), (2, 205), (2, 160), (2, 206), (2, 162), (2, 207), (2, 164), (2, 174), (2, 176), (2, 166), (2, 194), (2, 195), (2, 196), (2, 197), (2, 197), (2, 198), (2, 199), (2, 200), (2, 200), (2, 201), (2, 202), (2, 171), (2, 193), (2, 149), (2, 157), (2, 158), (2, 159), (2, 161), (2, 163), (2, 165), (2, 169), (2, 168), (2, 167)]
def exP1 : List (Nat × Nat) := [(2, 216), (1, 16), (1, 10), (2, 170), (2, 179), (2, 187), (2, 190), (2, 192), (2, 171), (2, 172), (1, 38), (1, 39), (2, 173), (2, 178), (2, 188), (2, 205), (2, 160), (2, 206), (2, 162), (2, 207), (2, 164), (2, 174), (2, 176), (2, 166), (2, 226), (2, 227), (2, 228), (2, 197), (2, 197), (2, 198), (2, 199), (2, 200), (2, 200), (2, 201), (2, 202), (2, 171), (2, 225), (2, 217), (2, 219), (2, 183), (2, 220), (2, 221), (2, 222), (2, 223), (2, 169), (2, 168), (2, 224)]
def exP2 : List (Nat × Nat) := [(2, 231), (1, 17), (1, 10), (2, 170), (2, 179), (2, 187), (2, 190), (2, 192), (2, 171), (2, 172), (1, 38), (1, 39), (2, 173), (2, 178), (2, 188), (2, 205), (2, 160), (2, 206), (2, 162), (2, 207), (2, 164), (2, 174), (2, 176), (2, 166), (3, 1), (3, 2), (3, 3), (2, 197), (2, 197), (2, 198), (2, 199), (2, 200), (2, 200), (2, 201), (2, 202), (2, 171), (3, 0), (2, 232), (2, 234), (2, 185), (2, 235), (2, 236), (2, 237), (2, 238), (2, 169), (2, 168), (2, 239)]
def exP3 : List (Nat × Nat) := [(5, 148), (1, 27), (1, 10), (2, 170), (2, 179), (2, 187), (2, 190), (2, 192), (2, 171), (2, 172), (1, 38), (1, 39), (2, 173), (2, 178), (2, 188), (2, 205), (2, 160), (2, 206), (2, 162), (2, 207), (2, 164), (2, 174), (2, 176), (2, 166), (5, 158), (5, 159), (5, 160), (2, 197), (2, 197), (2, 198), (2, 199), (2, 200), (2, 200), (2, 201), (2, 202), (2, 171), (5, 157), (5, 149), (5, 151), (2, 186), (5, 152), (5, 153), (5, 154), (5, 155), (2, 169), (2, 168), (5, 156)]
def exP4 : List (Nat × Nat) := [(4, 70), (1, 24), (1, 10), (2, 170), (2, 179), (2, 187), (2, 190), (2, 192), (2, 171), (2, 172), (1, 38), (1, 39), (2, 173), (2, 178), (2, 188), (2, 205), (2, 160), (2, 206), (2, 162), (2, 207), (2, 164), (2, 174), (2, 176), (2, 166), (4, 80), (4, 81), (4, 82), (2, 197), (2, 197), (2, 198), (2, 199), (2, 200), (2, 200), (2, 201), (2, 202), (2, 171), (4, 79), (4, 71), (4, 73), (2, 184), (4, 74), (4, 75), (4, 76), (4, 77), (2, 169), (2, 168), (4, 78)]
def exP5 : List (Nat × Nat) := [(5, 222), (1, 30), (1, 10), (2, 170), (2, 179), (2, 187), (2, 190), (2, 192), (2, 171), (2, 172), (1, 38), (1, 39), (2, 173), (2, 178), (2, 188), (2, 205), (2, 160), (2, 206), (2, 162), (2, 207), (2, 164), (2, 174), (2, 176), (2, 166), (5, 224), (5, 225), (5, 226), (2, 197), (2, 197), (2, 198), (2, 199), (2, 200), (2, 200), (2, 201), (2, 202), (2, 171), (5, 223), (5, 203), (5, 215), (2, 181), (5, 209), (5, 210), (5, 212), (5, 208), (2, 169), (2, 168), (5, 207)]
def exN (en : Nat) : String := match en with | 0 => "java/lang/IndexOutOfBoundsException" | 1 => "java/lang/IllegalArgumentException" | 2 => "java/lang/UnsupportedOperationException" | 3 => "java/util/NoSuchElementException" | 4 => "java/lang/IllegalStateException" | _ => "java/lang/ArithmeticException"
def exK (en : Nat) : Nat := match en with | 0 => 129 | 1 => 82 | 2 => 221 | 3 => 93 | 4 => 187 | _ => 250
def exI (en : Nat) : Nat := match en with | 0 => 131 | 1 => 84 | 2 => 223 | 3 => 95 | 4 => 189 | _ => 252
def exP (en : Nat) : List (Nat × Nat) := match en with | 0 => exP0 | 1 => exP1 | 2 => exP2 | 3 => exP3 | 4 => exP4 | _ => exP5
def exC (en : Nat) : Nat × Nat := match en with | 0 => (2, 150) | 1 => (2, 218) | 2 => (2, 233) | 3 => (5, 150) | 4 => (4, 72) | _ => (5, 214)
def exD : List (Nat × Nat) := [(2, 151), (2, 153), (2, 155)]
def exNm : List String := ["java/lang/RuntimeException", "java/lang/Exception"]
theorem tb_list {ws : List Cond} (ps : List (Nat × Nat)) (hp : ws = ps.filterMap (fun q => (tb q.1)[q.2]?)) : ∀ w ∈ ws, w ∈ lw_tbl := by
  intro w hw
  rw [hp] at hw
  obtain ⟨q, -, hq⟩ := List.mem_filterMap.mp hw
  exact tb_in q.1 q.2 hq
def exW (en : Nat) : List Cond := Cond.classLink RX10 (exK en) (exN en) :: Cond.initialized (exN en) :: (vx_at0 RX10 (exI en) (exN en) exNm).filter goodWord
def exB (en : Nat) : List Cond := [Cond.declares (Bundle.init0 "java/lang/RuntimeException"), Cond.declares (Bundle.init0 "java/lang/Exception"), Cond.declares (Bundle.init0 "java/lang/Throwable"), Cond.castable (exN en) (exN en)]
set_option maxRecDepth 100000 in
theorem exW_0 : exW 0 = (exP 0).filterMap (fun q => (tb q.1)[q.2]?) := by decide +kernel
set_option maxRecDepth 100000 in
theorem exW_1 : exW 1 = (exP 1).filterMap (fun q => (tb q.1)[q.2]?) := by decide +kernel
set_option maxRecDepth 100000 in
theorem exW_2 : exW 2 = (exP 2).filterMap (fun q => (tb q.1)[q.2]?) := by decide +kernel
set_option maxRecDepth 100000 in
theorem exW_3 : exW 3 = (exP 3).filterMap (fun q => (tb q.1)[q.2]?) := by decide +kernel
set_option maxRecDepth 100000 in
theorem exW_4 : exW 4 = (exP 4).filterMap (fun q => (tb q.1)[q.2]?) := by decide +kernel
set_option maxRecDepth 100000 in
theorem exW_5 : exW 5 = (exP 5).filterMap (fun q => (tb q.1)[q.2]?) := by decide +kernel
set_option maxRecDepth 100000 in
theorem exG : ∀ en, en < 6 → (exW en).all goodWord = true ∧ ((vx_at0 RX10 (exI en) (exN en) exNm).filter (fun w => !goodWord w)).all (fun w => decide (w ∈ exB en)) = true ∧ (vx_at0 RX10 (exI en) (exN en) exNm).all vx_ot = true ∧ Bundle.fit (exN en) = true := by decide +kernel
theorem exNm_fit : ∀ n ∈ exNm, Bundle.fit n = true := by decide +kernel
theorem exW_tbl : ∀ en, en < 6 → ∀ w ∈ exW en, w ∈ lw_tbl := by
  intro en h
  match en, h with
  | 0, _ => exact tb_list _ exW_0
  | 1, _ => exact tb_list _ exW_1
  | 2, _ => exact tb_list _ exW_2
  | 3, _ => exact tb_list _ exW_3
  | 4, _ => exact tb_list _ exW_4
  | 5, _ => exact tb_list _ exW_5
  | n + 6, h => exact absurd h (by omega)
theorem exW_all {en : Nat} (h : en < 6) : ∀ w ∈ exW en, w ∈ wAll := fun w hw => wA (exW_tbl en h w hw) (List.all_eq_true.mp (exG en h).1 w hw)
set_option maxRecDepth 100000 in
theorem exC_ok : ∀ en, en < 6 → (tb (exC en).1)[(exC en).2]? = some (Cond.castable (exN en) (exN en)) := by decide +kernel
set_option maxRecDepth 100000 in
theorem exD_ok : (tb 2)[151]? = some (Cond.declares (Bundle.init0 "java/lang/RuntimeException")) ∧ (tb 2)[153]? = some (Cond.declares (Bundle.init0 "java/lang/Exception")) ∧ (tb 2)[155]? = some (Cond.declares (Bundle.init0 "java/lang/Throwable")) := by decide +kernel
/-- what a throw reads of the machine beside the words that stay -/
def ZT (base : Nat → Prop) (U : State) : Prop := vx_Zq Bundle.tN "UNASSIGNED_STACK" Bundle.steD (fun q : Nat => base q) U U.heap ∧ vx_Zq Bundle.tN "SUPPRESSED_SENTINEL" Bundle.listD (fun q : Nat => base q) U U.heap ∧ (∀ en, en < 6 → ∀ w ∈ exB en, va_Nw w U) ∧ ∀ en ek, en < 6 → ek < 6 → en ≠ ek → va_Nc (exN en) (exN ek) U
theorem va_NwD {x : MethodName} {s U : State} (hW : s.WarmedH U.vm) (hZ : va_Nw (.declares x) s) : va_Nw (.declares x) U := va_tabs rfl (rfl : (s.setVm U.vm).vm = U.vm) (by rw [Cond.declares_setVm hW.alike]; exact hZ)
theorem ZT.moved {base : Nat → Prop} {s U : State} (z : ZT base s) (hW : s.WarmedH U.vm) (hq : ∀ a : Nat, a < s.heap.size → ¬ base a → U.heap[a]? = s.heap[a]?) : ZT base U := by
  obtain ⟨h1, h2, h3, h4⟩ := z
  refine ⟨vx_Zq.moved hW.alike (h1.kept hq), vx_Zq.moved hW.alike (h2.kept hq), fun en he w hw => ?_, fun en ek a b c => (h4 en ek a b c).moved hW.alike⟩
  have h5 := h3 en he w hw
  unfold exB at hw
  simp only [List.mem_cons, List.not_mem_nil, or_false] at hw
  rcases hw with e | e | e | e <;> subst e
  · exact va_NwD hW h5
  · exact va_NwD hW h5
  · exact va_NwD hW h5
  · exact va_Nw.warmC hW h5
/-- a method's end: it answers, or throws a thing of this number -/
abbrev Out : Type := (Option Value × AH) ⊕ (Nat × AH)
/-- here a new thing of this number is made and thrown -/
def thB (mi pc en : Nat) : Bool := Nat.beq (cO mi) 10 && Nat.blt en 6 && decide (decode (cB mi) pc = .ok (.new (exK en), 3)) && decide (decode (cB mi) (pc + 3) = .ok (.dup, 1)) && decide (decode (cB mi) (pc + 4) = .ok (.invokespecial (exI en), 3)) && decide (decode (cB mi) (pc + 7) = .ok (.athrow, 1))
/-- as run, but on to a return or a throw, over calls that may throw; n bounds these -/
def RT : Nat → Nat → Nat → Nat → LC → List Value → AH → Out → Prop
  | 0, _, _, _, _, _, _, _ => False
  | n + 1, d, mi, pc, lc, st, h, o => ∃ (n1 pc1 : Nat) (lc1 : LC) (st1 : List Value) (h1 : AH), run n1 d mi pc lc st h = some (pc1, lc1, st1, h1) ∧
    ((∃ v, retv mi pc1 st1 = some v ∧ o = .inl (v, h1)) ∨
     (∃ en, thB mi pc1 en = true ∧ (st1.map fun v => v.category).sum ≤ 8 ∧ o = .inr (en, h1)) ∨
     (∃ (ins : Instr) (nx mj na : Nat) (w : Value) (d' : Nat) (q : List Value × List Value) (o1 : Out), d = d' + 1 ∧ wfE mi pc1 (4, ins, nx, mj, na, 0, w) = true ∧ cArgs 0 na mj st1 = some q ∧ (q.2.map fun v => v.category).sum ≤ 8 ∧ (q.1.map fun v => v.category).sum ≤ cM mj ∧ RT n d' mj 0 (lv_args 0 q.1) [] h1 o1 ∧
       ((∃ v h2, o1 = .inl (v, h2) ∧ RT n d mi nx lc1 (v.toList ++ q.2) h2 o) ∨ ∃ en h2, o1 = .inr (en, h2) ∧ o = .inr (en, h2))))
/-- what is made from here on may be written -/
def HB (A : Nat → Prop) (U : State) : Prop := ∀ q : Nat, U.heap.size ≤ q → A q
theorem HB.le {A : Nat → Prop} {U V : State} (h : HB A U) (h2 : U.heap.size ≤ V.heap.size) : HB A V := fun q hq => h q (Nat.le_trans h2 hq)
section
variable {p : Program} {l : Launch} {e : Env} {R : Room} {s : State} {m : MethodId} {args : Array Value} {below : List Frame} {meth : Method} {c : Code} {H H0 : Heap} {locs : List Loc} {cells slots : Nat} {Q : State → Prop} {ls : Array Slot} {D : va_G} {ca : Nat → ClassId} {ad : Nat → Nat} {base : Nat → Prop}
def PcT (D : va_G) (ca : Nat → ClassId) (ad : Nat → Nat) (base : Nat → Prop) (av : List Value) (h : AH) : Array Value → State → Prop := va_Pc (av.map (em ad)) (fun U => (va_P D vcls (wsOf ca ad h) U.heap ∧ va_K D vcls (tysOf ca) U) ∧ ZT base U ∧ HB base U)
def QoX (D : va_G) (ca : Nat → ClassId) (ad : Nat → Nat) (base : Nat → Prop) (o : Out) : Array Value → State → Outcome → State → Prop := match o with | .inl q => QcX D ca ad base q.1 q.2 | .inr _ => fun _ _ _ _ => False
def XoX (D : va_G) (ca : Nat → ClassId) (ad : Nat → Nat) (base : Nat → Prop) (o : Out) : String → State → State → Prop := match o with | .inl _ => fun _ _ _ => False | .inr q => fun E st t => E = exN q.1 ∧ va_P D vcls (wsOf ca ad q.2) t.heap ∧ va_F (fun q : Nat => base q) st t
def rmT (d n : Nat) : Room := { frames := d + 7, cells := 2 ^ n, slots := 6 * 2 ^ n, locals := 60 * (d + 1) + 120 }
theorem PcT_blind {av : List Value} {h : AH} : FrameBlind (PcT D ca ad base av h) := fun a U g mk q => ⟨q.1, ⟨q.2.1.1, va_K.moved (u := U) (U := U.calling g mk a) (Vm.Alike.refl U.vm) q.2.1.2⟩, q.2.2.1.moved (U := U.calling g mk a) (State.WarmedH.refl U) (fun _ _ _ => rfl), q.2.2.2⟩
theorem callXT {mc1 ms1 pc : Nat} {st0 rest : List Value} {a : Array Value} {o1 : Out} (hr : vx_Run p l e R s m args below meth c H locs cells slots mc1 ms1 (F0 m pc ls st0) (rest.map (em ad)) (QoX D ca ad base o1 a) (XoX D ca ad base o1) (fun q : Nat => base q)) (hS : va_S (fun q : Nat => base q) H0 H locs)
    (k1 : ∀ (v : Option Value) (h2 : AH), o1 = .inl (v, h2) → ∀ (H1 : Heap) (locs1 : List Loc), va_P D vcls (wsOf ca ad h2) H1 → va_S (fun q : Nat => base q) H0 H1 locs1 → W p l e R s m args below meth c H1 locs1 (cells + mc1) (slots + ms1) Q (F0 m (pc + 3) ls ((v.toList ++ rest).map (em ad))))
    (k2 : ∀ (en : Nat) (h2 : AH), o1 = .inr (en, h2) → ∀ (H1 : Heap) (locs1 : List Loc) (ce : Cell) (q9 : Addr), va_P D vcls (wsOf ca ad h2) H1 → va_S (fun q : Nat => base q) H0 H1 locs1 → H1[q9]? = some ce → ce.vm = .none → s.vm.findClass (exN en) = some ce.cls → vx_W p l e R s m args below meth c H1 locs1 (cells + mc1) (slots + ms1) Q (F0 m pc ls (rest.map (em ad))) q9) : W p l e R s m args below meth c H locs cells slots Q (F0 m pc ls st0) := by
  intro T hT X
  rcases hr T hT X with ⟨v9, st₀, t, T', L, h0, X', hL, e1, e2, hq, st⟩ | ⟨q9, st₀, t, T', L, E, ce, h0, X', hL, e1, e2, hq, hce, hcv, hcl, st⟩
  · match o1, hq with
    | .inl (rv, h2), hq =>
      obtain ⟨⟨hv, hp⟩, hz, hk⟩ := hq
      have hv : v9 = rv.map (em ad) := by cases hv; rfl
      subst hv
      rw [h0] at hz hk
      obtain ⟨t2, a1, b1⟩ := k1 rv h2 rfl T'.heap (locs ++ L) (by rw [e1]; exact hp)
        ⟨Nat.le_trans hS.1 (by rw [e1]; exact hz), fun q h1 h2 => by rw [e1, hk q (Nat.lt_of_lt_of_le h1 hS.1) h2]; exact hS.2.1 q h1 h2, fun q hq => by
          rcases List.mem_append.mp hq with h | h
          · exact hS.2.2 q h
          · exact hL q h⟩ T' rfl X'
      refine ⟨t2, st t2 ?_, b1⟩
      have e9 : (rv.map (em ad)).toList ++ rest.map (em ad) = (rv.toList ++ rest).map (em ad) := by cases rv <;> simp
      show Steps p.tables e below (T'.setTop { F0 m pc ls st0 with pc := pc + 3, stack := (rv.map (em ad)).toList ++ rest.map (em ad) }) t2
      rw [e9]
      exact a1
    | .inr _, hq => exact absurd hq (fun z => z)
  · match o1, hq with
    | .inl _, hq => exact absurd hq (fun z => z)
    | .inr (en, h2), hq =>
      obtain ⟨rfl, hp, hz, hk⟩ := hq
      rw [h0] at hz hk
      obtain ⟨t2, a1, b1⟩ := k2 en h2 rfl T'.heap (locs ++ L) ce q9 (by rw [e1]; exact hp)
        ⟨Nat.le_trans hS.1 (by rw [e1]; exact hz), fun q h1 h2 => by rw [e1, hk q (Nat.lt_of_lt_of_le h1 hS.1) h2]; exact hS.2.1 q h1 h2, fun q hq => by
          rcases List.mem_append.mp hq with h | h
          · exact hS.2.2 q h
          · exact hL q h⟩ (by rw [e1]; exact hce) hcv hcl T' rfl X'
      exact ⟨t2, st.trans a1, b1⟩
set_option maxHeartbeats 4000000 in
/-- a call of a method that may throw -/
theorem sCT {mi pc nx mj na d' n9 : Nat} {ins : Instr} {v : Value} {st : List Value} {q : List Value × List Value} {o1 : Out} {h : AH} (hx : p.tables.exec = Jvm.exec) (hb : c.code = cB mi) (hml : c.maxLocals = cM mi) (hown : s.vm.findClass (oN (cO mi)) = some m.cls) (hts : ∀ w ∈ wAll, w.before args s = true)
    (hK : va_K D vcls (tysOf ca) s) (hZ : ZT base s) (hbs : HB base s) (hP : va_P D vcls (wsOf ca ad h) H) (hS : va_S (fun q : Nat => base q) s.heap H locs) (hl : ls.size = cM mi) (hRf : d' + 8 ≤ R.frames) (hRl : 60 * (d' + 2) + 120 ≤ R.locals) (hc : cells + 2 ^ n9 ≤ R.cells) (hsl : slots + 6 * 2 ^ n9 ≤ R.slots)
    (hw : wfE mi pc (4, ins, nx, mj, na, 0, v) = true) (ha : cArgs 0 na mj st = some q) (h8 : (q.2.map fun v => v.category).sum ≤ 8)
    (hM : vx_Met l (cY mj) (wsM mj) (rmT d' n9) (PcT D ca ad base q.1 h) (QoX D ca ad base o1) (XoX D ca ad base o1) (2 ^ n9) (6 * 2 ^ n9) (fun a : Nat => base a))
    (k1 : ∀ (v : Option Value) (h2 : AH), o1 = .inl (v, h2) → ∀ (H1 : Heap) (locs1 : List Loc), va_P D vcls (wsOf ca ad h2) H1 → va_S (fun q : Nat => base q) s.heap H1 locs1 → W p l e R s m args below meth c H1 locs1 (cells + 2 ^ n9) (slots + 6 * 2 ^ n9) Q (F0 m nx ls ((v.toList ++ q.2).map (em ad))))
    (k2 : ∀ (en : Nat) (h2 : AH), o1 = .inr (en, h2) → ∀ (H1 : Heap) (locs1 : List Loc) (ce : Cell) (q9 : Addr), va_P D vcls (wsOf ca ad h2) H1 → va_S (fun q : Nat => base q) s.heap H1 locs1 → H1[q9]? = some ce → ce.vm = .none → s.vm.findClass (exN en) = some ce.cls → vx_W p l e R s m args below meth c H1 locs1 (cells + 2 ^ n9) (slots + 6 * 2 ^ n9) Q (F0 m pc ls (q.2.map (em ad))) q9) : W p l e R s m args below meth c H locs cells slots Q (F0 m pc ls (st.map (em ad))) := by
  have hw9 : (decide (decode (cB mi) pc = .ok (ins, nx - pc)) && Nat.ble pc nx && (Nat.beq nx (pc + lenI ins) && wfC (cO mi) ins mj na 0)) = true := hw
  clear hw
  simp only [Bool.and_eq_true, decide_eq_true_eq] at hw9
  obtain ⟨⟨hdg0, -⟩, hnx0, h3⟩ := hw9
  have hnx := Nat.eq_of_beq_eq_true hnx0
  have hdg : decode (cB mi) pc = .ok (ins, lenI ins) := by rw [hdg0, hnx, Nat.add_sub_cancel_left]
  clear hdg0 hnx0
  subst hnx
  unfold wfC at h3
  simp only [Bool.and_eq_true, decide_eq_true_eq] at h3
  obtain ⟨⟨⟨⟨⟨⟨⟨⟨hmp, hkd⟩, hnl⟩, hmh⟩, hnp⟩, hcd⟩, hmn⟩, hpa⟩, hm16⟩ := h3
  have hm16 : cM mj ≤ 16 := Nat.le_of_ble_eq_true hm16
  have hmn : mj < nMeth := Nat.le_of_ble_eq_true hmn
  have hcls : (cY mj).cls = oN (cO mj) := oN_ok mj (List.mem_range.mpr hmn)
  have hini : Cond.initialized (cY mj).cls ∈ wAll := by
    obtain ⟨z, hz, hb9⟩ := any2 hnp
    have h5 := tb_in _ _ (nP_ok z hz)
    rw [Nat.eq_of_beq_eq_true hb9, ← hcls] at h5
    exact wA h5 rfl
  have hcode : Cond.code (cY mj) (cB mj) (cM mj) (cR mj) ∈ wAll := by
    obtain ⟨z, hz, hb9⟩ := any2 hcd
    have := Nat.eq_of_beq_eq_true hb9
    subst this
    exact wA (cdd_ok z hz) rfl
  have hwsM : ∀ w ∈ wsM mj, w ∈ wAll := fun w hw => by
    rcases List.mem_cons.mp hw with h | h
    · rw [h]; exact hcode
    · exact h
  obtain ⟨zm, hzm, hbm⟩ := any2 hmp
  simp only [Bool.and_eq_true] at hbm
  obtain ⟨⟨hm1, hm2⟩, hm3⟩ := hbm
  have hml9 := tb_in _ _ (mP_ok zm hzm)
  rw [Nat.eq_of_beq_eq_true hm1, Nat.eq_of_beq_eq_true hm3] at hml9
  unfold cArgs at ha
  split at ha
  case isFalse => cases ha
  rename_i hna
  have hlen : (((st.take na).reverse).map (em ad)).length = na := by simp; omega
  have hroom : (rmT d' n9).frames + 1 ≤ R.frames ∧ 8 + (cM mj + 11) + (rmT d' n9).locals ≤ R.locals := ⟨hRf, by show 8 + (cM mj + 11) + (60 * (d' + 1) + 120) ≤ _; omega⟩
  have hPre : ∀ U : State, U.heap = H → s.WarmedH U.vm → (va_P D vcls (wsOf ca ad h) U.heap ∧ va_K D vcls (tysOf ca) U) ∧ ZT base U ∧ HB base U := fun U hU hW => ⟨⟨by rw [hU]; exact hP, va_K.moved hW.alike hK⟩, hZ.moved hW (fun a h1 h2 => by rw [hU]; exact hS.2.1 a h1 h2), by rw [hU]; exact Nat.le_trans hbs hS.1⟩
  cases ins <;> simp only [reduceCtorEq, Bool.false_eq_true, Bool.and_eq_true, decide_eq_true_eq] at hkd
  case invokevirtual i =>
    obtain ⟨⟨⟨⟨-, hko⟩, hkc⟩, hip⟩, hsp⟩ := hkd
    have hko : kOf (cO mj) < 10 := Nat.le_of_ble_eq_true hko
    rw [Nat.eq_of_beq_eq_true hm2] at hml9
    have hinst : Cond.instanceMethod (cY mj) ∈ wAll := by
      obtain ⟨z, hz, hb9⟩ := any2 hip
      have h5 := tb_in _ _ (iP_ok z hz)
      rw [Nat.eq_of_beq_eq_true hb9] at h5
      exact wA h5 rfl
    have hsel : Cond.selects (cY mj).cls (cY mj) (cY mj) ∈ wAll := by
      obtain ⟨z, hz, hb9⟩ := any2 hsp
      have h5 := tb_in _ _ (sP_ok z hz)
      rw [Nat.eq_of_beq_eq_true hb9] at h5
      exact wA h5 rfl
    split at ha
    · next hz => cases hz
    · split at ha
      case h_2 => cases ha
      rename_i b r hdrop
      split at ha
      case h_2 => cases ha
      rename_i ci sl hlay
      split at ha
      case isFalse => cases ha
      rename_i hci
      cases ha
      subst hci
      obtain ⟨hkb, -⟩ := lay_in hlay (by omega)
      have he := ws_at (ca := ca) (ad := ad) hkb h
      rw [hlay] at he
      have hst : st.map (em ad) = (((st.take na).reverse).map (em ad)).reverse ++ .ref (ad b) :: r.map (em ad) := by
        rw [← List.map_reverse, List.reverse_reverse]
        conv => lhs; rw [← List.take_append_drop na st, hdrop]
        rw [List.map_append]
        rfl
      have hrecv := va_recv hK hP (vcls_at _ hko) he
      refine callXT (rest := r) (vx_runV (As := ((st.take na).reverse).map (em ad)) (Ts := wAll) (C := (cY mj).cls) (ws := wsM mj) (rm := rmT d' n9) (n := na) (bytes := cB mj) (maxL := cM mj) (ret := cR mj) ⟨hx, hb, hml, hown, hts⟩ hM
        (cwV na hts (gAll (fun w hw => ?_)) rfl rfl rfl ⟨rfl, hmh.1, hmh.2, hpa⟩ hroom)
        ⟨PcT_blind, (by rw [← hkc]; exact hrecv), fun U hU hW => ⟨rfl, hPre U hU hW⟩⟩ rfl hlen hl hst (lv_room (by rw [em_cats]; exact h8)) hdg ⟨hc, hsl⟩) hS k1 k2
      unfold wsV at hw
      rcases List.mem_append.mp hw with h | h
      · simp only [List.mem_cons, List.not_mem_nil, or_false] at h
        rcases h with h | h | h | h <;> rw [h]
        · exact wA hml9 rfl
        · exact hinst
        · exact hsel
        · exact hini
      · exact hwsM w h
  case invokestatic i => exact absurd hkd.1 (by decide)
/-- THE SIMULATION over throws -/
def SimT (l : Launch) (D : va_G) (ca : Nat → ClassId) (ad : Nat → Nat) (base : Nat → Prop) (n : Nat) : Prop := ∀ (d mi pc : Nat) (lc : LC) (st : List Value) (h : AH) (o : Out), RT n d mi pc lc st h o → ¬ mi = mL_law →
  ∀ (p : Program) (e : Env) (R : Room) (s : State) (m : MethodId) (args : Array Value) (below : List Frame) (meth : Method) (c : Code) (H : Heap) (locs : List Loc) (cells slots mc ms : Nat) (ls : Array Slot),
    p.tables.exec = Jvm.exec → c.code = cB mi → c.maxLocals = cM mi → meth.sig.returnType = cR mi → meth.locks = false → (∀ x ∈ c.exceptionTable.toList, False) → s.vm.findClass (oN (cO mi)) = some m.cls → (∀ w ∈ wAll, w.before args s = true) → va_K D vcls (tysOf ca) s → AdOk base ad → ZT base s → HB base s → d + 7 ≤ R.frames → 60 * (d + 1) + 120 ≤ R.locals → mc ≤ R.cells → ms ≤ R.slots → cells + 2 ^ n ≤ mc → slots + 6 * 2 ^ n ≤ ms →
    va_P D vcls (wsOf ca ad h) H → va_S (fun q : Nat => base q) s.heap H locs → lv_has ls (cM mi) (lm ad lc) →
    W p l e R s m args below meth c H locs cells slots (vx_MQ below (QoX D ca ad base o) (XoX D ca ad base o) args s mc ms (fun a : Nat => base a)) (F0 m pc ls (st.map (em ad)))
set_option maxHeartbeats 4000000 in
theorem metT {n d mj : Nat} (hSim : SimT l D ca ad base n) (hL : ¬ mj = mL_law) (hmj : mj < nMeth) (hpl : plainName (cY mj).cls = true) {av : List Value} {h : AH} {o : Out} (hcat : (av.map fun v => v.category).sum ≤ cM mj) (hrt : RT n d mj 0 (lv_args 0 av) [] h o) (hA : AdOk base ad) :
    vx_Met l (cY mj) (wsM mj) (rmT d n) (PcT D ca ad base av h) (QoX D ca ad base o) (XoX D ca ad base o) (2 ^ n) (6 * 2 ^ n) (fun a : Nat => base a) := by
  refine vx_ofW (cc := cB mj) (maxL := cM mj) (ret := cR mj) hpl rfl ?_
  intro p e s m args below meth c s₁ B hml hemp hv
  obtain ⟨rfl, ⟨hP, hK⟩, hZ, hbs⟩ := hv
  have hts := atoms_spec (ws := wsM mj) B.pre
  have hown : s.vm.findClass (oN (cO mj)) = some m.cls := by rw [← oN_ok mj (List.mem_range.mpr hmj)]; exact findClass_of_methodNamed B.named
  have hl := lv_entry (av.map (em ad)) (n := cM mj) (by rw [sl_len, em_cats]; exact hcat)
  rw [lg_entry_eq]
  generalize (lg_sl (av.map (em ad)) ++ List.replicate (cM mj - (lg_sl (av.map (em ad))).length) Slot.unset).toArray = ls at hl ⊢
  rw [args_em] at hl
  exact hSim d mj 0 _ [] h o hrt hL p e (rmT d n) s m _ below meth c s.heap [] 0 0 (2 ^ n) (6 * 2 ^ n) ls B.exec B.bytes hml B.returns B.notSynchronized hemp hown (fun w hw => hts w (List.mem_cons_of_mem _ hw)) hK hA hZ hbs (Nat.le_refl _) (Nat.le_refl _) (Nat.le_refl _) (Nat.le_refl _) (by omega) (by omega) hP va_S.rf hl
theorem pn_ok : ∀ k, k < 10 → plainName (cC k) = true := by decide +kernel
theorem wfC_pl {o : Nat} {ins : Instr} {mj na : Nat} (h : wfC o ins mj na 0 = true) : mj < nMeth ∧ plainName (cY mj).cls = true := by
  unfold wfC at h
  simp only [Bool.and_eq_true, decide_eq_true_eq] at h
  obtain ⟨⟨⟨⟨⟨⟨⟨⟨-, hkd⟩, -⟩, -⟩, -⟩, -⟩, hmn⟩, -⟩, -⟩ := h
  refine ⟨Nat.le_of_ble_eq_true hmn, ?_⟩
  cases ins <;> simp only [reduceCtorEq, Bool.false_eq_true, Bool.and_eq_true, decide_eq_true_eq] at hkd
  case invokevirtual i =>
    obtain ⟨⟨⟨⟨-, hko⟩, hkc⟩, -⟩, -⟩ := hkd
    rw [← hkc]
    exact pn_ok _ (Nat.le_of_ble_eq_true hko)
  case invokestatic i => exact absurd hkd.1 (by decide)
set_option maxHeartbeats 4000000 in
theorem simT (hfl : l.stackTraces = false) (n : Nat) : SimT l D ca ad base n := by
  induction n with
  | zero =>
    intro d mi pc lc st h o hrt
    exact absurd hrt (fun z => z)
  | succ n ih =>
    intro d mi pc lc st h o hrt hL p e R s m args below meth c H locs cells slots mc ms ls hx hb hml hr hlk hemp hown hts hK hA hZ hbs hRf hRl hmc hms hc hsl hP hS hl
    have h2n : 2 ^ (n + 1) = 2 ^ n + 2 ^ n := by rw [Nat.pow_succ]; omega
    have h1n : 1 ≤ 2 ^ n := Nat.one_le_two_pow
    obtain ⟨n1, pc1, lc1, st1, h1, hrun, hcase⟩ := hrt
    refine sim n1 d mi pc lc st h _ hrun hL p e R s m args below meth c s.heap H locs cells slots _ ls hx hb hml hown hts hK hA (by omega) (by omega) (by omega) (by omega) hP hS hl (fun H1 locs1 ls1 hP1 hS1 hl1 => ?_)
    rcases hcase with ⟨v, hv, rfl⟩ | ⟨en, hth, h8, rfl⟩ | ⟨ins, nx, mj, na, w, d', q, o1, rfl, hw, ha, h8, hcm, hrt1, hk⟩
    · refine vx_ret (W.widen (show cells ≤ mc by omega) (show slots ≤ ms by omega) ?_)
      exact sR hL hv hx hb hr hlk (fun t ht hW => ⟨⟨rfl, by rw [ht]; exact hP1⟩, hS1.F ht⟩) hS1.2.2
    · unfold thB at hth
      simp only [Bool.and_eq_true, decide_eq_true_eq] at hth
      obtain ⟨⟨⟨⟨⟨ho, hen⟩, d0⟩, d3⟩, d4⟩, d7⟩ := hth
      have hen : en < 6 := Nat.le_of_ble_eq_true hen
      have ho := Nat.eq_of_beq_eq_true ho
      obtain ⟨-, g2, g3, g4⟩ := exG en hen
      have hwd : ∀ w ∈ exW en, w.before args s = true := fun w hw => hts w (exW_all hen w hw)
      have hat : ∀ w ∈ vx_at0 RX10 (exI en) (exN en) exNm, w.before args s = true := vx_hat (B := exB en) (fun w hw => hwd w (List.mem_cons_of_mem _ (List.mem_cons_of_mem _ hw))) (fun w hw => of_decide_eq_true (List.all_eq_true.mp g2 w hw)) (fun w hw => by
        have h5 := hZ.2.2.1 en hen w hw
        have hot : w.onTables = true := by
          unfold exB at hw
          simp only [List.mem_cons, List.not_mem_nil, or_false] at hw
          rcases hw with e | e | e | e <;> subst e <;> rfl
        exact va_tabs hot rfl h5)
      refine vx_throw0 (A := fun q : Nat => base q) (names := exNm) (ik := exK en) (ic := exI en) (own := RX10) (cls := exN en) hx hb hfl (by rw [ho] at hown; exact hown) g4 exNm_fit (hwd _ List.mem_cons_self) (hwd _ (List.mem_cons_of_mem _ List.mem_cons_self)) hat (fun w hw => ?_) hZ.1 hZ.2.1 hS1 (hl1.1.trans hml.symm) d0 d3 d4 d7 (fun x hx => absurd (hemp x hx) (fun z => z)) (by show 2 + 3 < _; omega) (by rw [em_cats]; show (st1.map fun v => v.category).sum + (13 * (2 + 1) + 42) ≤ _; omega) (by omega) (by omega) hlk (fun t ht h3 h4 => ⟨rfl, ?_, Nat.le_trans hS1.1 h3, fun q h5 h6 => (h4 q (Nat.lt_of_lt_of_le h5 hS1.1)).trans (hS1.2.1 q h5 h6)⟩) hS1.2.2 (by omega) (by omega)
      · rcases List.mem_cons.mp hw with e | hw
        · rw [e]; rfl
        · rcases List.mem_cons.mp hw with e | hw
          · rw [e]; rfl
          · exact List.all_eq_true.mp g3 w hw
      · exact hP1.kept (fun k q hk => h4 q.1 (vx_lt hP1 hk))
    · have hnl := wfC_law (show wfC (cO mi) ins mj na 0 = true by
        have hw9 : (decide (decode (cB mi) pc1 = .ok (ins, nx - pc1)) && Nat.ble pc1 nx && (Nat.beq nx (pc1 + lenI ins) && wfC (cO mi) ins mj na 0)) = true := hw
        simp only [Bool.and_eq_true] at hw9
        exact hw9.2.2)
      have hcd := wfC_pl (show wfC (cO mi) ins mj na 0 = true by
        have hw9 : (decide (decode (cB mi) pc1 = .ok (ins, nx - pc1)) && Nat.ble pc1 nx && (Nat.beq nx (pc1 + lenI ins) && wfC (cO mi) ins mj na 0)) = true := hw
        simp only [Bool.and_eq_true] at hw9
        exact hw9.2.2)
      have hM := metT (o := o1) ih hnl hcd.1 hcd.2 hcm hrt1 hA
      refine sCT (n9 := n) (d' := d') hx hb hml hown hts hK hZ hbs hP1 hS1 hl1.1 (by omega) (by omega) (by omega) (by omega) hw ha h8 hM (fun v h2 e1 H2 locs2 hP2 hS2 => ?_) (fun en h2 e1 H2 locs2 ce q9 hP2 hS2 hce hcv hcl => ?_)
      · rcases hk with ⟨v9, h9, e2, hk⟩ | ⟨en9, h9, e2, -⟩
        · rw [e1] at e2
          cases e2
          exact ih (d' + 1) mi nx lc1 _ h2 o hk hL p e R s m args below meth c H2 locs2 (cells + 2 ^ n) (slots + 6 * 2 ^ n) mc ms ls1 hx hb hml hr hlk hemp hown hts hK hA hZ hbs hRf hRl hmc hms (by omega) (by omega) hP2 hS2 hl1
        · rw [e1] at e2; cases e2
      · rcases hk with ⟨v9, h9, e2, -⟩ | ⟨en9, h9, e2, rfl⟩
        · rw [e1] at e2; cases e2
        · rw [e1] at e2
          cases e2
          exact vx_out (fun x hx => absurd (hemp x hx) (fun z => z)) hlk hce hcv hcl (fun t ht _ => ⟨rfl, by rw [ht]; exact hP2, hS2.F ht⟩) hS2.2.2 (by omega) (by omega)
end
end
end
section
-- needs: 93
noncomputable section
/-- a number in the pool of what calls: the thing of this number by its name -/
def exL (en : Nat) : Nat := match en with | 0 => 17 | 1 => 19 | 2 => 29 | 3 => 44 | 4 => 62 | _ => 73
def exLP (en : Nat) : Nat × Nat := match en with | 0 => (3, 178) | 1 => (2, 80) | 2 => (3, 211) | 3 => (5, 139) | 4 => (4, 61) | _ => (5, 202)
set_option maxRecDepth 100000 in
theorem exL_ok : ∀ en, en < 6 → (tb (exLP en).1)[(exLP en).2]? = some (Cond.classLink RL (exL en) (exN en)) ∧ exL en ≠ 0 := by decide +kernel
theorem exL_all {en : Nat} (h : en < 6) : Cond.classLink RL (exL en) (exN en) ∈ wAll := wA (tb_in _ _ (exL_ok en h).1) rfl
def hdF : List ExceptionTableEntry → Nat → Nat → Option Nat
  | [], _, _ => none
  | x :: t, pc, en => bif covers x pc then (bif Nat.beq x.catchType (exL en) then some x.handlerPc else (bif (List.range 6).any (fun ek => !(Nat.beq ek en) && Nat.beq x.catchType (exL ek)) then hdF t pc en else none)) else hdF t pc en
theorem hdF_spec {en pc hp : Nat} : ∀ (T : List ExceptionTableEntry), hdF T pc en = some hp → ∃ (pre : List ExceptionTableEntry) (x : ExceptionTableEntry) (suf : List ExceptionTableEntry), T = pre ++ x :: suf ∧ x.handlerPc = hp ∧ covers x pc = true ∧ x.catchType = exL en ∧ ∀ z ∈ pre, covers z pc = false ∨ ∃ ek, ek < 6 ∧ en ≠ ek ∧ z.catchType = exL ek
  | [], h => by cases h
  | x :: t, h => by
    unfold hdF at h
    cases hc : covers x pc with
    | true =>
      rw [hc] at h
      simp only [cond_true] at h
      cases hb : Nat.beq x.catchType (exL en) with
      | true =>
        rw [hb] at h
        exact ⟨[], x, t, rfl, Option.some.inj h, hc, Nat.eq_of_beq_eq_true hb, fun z hz => absurd hz List.not_mem_nil⟩
      | false =>
        rw [hb] at h
        simp only [cond_false] at h
        cases ha : (List.range 6).any (fun ek => !(Nat.beq ek en) && Nat.beq x.catchType (exL ek)) with
        | true =>
          rw [ha] at h
          obtain ⟨pre, y, suf, e1, e2, e3, e4, e5⟩ := hdF_spec t h
          refine ⟨x :: pre, y, suf, by rw [e1]; rfl, e2, e3, e4, fun z hz => ?_⟩
          rcases List.mem_cons.mp hz with e | e
          · subst e
            obtain ⟨ek, he, hb2⟩ := List.any_eq_true.mp ha
            simp only [Bool.and_eq_true, Bool.not_eq_true'] at hb2
            exact Or.inr ⟨ek, List.mem_range.mp he, fun q => by rw [q] at hb2; rw [show Nat.beq ek ek = true from Nat.beq_refl ek] at hb2; exact absurd hb2.1 (by decide), Nat.eq_of_beq_eq_true hb2.2⟩
          · exact e5 z e
        | false => rw [ha] at h; cases h
    | false =>
      rw [hc] at h
      obtain ⟨pre, y, suf, e1, e2, e3, e4, e5⟩ := hdF_spec t h
      refine ⟨x :: pre, y, suf, by rw [e1]; rfl, e2, e3, e4, fun z hz => ?_⟩
      rcases List.mem_cons.mp hz with e | e
      · subst e; exact Or.inl hc
      · exact e5 z e
/-- behind a catch: it is put away, and k is answered -/
def hdE (mi q : Nat) (k : Int32) : Bool := match decode (cB mi) q with | .ok (.iconst n, 1) => decide (Int32.ofInt n = k) && decide (decode (cB mi) (q + 1) = .ok (.ireturn, 1)) | _ => false
def hdK (mi hp : Nat) (k : Int32) : Bool := match decode (cB mi) hp with | .ok (.astore_n j, 1) => decide ((j : Nat) < cM mi) && hdE mi (hp + 1) k | .ok (.astore j, 2) => decide (j < cM mi) && hdE mi (hp + 2) k | _ => false
def hdOk (mi : Nat) (hh : List (Nat × Nat × Nat × Nat)) (pc en : Nat) (k : Int32) : Bool := Nat.blt en 6 && (match hdF (tableOf hh) pc en with | some hp => hdK mi hp k | none => false)
variable {p : Program} {l : Launch} {e : Env} {R : Room} {s : State} {m : MethodId} {args : Array Value} {below : List Frame} {meth : Method} {c : Code} {H H0 : Heap} {locs : List Loc} {cells slots : Nat} {Q : State → Prop} {ls : Array Slot} {D : va_G} {ca : Nat → ClassId} {ad : Nat → Nat} {base : Nat → Prop}
theorem hdE_run {mi q : Nat} {k : Int32} {Qc : Array Value → State → Outcome → State → Prop} {free : Addr → Prop} (h : hdE mi q k = true) (hx : p.tables.exec = Jvm.exec) (hb : c.code = cB mi) (hr : meth.sig.returnType = some .int) (hlk : meth.locks = false)
    (hq : ∀ t : State, t.heap = H → s.WarmedH t.vm → Qc args s (.returned (some (.int k))) t) (hf : ∀ q ∈ locs, free q.base) : W p l e R s m args below meth c H locs cells slots (MQ below Qc args s cells slots free) (F0 m q ls []) := by
  unfold hdE at h
  split at h
  · next n hd =>
    simp only [Bool.and_eq_true, decide_eq_true_eq] at h
    exact lv_iconst hx hb hd h.1 (W.iret hx hb hr hq hf h.2 hlk)
  · cases h
theorem hdK_run {mi hp : Nat} {k : Int32} {q9 : Nat} {lv : List (Nat × Value)} {Qc : Array Value → State → Outcome → State → Prop} {free : Addr → Prop} (h : hdK mi hp k = true) (hx : p.tables.exec = Jvm.exec) (hb : c.code = cB mi) (hr : meth.sig.returnType = some .int) (hlk : meth.locks = false) (hl : lv_has ls (cM mi) lv)
    (hq : ∀ t : State, t.heap = H → s.WarmedH t.vm → Qc args s (.returned (some (.int k))) t) (hf : ∀ q ∈ locs, free q.base) : W p l e R s m args below meth c H locs cells slots (MQ below Qc args s cells slots free) (F0 m hp ls [.ref q9]) := by
  unfold hdK at h
  split at h
  · next j hd =>
    simp only [Bool.and_eq_true, decide_eq_true_eq] at h
    exact lv_astore_n hx hb hd rfl hl h.1 rfl (fun ls' _ => hdE_run h.2 hx hb hr hlk hq hf)
  · next j hd =>
    simp only [Bool.and_eq_true, decide_eq_true_eq] at h
    exact lv_astore hx hb hd hl h.1 rfl (fun ls' _ => hdE_run h.2 hx hb hr hlk hq hf)
  · cases h
def wsL (mi : Nat) (hh : List (Nat × Nat × Nat × Nat)) : List Cond := Cond.codeWith (cY mi) (cB mi) (cM mi) (cR mi) hh :: wAll
set_option maxHeartbeats 4000000 in
/-- a method of the law that catches -/
theorem metL (hfl : l.stackTraces = false) {n n1 d mi i mj na pc1 : Nat} {hh : List (Nat × Nat × Nat × Nat)} {lc1 : LC} {st1 av0 av rest : List Value} {h h3 : AH} {o1 : Out} {k : Int32}
    (hL : ¬ mi = mL_law) (hmi : mi < nMeth) (hpl : plainName (cY mi).cls = true) (ho : oN (cO mi) = RL) (hrt : cR mi = some .int) (hcat : (av0.map fun v => v.category).sum ≤ cM mi)
    (hrun : run n1 (d + 1) mi 0 (lv_args 0 av0) [] h = some (pc1, lc1, st1, h)) (hw : wfE mi pc1 (4, .invokevirtual i, pc1 + 3, mj, na, 0, .null) = true) (ha : cArgs 0 na mj st1 = some (av, rest)) (h8 : (rest.map fun v => v.category).sum ≤ 8 ∧ (av.map fun v => v.category).sum ≤ cM mj)
    (hM : RT n d mj 0 (lv_args 0 av) [] h o1)
    (hk : (∃ v h2, o1 = .inl (v, h2) ∧ EvR (d + 1) mi (pc1 + 3) lc1 (v.toList ++ rest) h2 (some (.int k)) h3) ∨ ∃ en, o1 = .inr (en, h3) ∧ hdOk mi hh pc1 en k = true) (hA : AdOk base ad) :
    vx_Met l (cY mi) (wsL mi hh) (rmT (d + 1) n) (PcT D ca ad base av0 h) (QoX D ca ad base (.inl (some (.int k), h3))) (XoX D ca ad base (.inl (some (.int k), h3))) (2 ^ n) (6 * 2 ^ n) (fun a : Nat => base a) := by
  refine vx_ofWH (cc := cB mi) (maxL := cM mi) (ret := cR mi) (hh := hh) hpl rfl ?_
  intro p e s m args below meth c s₁ B hml hv
  obtain ⟨rfl, ⟨hP, hK⟩, hZ, hbs⟩ := hv
  have hts := atoms_spec (ws := wsL mi hh) B.pre
  have htab := vx_table (x := cY mi) B (hts _ List.mem_cons_self)
  have hts2 : ∀ w ∈ wAll, w.before _ s = true := fun w hw => hts w (List.mem_cons_of_mem _ hw)
  have hown : s.vm.findClass (oN (cO mi)) = some m.cls := by rw [← oN_ok mi (List.mem_range.mpr hmi)]; exact findClass_of_methodNamed B.named
  have hl := lv_entry (av0.map (em ad)) (n := cM mi) (by rw [sl_len, em_cats]; exact hcat)
  rw [lg_entry_eq]
  generalize (lg_sl (av0.map (em ad)) ++ List.replicate (cM mi - (lg_sl (av0.map (em ad))).length) Slot.unset).toArray = ls at hl ⊢
  rw [args_em] at hl
  have h1n : 1 ≤ 2 ^ n := Nat.one_le_two_pow
  refine sim n1 (d + 1) mi 0 _ [] h _ hrun hL p e (rmT (d + 1) n) s m _ below meth c s.heap s.heap [] 0 0 _ ls B.exec B.bytes hml hown hts2 hK hA (by show _ ≤ d + 1 + 7; omega) (by show _ ≤ 60 * (d + 1 + 1) + 120; omega) (Nat.zero_le _) (Nat.zero_le _) hP va_S.rf hl (fun H1 locs1 ls1 hP1 hS1 hl1 => ?_)
  have hw9 : (decide (decode (cB mi) pc1 = .ok (.invokevirtual i, pc1 + 3 - pc1)) && Nat.ble pc1 (pc1 + 3) && (Nat.beq (pc1 + 3) (pc1 + lenI (.invokevirtual i)) && wfC (cO mi) (.invokevirtual i) mj na 0)) = true := hw
  have hnl := wfC_law (show wfC (cO mi) (.invokevirtual i) mj na 0 = true by
    simp only [Bool.and_eq_true] at hw9
    exact hw9.2.2)
  have hcd := wfC_pl (show wfC (cO mi) (.invokevirtual i) mj na 0 = true by
    simp only [Bool.and_eq_true] at hw9
    exact hw9.2.2)
  have hM2 := metT (l := l) (D := D) (ca := ca) (ad := ad) (base := base) (o := o1) (simT hfl n) hnl hcd.1 hcd.2 h8.2 hM hA
  refine sCT (n9 := n) (d' := d) B.exec B.bytes hml hown hts2 hK hZ hbs hP1 hS1 hl1.1 (Nat.le_refl _) (Nat.le_refl _) (by show 0 + 2 ^ n ≤ 2 ^ n; omega) (by show 0 + 6 * 2 ^ n ≤ 6 * 2 ^ n; omega) hw ha h8.1 hM2 (fun v h2 e1 H2 locs2 hP2 hS2 => ?_) (fun en h2 e1 H2 locs2 ce q9 hP2 hS2 hce hcv hcl => ?_)
  · rcases hk with ⟨v9, h9, e2, hk⟩ | ⟨en9, e2, -⟩
    · rw [e1] at e2
      cases e2
      obtain ⟨n3, pc3, lc3, st3, hr3, hrv⟩ := hk
      refine sim n3 (d + 1) mi (pc1 + 3) lc1 _ h2 _ hr3 hL p e (rmT (d + 1) n) s m _ below meth c s.heap H2 locs2 (0 + 2 ^ n) (0 + 6 * 2 ^ n) _ ls1 B.exec B.bytes hml hown hts2 hK hA (by show _ ≤ d + 1 + 7; omega) (by show _ ≤ 60 * (d + 1 + 1) + 120; omega) (by show 0 + 2 ^ n ≤ 2 ^ n; omega) (by show 0 + 6 * 2 ^ n ≤ 6 * 2 ^ n; omega) hP2 hS2 hl1 (fun H3 locs3 ls3 hP3 hS3 hl3 => ?_)
      refine vx_ret (W.widen (show 0 + 2 ^ n ≤ 2 ^ n by omega) (show 0 + 6 * 2 ^ n ≤ 6 * 2 ^ n by omega) ?_)
      exact sR hL hrv B.exec B.bytes B.returns B.notSynchronized (fun t ht hW => ⟨⟨rfl, by rw [ht]; exact hP3⟩, hS3.F ht⟩) hS3.2.2
    · rw [e1] at e2; cases e2
  · rcases hk with ⟨v9, h9, e2, -⟩ | ⟨en9, e2, hok⟩
    · rw [e1] at e2; cases e2
    · rw [e1] at e2
      cases e2
      unfold hdOk at hok
      simp only [Bool.and_eq_true] at hok
      obtain ⟨hen, hok⟩ := hok
      have hen : en < 6 := Nat.le_of_ble_eq_true hen
      split at hok
      · next hp hf =>
        obtain ⟨pre, x, suf, f1, f2, f3, f4, f5⟩ := hdF_spec _ hf
        have hown2 : s.vm.findClass RL = some m.cls := by rw [← ho]; exact hown
        refine vx_catch (own := RL) (name := exN en) hown2 pre x suf (htab.trans f1) (fun z hz => ?_) f3 (by rw [f4]; exact (exL_ok en hen).2) (by rw [f4]; exact hts2 _ (exL_all hen)) (va_tabs rfl rfl (hZ.2.2.1 en hen (.castable (exN en) (exN en)) (by simp [exB]))) hce hcv hcl ?_
        · rcases f5 z hz with q | ⟨ek, g1, g2, g3⟩
          · exact Or.inl q
          · exact Or.inr ⟨by rw [g3]; exact (exL_ok ek g1).2, exN ek, by rw [g3]; exact hts2 _ (exL_all g1), hZ.2.2.2 en ek hen g1 g2⟩
        · rw [f2]
          refine vx_ret (W.widen (show 0 + 2 ^ n ≤ 2 ^ n by omega) (show 0 + 6 * 2 ^ n ≤ 6 * 2 ^ n by omega) ?_)
          exact hdK_run hok B.exec B.bytes (B.returns.trans hrt) B.notSynchronized hl1 (fun t ht hW => ⟨⟨rfl, by rw [ht]; exact hP2⟩, hS2.F ht⟩) hS2.2.2
      · cases hok
end
end
