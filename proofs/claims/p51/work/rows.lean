section
-- ===== PART A: goes FIRST, ahead of the names: the tables' words, and 'selects' of the private methods out of them =====
/-- a private method of a class that the tables say can be made, by its rows of tables_1 -/
def lw_okq (q : MethodName × Nat) : Prop := (q.1.cls ≠ "java/lang/invoke/MethodHandle" ∧ q.1.cls ≠ "java/lang/invoke/VarHandle") ∧ Cond.instantiable q.1.cls q.2 ∈ tables_1 ∧ Cond.privateMethod q.1 ∈ tables_1 ∧ Cond.instanceMethod q.1 ∈ tables_1
theorem lw_p0 : lw_okq (⟨"FadingTrumps$Pack", "exchange", "(II)V"⟩, 1) := ⟨⟨by decide +kernel, by decide +kernel⟩, List.mem_of_getElem? (i := 100) (by decide +kernel), List.mem_of_getElem? (i := 385) (by decide +kernel), List.mem_of_getElem? (i := 386) (by decide +kernel)⟩
theorem lw_p1 : lw_okq (⟨"FadingTrumps$Table", "setHand", "(IJ)V"⟩, 19) := ⟨⟨by decide +kernel, by decide +kernel⟩, List.mem_of_getElem? (i := 111) (by decide +kernel), List.mem_of_getElem? (i := 416) (by decide +kernel), List.mem_of_getElem? (i := 417) (by decide +kernel)⟩
theorem lw_p2 : lw_okq (⟨"FadingTrumpsLaw", "loads", "(LFadingTrumps;[I)Z"⟩, 2) := ⟨⟨by decide +kernel, by decide +kernel⟩, List.mem_of_getElem? (i := 476) (by decide +kernel), List.mem_of_getElem? (i := 489) (by decide +kernel), List.mem_of_getElem? (i := 490) (by decide +kernel)⟩
theorem lw_p3 : lw_okq (⟨"FadingTrumpsLaw", "writes", "(Ljava/lang/String;)V"⟩, 2) := ⟨⟨by decide +kernel, by decide +kernel⟩, List.mem_of_getElem? (i := 476) (by decide +kernel), List.mem_of_getElem? (i := 504) (by decide +kernel), List.mem_of_getElem? (i := 505) (by decide +kernel)⟩
theorem lw_p4 : lw_okq (⟨"FadingTrumpsLaw", "spaced", "(I)V"⟩, 2) := ⟨⟨by decide +kernel, by decide +kernel⟩, List.mem_of_getElem? (i := 476) (by decide +kernel), List.mem_of_getElem? (i := 556) (by decide +kernel), List.mem_of_getElem? (i := 557) (by decide +kernel)⟩
theorem lw_p5 : lw_okq (⟨"FadingTrumpsLaw", "feeds", "(LFadingTrumps;)I"⟩, 2) := ⟨⟨by decide +kernel, by decide +kernel⟩, List.mem_of_getElem? (i := 476) (by decide +kernel), List.mem_of_getElem? (i := 569) (by decide +kernel), List.mem_of_getElem? (i := 570) (by decide +kernel)⟩
theorem lw_p6 : lw_okq (⟨"FadingTrumps", "append", "(I)V"⟩, 13) := ⟨⟨by decide +kernel, by decide +kernel⟩, List.mem_of_getElem? (i := 26) (by decide +kernel), List.mem_of_getElem? (i := 577) (by decide +kernel), List.mem_of_getElem? (i := 578) (by decide +kernel)⟩
theorem lw_p7 : lw_okq (⟨"java/lang/Throwable", "fillInStackTrace", "(I)Ljava/lang/Throwable;"⟩, 6) := ⟨⟨by decide +kernel, by decide +kernel⟩, List.mem_of_getElem? (i := 622) (by decide +kernel), List.mem_of_getElem? (i := 620) (by decide +kernel), List.mem_of_getElem? (i := 621) (by decide +kernel)⟩
theorem lw_p8 : lw_okq (⟨"FadingTrumps$Tokens", "kindAt", "(I)I"⟩, 8) := ⟨⟨by decide +kernel, by decide +kernel⟩, List.mem_of_getElem? (i := 34) (by decide +kernel), List.mem_of_getElem? (i := 659) (by decide +kernel), List.mem_of_getElem? (i := 660) (by decide +kernel)⟩
theorem lw_p9 : lw_okq (⟨"FadingTrumps$Tokens", "byteAt", "(I)I"⟩, 8) := ⟨⟨by decide +kernel, by decide +kernel⟩, List.mem_of_getElem? (i := 34) (by decide +kernel), List.mem_of_getElem? (i := 663) (by decide +kernel), List.mem_of_getElem? (i := 664) (by decide +kernel)⟩
theorem lw_p10 : lw_okq (⟨"FadingTrumps$TextReader", "readSizes", "()V"⟩, 5) := ⟨⟨by decide +kernel, by decide +kernel⟩, List.mem_of_getElem? (i := 277) (by decide +kernel), List.mem_of_getElem? (i := 670) (by decide +kernel), List.mem_of_getElem? (i := 671) (by decide +kernel)⟩
theorem lw_p11 : lw_okq (⟨"FadingTrumps$TextReader", "readTrump", "()V"⟩, 5) := ⟨⟨by decide +kernel, by decide +kernel⟩, List.mem_of_getElem? (i := 277) (by decide +kernel), List.mem_of_getElem? (i := 713) (by decide +kernel), List.mem_of_getElem? (i := 714) (by decide +kernel)⟩
theorem lw_p12 : lw_okq (⟨"FadingTrumps$TextReader", "readStart", "()V"⟩, 5) := ⟨⟨by decide +kernel, by decide +kernel⟩, List.mem_of_getElem? (i := 277) (by decide +kernel), List.mem_of_getElem? (i := 721) (by decide +kernel), List.mem_of_getElem? (i := 722) (by decide +kernel)⟩
theorem lw_p13 : lw_okq (⟨"FadingTrumps$TextReader", "readClause", "(I)V"⟩, 5) := ⟨⟨by decide +kernel, by decide +kernel⟩, List.mem_of_getElem? (i := 277) (by decide +kernel), List.mem_of_getElem? (i := 745) (by decide +kernel), List.mem_of_getElem? (i := 746) (by decide +kernel)⟩
theorem lw_p14 : lw_okq (⟨"FadingTrumps$TextReader", "readHand", "(I)V"⟩, 5) := ⟨⟨by decide +kernel, by decide +kernel⟩, List.mem_of_getElem? (i := 277) (by decide +kernel), List.mem_of_getElem? (i := 750) (by decide +kernel), List.mem_of_getElem? (i := 751) (by decide +kernel)⟩
theorem lw_p15 : lw_okq (⟨"FadingTrumps$TextReader", "readCard", "(I)V"⟩, 5) := ⟨⟨by decide +kernel, by decide +kernel⟩, List.mem_of_getElem? (i := 277) (by decide +kernel), List.mem_of_getElem? (i := 754) (by decide +kernel), List.mem_of_getElem? (i := 755) (by decide +kernel)⟩
def lw_privs_1 : List (MethodName × Nat) := [(⟨"FadingTrumps$Pack", "exchange", "(II)V"⟩, 1), (⟨"FadingTrumps$Table", "setHand", "(IJ)V"⟩, 19), (⟨"FadingTrumpsLaw", "loads", "(LFadingTrumps;[I)Z"⟩, 2), (⟨"FadingTrumpsLaw", "writes", "(Ljava/lang/String;)V"⟩, 2), (⟨"FadingTrumpsLaw", "spaced", "(I)V"⟩, 2), (⟨"FadingTrumpsLaw", "feeds", "(LFadingTrumps;)I"⟩, 2), (⟨"FadingTrumps", "append", "(I)V"⟩, 13), (⟨"java/lang/Throwable", "fillInStackTrace", "(I)Ljava/lang/Throwable;"⟩, 6), (⟨"FadingTrumps$Tokens", "kindAt", "(I)I"⟩, 8), (⟨"FadingTrumps$Tokens", "byteAt", "(I)I"⟩, 8), (⟨"FadingTrumps$TextReader", "readSizes", "()V"⟩, 5), (⟨"FadingTrumps$TextReader", "readTrump", "()V"⟩, 5), (⟨"FadingTrumps$TextReader", "readStart", "()V"⟩, 5), (⟨"FadingTrumps$TextReader", "readClause", "(I)V"⟩, 5), (⟨"FadingTrumps$TextReader", "readHand", "(I)V"⟩, 5), (⟨"FadingTrumps$TextReader", "readCard", "(I)V"⟩, 5)]
theorem lw_r1 : ∀ q ∈ lw_privs_1, lw_okq q := List.forall_mem_cons.mpr ⟨lw_p0, List.forall_mem_cons.mpr ⟨lw_p1, List.forall_mem_cons.mpr ⟨lw_p2, List.forall_mem_cons.mpr ⟨lw_p3, List.forall_mem_cons.mpr ⟨lw_p4, List.forall_mem_cons.mpr ⟨lw_p5, List.forall_mem_cons.mpr ⟨lw_p6, List.forall_mem_cons.mpr ⟨lw_p7, List.forall_mem_cons.mpr ⟨lw_p8, List.forall_mem_cons.mpr ⟨lw_p9, List.forall_mem_cons.mpr ⟨lw_p10, List.forall_mem_cons.mpr ⟨lw_p11, List.forall_mem_cons.mpr ⟨lw_p12, List.forall_mem_cons.mpr ⟨lw_p13, List.forall_mem_cons.mpr ⟨lw_p14, List.forall_mem_cons.mpr ⟨lw_p15, fun _ h => absurd h List.not_mem_nil⟩⟩⟩⟩⟩⟩⟩⟩⟩⟩⟩⟩⟩⟩⟩⟩
theorem lw_p16 : lw_okq (⟨"FadingTrumps$TextReader", "readTell", "()V"⟩, 5) := ⟨⟨by decide +kernel, by decide +kernel⟩, List.mem_of_getElem? (i := 277) (by decide +kernel), List.mem_of_getElem? (i := 785) (by decide +kernel), List.mem_of_getElem? (i := 786) (by decide +kernel)⟩
theorem lw_p17 : lw_okq (⟨"FadingTrumps$TextReader", "handOut", "()V"⟩, 5) := ⟨⟨by decide +kernel, by decide +kernel⟩, List.mem_of_getElem? (i := 277) (by decide +kernel), List.mem_of_getElem? (i := 791) (by decide +kernel), List.mem_of_getElem? (i := 792) (by decide +kernel)⟩
theorem lw_p18 : lw_okq (⟨"FadingTrumps$Table", "firstLackingCards", "()I"⟩, 19) := ⟨⟨by decide +kernel, by decide +kernel⟩, List.mem_of_getElem? (i := 111) (by decide +kernel), List.mem_of_getElem? (i := 806) (by decide +kernel), List.mem_of_getElem? (i := 807) (by decide +kernel)⟩
theorem lw_p19 : lw_okq (⟨"FadingTrumps", "needCard", "(I)V"⟩, 13) := ⟨⟨by decide +kernel, by decide +kernel⟩, List.mem_of_getElem? (i := 26) (by decide +kernel), List.mem_of_getElem? (i := 875) (by decide +kernel), List.mem_of_getElem? (i := 876) (by decide +kernel)⟩
theorem lw_p20 : lw_okq (⟨"FadingTrumps", "needPlayer", "(I)V"⟩, 13) := ⟨⟨by decide +kernel, by decide +kernel⟩, List.mem_of_getElem? (i := 26) (by decide +kernel), List.mem_of_getElem? (i := 890) (by decide +kernel), List.mem_of_getElem? (i := 891) (by decide +kernel)⟩
theorem lw_p21 : lw_okq (⟨"FadingTrumps", "needSuit", "(I)V"⟩, 13) := ⟨⟨by decide +kernel, by decide +kernel⟩, List.mem_of_getElem? (i := 26) (by decide +kernel), List.mem_of_getElem? (i := 963) (by decide +kernel), List.mem_of_getElem? (i := 964) (by decide +kernel)⟩
theorem lw_p22 : lw_okq (⟨"FadingTrumps$Trick", "higherOf", "(LFadingTrumps$Setup;J)J"⟩, 9) := ⟨⟨by decide +kernel, by decide +kernel⟩, List.mem_of_getElem? (i := 117) (by decide +kernel), List.mem_of_getElem? (i := 985) (by decide +kernel), List.mem_of_getElem? (i := 986) (by decide +kernel)⟩
theorem lw_p23 : lw_okq (⟨"FadingTrumps$History", "rowAt", "(I)LFadingTrumps$Table;"⟩, 3) := ⟨⟨by decide +kernel, by decide +kernel⟩, List.mem_of_getElem? (i := 257) (by decide +kernel), List.mem_of_getElem? (i := 1020) (by decide +kernel), List.mem_of_getElem? (i := 1021) (by decide +kernel)⟩
theorem lw_p24 : lw_okq (⟨"FadingTrumps$Table", "noteLack", "(II)V"⟩, 19) := ⟨⟨by decide +kernel, by decide +kernel⟩, List.mem_of_getElem? (i := 111) (by decide +kernel), List.mem_of_getElem? (i := 1031) (by decide +kernel), List.mem_of_getElem? (i := 1032) (by decide +kernel)⟩
theorem lw_p25 : lw_okq (⟨"FadingTrumps$Table", "closeTrick", "()V"⟩, 19) := ⟨⟨by decide +kernel, by decide +kernel⟩, List.mem_of_getElem? (i := 111) (by decide +kernel), List.mem_of_getElem? (i := 1046) (by decide +kernel), List.mem_of_getElem? (i := 1047) (by decide +kernel)⟩
theorem lw_p26 : lw_okq (⟨"FadingTrumps$Trick", "dim", "(LFadingTrumps$Setup;IZ)V"⟩, 9) := ⟨⟨by decide +kernel, by decide +kernel⟩, List.mem_of_getElem? (i := 117) (by decide +kernel), List.mem_of_getElem? (i := 1054) (by decide +kernel), List.mem_of_getElem? (i := 1055) (by decide +kernel)⟩
theorem lw_p27 : lw_okq (⟨"FadingTrumps$Table", "closeHand", "()V"⟩, 19) := ⟨⟨by decide +kernel, by decide +kernel⟩, List.mem_of_getElem? (i := 111) (by decide +kernel), List.mem_of_getElem? (i := 1062) (by decide +kernel), List.mem_of_getElem? (i := 1063) (by decide +kernel)⟩
theorem lw_p28 : lw_okq (⟨"FadingTrumps", "needRange", "(III)V"⟩, 13) := ⟨⟨by decide +kernel, by decide +kernel⟩, List.mem_of_getElem? (i := 26) (by decide +kernel), List.mem_of_getElem? (i := 1077) (by decide +kernel), List.mem_of_getElem? (i := 1078) (by decide +kernel)⟩
theorem lw_p29 : lw_okq (⟨"FadingTrumps$Table", "strongest", "()I"⟩, 19) := ⟨⟨by decide +kernel, by decide +kernel⟩, List.mem_of_getElem? (i := 111) (by decide +kernel), List.mem_of_getElem? (i := 1085) (by decide +kernel), List.mem_of_getElem? (i := 1086) (by decide +kernel)⟩
theorem lw_p30 : lw_okq (⟨"FadingTrumps$Table", "cheapest", "()I"⟩, 19) := ⟨⟨by decide +kernel, by decide +kernel⟩, List.mem_of_getElem? (i := 111) (by decide +kernel), List.mem_of_getElem? (i := 1091) (by decide +kernel), List.mem_of_getElem? (i := 1092) (by decide +kernel)⟩
theorem lw_p31 : lw_okq (⟨"FadingTrumps$Table", "hasLessPower", "(II)Z"⟩, 19) := ⟨⟨by decide +kernel, by decide +kernel⟩, List.mem_of_getElem? (i := 111) (by decide +kernel), List.mem_of_getElem? (i := 1096) (by decide +kernel), List.mem_of_getElem? (i := 1097) (by decide +kernel)⟩
def lw_privs_2 : List (MethodName × Nat) := [(⟨"FadingTrumps$TextReader", "readTell", "()V"⟩, 5), (⟨"FadingTrumps$TextReader", "handOut", "()V"⟩, 5), (⟨"FadingTrumps$Table", "firstLackingCards", "()I"⟩, 19), (⟨"FadingTrumps", "needCard", "(I)V"⟩, 13), (⟨"FadingTrumps", "needPlayer", "(I)V"⟩, 13), (⟨"FadingTrumps", "needSuit", "(I)V"⟩, 13), (⟨"FadingTrumps$Trick", "higherOf", "(LFadingTrumps$Setup;J)J"⟩, 9), (⟨"FadingTrumps$History", "rowAt", "(I)LFadingTrumps$Table;"⟩, 3), (⟨"FadingTrumps$Table", "noteLack", "(II)V"⟩, 19), (⟨"FadingTrumps$Table", "closeTrick", "()V"⟩, 19), (⟨"FadingTrumps$Trick", "dim", "(LFadingTrumps$Setup;IZ)V"⟩, 9), (⟨"FadingTrumps$Table", "closeHand", "()V"⟩, 19), (⟨"FadingTrumps", "needRange", "(III)V"⟩, 13), (⟨"FadingTrumps$Table", "strongest", "()I"⟩, 19), (⟨"FadingTrumps$Table", "cheapest", "()I"⟩, 19), (⟨"FadingTrumps$Table", "hasLessPower", "(II)Z"⟩, 19)]
theorem lw_r2 : ∀ q ∈ lw_privs_2, lw_okq q := List.forall_mem_cons.mpr ⟨lw_p16, List.forall_mem_cons.mpr ⟨lw_p17, List.forall_mem_cons.mpr ⟨lw_p18, List.forall_mem_cons.mpr ⟨lw_p19, List.forall_mem_cons.mpr ⟨lw_p20, List.forall_mem_cons.mpr ⟨lw_p21, List.forall_mem_cons.mpr ⟨lw_p22, List.forall_mem_cons.mpr ⟨lw_p23, List.forall_mem_cons.mpr ⟨lw_p24, List.forall_mem_cons.mpr ⟨lw_p25, List.forall_mem_cons.mpr ⟨lw_p26, List.forall_mem_cons.mpr ⟨lw_p27, List.forall_mem_cons.mpr ⟨lw_p28, List.forall_mem_cons.mpr ⟨lw_p29, List.forall_mem_cons.mpr ⟨lw_p30, List.forall_mem_cons.mpr ⟨lw_p31, fun _ h => absurd h List.not_mem_nil⟩⟩⟩⟩⟩⟩⟩⟩⟩⟩⟩⟩⟩⟩⟩⟩
def lw_privs : List (MethodName × Nat) := lw_privs_1 ++ (lw_privs_2)
def lw_tbl : List Cond := k2_sels lw_privs ++ tables_1
theorem lw_privs_ok : ∀ q ∈ lw_privs, lw_okq q := by
  show ∀ q ∈ lw_privs_1 ++ (lw_privs_2), lw_okq q
  exact List.forall_mem_append.mpr ⟨lw_r1, lw_r2⟩
/-- the streams that the claim lets the run draw from -/
abbrev lw_cs : List Choice := [Jvm.Choice.named "NaN.bits"]
theorem lw_bits : nanBits ∈ lw_cs := by first | decide | exact List.mem_cons_self | simp [lw_cs, nanBits]
end
section
/-! the tables of the mini-machine, by a program out of the printed names of this claim: classes, methods, decoded instructions with what they link -/
def q_cn (k : Nat) : String := match k with
  | 0 => "FadingTrumps$HandText"
  | 1 => "FadingTrumps$History"
  | 2 => "FadingTrumps$Pack"
  | 3 => "FadingTrumps$QueryReader"
  | 4 => "FadingTrumps$Setup"
  | 5 => "FadingTrumps$SureSearch"
  | 6 => "FadingTrumps$Table"
  | 7 => "FadingTrumps$TextReader"
  | 8 => "FadingTrumps$Tokens"
  | 9 => "FadingTrumps$Trick"
  | 10 => "FadingTrumps"
  | 11 => "FadingTrumpsLaw"
  | 12 => "FadingTrumps$Rows"
  | 13 => ""
  | 14 => "java/lang/Long"
  | _ => ""
def q_T0 : u_T := fun k => match k with
  | 0 => ("FadingTrumps$HandText", "bytes", "[B", true)
  | _ => ("FadingTrumps$HandText", "count", "I", false)
def q_y0 : Nat → FieldType := fun k => match k with
  | 0 => .array .byte
  | _ => .int
def q_T1 : u_T := fun k => match k with
  | 0 => ("FadingTrumps$History", "before", "[LFadingTrumps$Table;", true)
  | 1 => ("FadingTrumps$History", "next", "I", false)
  | _ => ("FadingTrumps$History", "count", "I", false)
def q_y1 : Nat → FieldType := fun k => match k with
  | 0 => .array (.object "FadingTrumps$Table")
  | 1 => .int
  | _ => .int
def q_T2 : u_T := fun k => match k with
  | _ => ("FadingTrumps$Pack", "row", "[I", true)
def q_y2 : Nat → FieldType := fun k => match k with
  | _ => .array .int
def q_T3 : u_T := fun k => match k with
  | 0 => ("FadingTrumps$QueryReader", "tokens", "LFadingTrumps$Tokens;", true)
  | 1 => ("FadingTrumps$QueryReader", "steps", "[I", true)
  | 2 => ("FadingTrumps$QueryReader", "lefts", "[I", true)
  | 3 => ("FadingTrumps$QueryReader", "rights", "[I", true)
  | 4 => ("FadingTrumps$QueryReader", "count", "I", false)
  | _ => ("FadingTrumps$QueryReader", "many", "Z", false)
def q_y3 : Nat → FieldType := fun k => match k with
  | 0 => .object "FadingTrumps$Tokens"
  | 1 => .array .int
  | 2 => .array .int
  | 3 => .array .int
  | 4 => .int
  | _ => .boolean
def q_T4 : u_T := fun k => match k with
  | 0 => ("FadingTrumps$Setup", "ranks", "I", false)
  | 1 => ("FadingTrumps$Setup", "players", "I", false)
  | 2 => ("FadingTrumps$Setup", "held", "I", false)
  | _ => ("FadingTrumps$Setup", "fullGlow", "I", false)
def q_y4 : Nat → FieldType := fun k => match k with
  | 0 => .int
  | 1 => .int
  | 2 => .int
  | _ => .int
def q_T5 : u_T := fun k => match k with
  | 0 => ("FadingTrumps$SureSearch", "table", "LFadingTrumps$Table;", true)
  | 1 => ("FadingTrumps$SureSearch", "setup", "LFadingTrumps$Setup;", true)
  | 2 => ("FadingTrumps$SureSearch", "tricks", "[LFadingTrumps$Trick;", true)
  | 3 => ("FadingTrumps$SureSearch", "cards", "[I", true)
  | 4 => ("FadingTrumps$SureSearch", "known", "[J", true)
  | 5 => ("FadingTrumps$SureSearch", "search", "J", false)
  | 6 => ("FadingTrumps$SureSearch", "count", "I", false)
  | 7 => ("FadingTrumps$SureSearch", "searcher", "I", false)
  | _ => ("FadingTrumps$SureSearch", "chosen", "I", false)
def q_y5 : Nat → FieldType := fun k => match k with
  | 0 => .object "FadingTrumps$Table"
  | 1 => .object "FadingTrumps$Setup"
  | 2 => .array (.object "FadingTrumps$Trick")
  | 3 => .array .int
  | 4 => .array .long
  | 5 => .long
  | 6 => .int
  | 7 => .int
  | _ => .int
def q_T6 : u_T := fun k => match k with
  | 0 => ("FadingTrumps$Table", "setup", "LFadingTrumps$Setup;", true)
  | 1 => ("FadingTrumps$Table", "trick", "LFadingTrumps$Trick;", true)
  | 2 => ("FadingTrumps$Table", "hands", "[J", true)
  | 3 => ("FadingTrumps$Table", "told", "[I", true)
  | 4 => ("FadingTrumps$Table", "won", "[I", true)
  | 5 => ("FadingTrumps$Table", "lacking", "[I", true)
  | 6 => ("FadingTrumps$Table", "points", "[I", true)
  | 7 => ("FadingTrumps$Table", "playedCards", "[I", true)
  | 8 => ("FadingTrumps$Table", "playedBy", "[I", true)
  | 9 => ("FadingTrumps$Table", "records", "[I", true)
  | 10 => ("FadingTrumps$Table", "gone", "J", false)
  | 11 => ("FadingTrumps$Table", "rule", "I", false)
  | 12 => ("FadingTrumps$Table", "fade", "I", false)
  | 13 => ("FadingTrumps$Table", "revive", "Z", false)
  | 14 => ("FadingTrumps$Table", "toldTrump", "I", false)
  | 15 => ("FadingTrumps$Table", "firstLead", "I", false)
  | 16 => ("FadingTrumps$Table", "playedCount", "I", false)
  | 17 => ("FadingTrumps$Table", "complete", "I", false)
  | _ => ("FadingTrumps$Table", "handsOver", "I", false)
def q_y6 : Nat → FieldType := fun k => match k with
  | 0 => .object "FadingTrumps$Setup"
  | 1 => .object "FadingTrumps$Trick"
  | 2 => .array .long
  | 3 => .array .int
  | 4 => .array .int
  | 5 => .array .int
  | 6 => .array .int
  | 7 => .array .int
  | 8 => .array .int
  | 9 => .array .int
  | 10 => .long
  | 11 => .int
  | 12 => .int
  | 13 => .boolean
  | 14 => .int
  | 15 => .int
  | 16 => .int
  | 17 => .int
  | _ => .int
def q_T7 : u_T := fun k => match k with
  | 0 => ("FadingTrumps$TextReader", "setup", "LFadingTrumps$Setup;", true)
  | 1 => ("FadingTrumps$TextReader", "table", "LFadingTrumps$Table;", true)
  | 2 => ("FadingTrumps$TextReader", "tokens", "LFadingTrumps$Tokens;", true)
  | 3 => ("FadingTrumps$TextReader", "pack", "LFadingTrumps$Pack;", true)
  | _ => ("FadingTrumps$TextReader", "seed", "I", false)
def q_y7 : Nat → FieldType := fun k => match k with
  | 0 => .object "FadingTrumps$Setup"
  | 1 => .object "FadingTrumps$Table"
  | 2 => .object "FadingTrumps$Tokens"
  | 3 => .object "FadingTrumps$Pack"
  | _ => .int
def q_T8 : u_T := fun k => match k with
  | 0 => ("FadingTrumps$Tokens", "bytes", "[B", true)
  | 1 => ("FadingTrumps$Tokens", "length", "I", false)
  | 2 => ("FadingTrumps$Tokens", "start", "I", false)
  | 3 => ("FadingTrumps$Tokens", "stop", "I", false)
  | 4 => ("FadingTrumps$Tokens", "kind", "I", false)
  | 5 => ("FadingTrumps$Tokens", "number", "I", false)
  | 6 => ("FadingTrumps$Tokens", "errorCode", "I", false)
  | _ => ("FadingTrumps$Tokens", "errorAt", "I", false)
def q_y8 : Nat → FieldType := fun k => match k with
  | 0 => .array .byte
  | 1 => .int
  | 2 => .int
  | 3 => .int
  | 4 => .int
  | 5 => .int
  | 6 => .int
  | _ => .int
def q_T9 : u_T := fun k => match k with
  | 0 => ("FadingTrumps$Trick", "leader", "I", false)
  | 1 => ("FadingTrumps$Trick", "turn", "I", false)
  | 2 => ("FadingTrumps$Trick", "placed", "I", false)
  | 3 => ("FadingTrumps$Trick", "led", "I", false)
  | 4 => ("FadingTrumps$Trick", "best", "I", false)
  | 5 => ("FadingTrumps$Trick", "bestCard", "I", false)
  | 6 => ("FadingTrumps$Trick", "winner", "I", false)
  | 7 => ("FadingTrumps$Trick", "trump", "I", false)
  | _ => ("FadingTrumps$Trick", "glow", "I", false)
def q_y9 : Nat → FieldType := fun k => match k with
  | 0 => .int
  | 1 => .int
  | 2 => .int
  | 3 => .int
  | 4 => .int
  | 5 => .int
  | 6 => .int
  | 7 => .int
  | _ => .int
def q_T10 : u_T := fun k => match k with
  | 0 => ("FadingTrumps", "buffer", "[B", true)
  | 1 => ("FadingTrumps", "buffered", "I", false)
  | 2 => ("FadingTrumps", "tokens", "LFadingTrumps$Tokens;", true)
  | 3 => ("FadingTrumps", "setup", "LFadingTrumps$Setup;", true)
  | 4 => ("FadingTrumps", "pack", "LFadingTrumps$Pack;", true)
  | 5 => ("FadingTrumps", "table", "LFadingTrumps$Table;", true)
  | 6 => ("FadingTrumps", "history", "LFadingTrumps$History;", true)
  | 7 => ("FadingTrumps", "snapshot", "LFadingTrumps$Table;", true)
  | 8 => ("FadingTrumps", "hasSnapshot", "Z", false)
  | 9 => ("FadingTrumps", "textReader", "LFadingTrumps$TextReader;", true)
  | 10 => ("FadingTrumps", "queryReader", "LFadingTrumps$QueryReader;", true)
  | 11 => ("FadingTrumps", "search", "LFadingTrumps$SureSearch;", true)
  | _ => ("FadingTrumps", "handText", "LFadingTrumps$HandText;", true)
def q_y10 : Nat → FieldType := fun k => match k with
  | 0 => .array .byte
  | 1 => .int
  | 2 => .object "FadingTrumps$Tokens"
  | 3 => .object "FadingTrumps$Setup"
  | 4 => .object "FadingTrumps$Pack"
  | 5 => .object "FadingTrumps$Table"
  | 6 => .object "FadingTrumps$History"
  | 7 => .object "FadingTrumps$Table"
  | 8 => .boolean
  | 9 => .object "FadingTrumps$TextReader"
  | 10 => .object "FadingTrumps$QueryReader"
  | 11 => .object "FadingTrumps$SureSearch"
  | _ => .object "FadingTrumps$HandText"
def q_T11 : u_T := fun k => match k with
  | 0 => ("FadingTrumpsLaw", "text", "[I", true)
  | _ => ("FadingTrumpsLaw", "size", "I", false)
def q_y11 : Nat → FieldType := fun k => match k with
  | 0 => .array .int
  | _ => .int
def q_T (k : Nat) : u_T := match k with
  | 0 => q_T0
  | 1 => q_T1
  | 2 => q_T2
  | 3 => q_T3
  | 4 => q_T4
  | 5 => q_T5
  | 6 => q_T6
  | 7 => q_T7
  | 8 => q_T8
  | 9 => q_T9
  | 10 => q_T10
  | 11 => q_T11
  | _ => q_T0
def q_y (k : Nat) : Nat → FieldType := match k with
  | 0 => q_y0
  | 1 => q_y1
  | 2 => q_y2
  | 3 => q_y3
  | 4 => q_y4
  | 5 => q_y5
  | 6 => q_y6
  | 7 => q_y7
  | 8 => q_y8
  | 9 => q_y9
  | 10 => q_y10
  | 11 => q_y11
  | _ => q_y0
def q_N (k : Nat) : Nat := match k with
  | 0 => 2
  | 1 => 3
  | 2 => 1
  | 3 => 6
  | 4 => 4
  | 5 => 9
  | 6 => 19
  | 7 => 5
  | 8 => 8
  | 9 => 9
  | 10 => 13
  | 11 => 2
  | _ => 0
abbrev q_cl : List vw_C := [("FadingTrumps$HandText", q_T0, 2), ("FadingTrumps$History", q_T1, 3), ("FadingTrumps$Pack", q_T2, 1), ("FadingTrumps$QueryReader", q_T3, 6), ("FadingTrumps$Setup", q_T4, 4), ("FadingTrumps$SureSearch", q_T5, 9), ("FadingTrumps$Table", q_T6, 19), ("FadingTrumps$TextReader", q_T7, 5), ("FadingTrumps$Tokens", q_T8, 8), ("FadingTrumps$Trick", q_T9, 9), ("FadingTrumps", q_T10, 13), ("FadingTrumpsLaw", q_T11, 2)]
/-- the String constants: class, entry, text, its signs -/
def q_sc : List (String × Nat × String × List Int32) := [("FadingTrumps$TextReader", 70, "blue", [98, 108, 117, 101]), ("FadingTrumps$TextReader", 93, "rule", [114, 117, 108, 101]), ("FadingTrumps$TextReader", 104, "trump", [116, 114, 117, 109, 112]), ("FadingTrumps$TextReader", 109, "glow", [103, 108, 111, 119]), ("FadingTrumps$TextReader", 111, "fade", [102, 97, 100, 101]), ("FadingTrumps$TextReader", 115, "revive", [114, 101, 118, 105, 118, 101]), ("FadingTrumps$TextReader", 123, "lead", [108, 101, 97, 100]), ("FadingTrumps$TextReader", 128, "seed", [115, 101, 101, 100]), ("FadingTrumps$TextReader", 133, "hand", [104, 97, 110, 100]), ("FadingTrumps$TextReader", 138, "tell", [116, 101, 108, 108]), ("FadingTrumpsLaw", 53, "blue", [98, 108, 117, 101]), ("FadingTrumpsLaw", 27, " ", [32]), ("FadingTrumpsLaw", 59, " rule", [32, 114, 117, 108, 101]), ("FadingTrumpsLaw", 61, " trump", [32, 116, 114, 117, 109, 112]), ("FadingTrumpsLaw", 63, " glow", [32, 103, 108, 111, 119]), ("FadingTrumpsLaw", 65, " fade", [32, 102, 97, 100, 101]), ("FadingTrumpsLaw", 67, " revive", [32, 114, 101, 118, 105, 118, 101]), ("FadingTrumpsLaw", 69, " lead", [32, 108, 101, 97, 100]), ("FadingTrumpsLaw", 71, " seed", [32, 115, 101, 101, 100]), ("FadingTrumpsLaw", 73, ";", [59])]
def q_k0 : List (Nat × Instr × Nat × Nat) := [(0, .aload_n 0, 0, 0),
  (1, .invokespecial 3, 914, 0),
  (4, .aload_n 0, 0, 0),
  (5, .bipush 51, 0, 0),
  (7, .newarray .byte, 0, 0),
  (9, .putfield 9, 0, 0),
  (12, .return_, 0, 0)]
def q_k6 : List (Nat × Instr × Nat × Nat) := [(0, .aload_n 0, 0, 0),
  (1, .invokespecial 3, 914, 0),
  (4, .aload_n 0, 0, 0),
  (5, .bipush 10, 0, 0),
  (7, .anewarray 9, 5, 0),
  (10, .putfield 11, 1, 0),
  (13, .iconst 0, 0, 0),
  (14, .istore_n 2, 0, 0),
  (15, .iload_n 2, 0, 0),
  (16, .aload_n 0, 0, 0),
  (17, .getfield 11, 1, 0),
  (20, .arraylength, 0, 0),
  (21, .if_icmp .ge 23, 44, 0),
  (24, .aload_n 0, 0, 0),
  (25, .getfield 11, 1, 0),
  (28, .iload_n 2, 0, 0),
  (29, .new 9, 6, 0),
  (32, .dup, 0, 0),
  (33, .aload_n 1, 0, 0),
  (34, .invokespecial 17, 49, 1),
  (37, .aastore, 0, 0),
  (38, .iinc 2 1, 0, 0),
  (41, .goto (-26), 15, 0),
  (44, .return_, 0, 0)]
def q_k7 : List (Nat × Instr × Nat × Nat) := [(0, .aload_n 0, 0, 0),
  (1, .iconst 0, 0, 0),
  (2, .putfield 20, 1, 1),
  (5, .aload_n 0, 0, 0),
  (6, .iconst 0, 0, 0),
  (7, .putfield 24, 1, 2),
  (10, .return_, 0, 0)]
def q_k8 : List (Nat × Instr × Nat × Nat) := [(0, .aload_n 0, 0, 0),
  (1, .aload_n 0, 0, 0),
  (2, .getfield 20, 1, 1),
  (5, .invokevirtual 27, 10, 1),
  (8, .astore_n 2, 0, 0),
  (9, .aload_n 2, 0, 0),
  (10, .ifnull 8, 18, 0),
  (13, .aload_n 2, 0, 0),
  (14, .aload_n 1, 0, 0),
  (15, .invokevirtual 31, 52, 1),
  (18, .aload_n 0, 0, 0),
  (19, .aload_n 0, 0, 0),
  (20, .getfield 20, 1, 1),
  (23, .iconst 1, 0, 0),
  (24, .iadd, 0, 0),
  (25, .bipush 10, 0, 0),
  (27, .if_icmp .ge 12, 39, 0),
  (30, .aload_n 0, 0, 0),
  (31, .getfield 20, 1, 1),
  (34, .iconst 1, 0, 0),
  (35, .iadd, 0, 0),
  (36, .goto 4, 40, 0),
  (39, .iconst 0, 0, 0),
  (40, .putfield 20, 1, 1),
  (43, .aload_n 0, 0, 0),
  (44, .aload_n 0, 0, 0),
  (45, .getfield 24, 1, 2),
  (48, .iconst 1, 0, 0),
  (49, .iadd, 0, 0),
  (50, .bipush 10, 0, 0),
  (52, .invokestatic 35, 911, 2),
  (55, .putfield 24, 1, 2),
  (58, .return_, 0, 0)]
def q_k9 : List (Nat × Instr × Nat × Nat) := [(0, .aload_n 0, 0, 0),
  (1, .aload_n 0, 0, 0),
  (2, .getfield 20, 1, 1),
  (5, .ifCond .le 12, 17, 0),
  (8, .aload_n 0, 0, 0),
  (9, .getfield 20, 1, 1),
  (12, .iconst 1, 0, 0),
  (13, .isub, 0, 0),
  (14, .goto 5, 19, 0),
  (17, .bipush 9, 0, 0),
  (19, .putfield 20, 1, 1),
  (22, .aload_n 0, 0, 0),
  (23, .aload_n 0, 0, 0),
  (24, .getfield 24, 1, 2),
  (27, .iconst 1, 0, 0),
  (28, .isub, 0, 0),
  (29, .iconst 0, 0, 0),
  (30, .invokestatic 41, 910, 2),
  (33, .putfield 24, 1, 2),
  (36, .aload_n 0, 0, 0),
  (37, .aload_n 0, 0, 0),
  (38, .getfield 20, 1, 1),
  (41, .invokevirtual 27, 10, 1),
  (44, .astore_n 2, 0, 0),
  (45, .aload_n 2, 0, 0),
  (46, .ifnull 8, 54, 0),
  (49, .aload_n 1, 0, 0),
  (50, .aload_n 2, 0, 0),
  (51, .invokevirtual 31, 52, 1),
  (54, .return_, 0, 0)]
def q_k10 : List (Nat × Instr × Nat × Nat) := [(0, .iload_n 1, 0, 0),
  (1, .ifCond .lt 21, 22, 0),
  (4, .iload_n 1, 0, 0),
  (5, .aload_n 0, 0, 0),
  (6, .getfield 11, 1, 0),
  (9, .arraylength, 0, 0),
  (10, .if_icmp .ge 12, 22, 0),
  (13, .aload_n 0, 0, 0),
  (14, .getfield 11, 1, 0),
  (17, .iload_n 1, 0, 0),
  (18, .aaload, 0, 0),
  (19, .goto 4, 23, 0),
  (22, .aconst_null, 0, 0),
  (23, .areturn, 0, 0)]
def q_k11 : List (Nat × Instr × Nat × Nat) := [(0, .aload_n 0, 0, 0),
  (1, .invokespecial 3, 914, 0),
  (4, .aload_n 0, 0, 0),
  (5, .bipush 52, 0, 0),
  (7, .newarray .int, 0, 0),
  (9, .putfield 9, 2, 0),
  (12, .return_, 0, 0)]
def q_k12 : List (Nat × Instr × Nat × Nat) := [(0, .iconst 0, 0, 0),
  (1, .istore_n 3, 0, 0),
  (2, .iload_n 3, 0, 0),
  (3, .iload_n 2, 0, 0),
  (4, .if_icmp .ge 18, 22, 0),
  (7, .aload_n 0, 0, 0),
  (8, .getfield 9, 2, 0),
  (11, .iload_n 3, 0, 0),
  (12, .iload_n 3, 0, 0),
  (13, .invokestatic 15, 310, 3),
  (16, .iinc 3 1, 0, 0),
  (19, .goto (-17), 2, 0),
  (22, .iload_n 1, 0, 0),
  (23, .istore_n 3, 0, 0),
  (24, .iload_n 2, 0, 0),
  (25, .iconst 1, 0, 0),
  (26, .isub, 0, 0),
  (27, .istore 4, 0, 0),
  (29, .iload 4, 0, 0),
  (31, .iconst 1, 0, 0),
  (32, .if_icmp .lt 34, 66, 0),
  (35, .iload_n 3, 0, 0),
  (36, .sipush 1103, 0, 0),
  (39, .imul, 0, 0),
  (40, .sipush 12345, 0, 0),
  (43, .iadd, 0, 0),
  (44, .ldc 21, 0, 100003),
  (46, .irem, 0, 0),
  (47, .istore_n 3, 0, 0),
  (48, .aload_n 0, 0, 0),
  (49, .iload 4, 0, 0),
  (51, .iload_n 3, 0, 0),
  (52, .iload 4, 0, 0),
  (54, .iconst 1, 0, 0),
  (55, .iadd, 0, 0),
  (56, .irem, 0, 0),
  (57, .invokevirtual 22, 13, 2),
  (60, .iinc 4 (-1), 0, 0),
  (63, .goto (-34), 29, 0),
  (66, .return_, 0, 0)]
def q_k13 : List (Nat × Instr × Nat × Nat) := [(0, .aload_n 0, 0, 0),
  (1, .iload_n 1, 0, 0),
  (2, .invokevirtual 26, 14, 1),
  (5, .istore_n 3, 0, 0),
  (6, .aload_n 0, 0, 0),
  (7, .getfield 9, 2, 0),
  (10, .iload_n 1, 0, 0),
  (11, .aload_n 0, 0, 0),
  (12, .iload_n 2, 0, 0),
  (13, .invokevirtual 26, 14, 1),
  (16, .invokestatic 15, 310, 3),
  (19, .aload_n 0, 0, 0),
  (20, .getfield 9, 2, 0),
  (23, .iload_n 2, 0, 0),
  (24, .iload_n 3, 0, 0),
  (25, .invokestatic 15, 310, 3),
  (28, .return_, 0, 0)]
def q_k14 : List (Nat × Instr × Nat × Nat) := [(0, .aload_n 0, 0, 0),
  (1, .getfield 9, 2, 0),
  (4, .iload_n 1, 0, 0),
  (5, .invokestatic 30, 309, 2),
  (8, .ireturn, 0, 0)]
def q_k15 : List (Nat × Instr × Nat × Nat) := [(0, .aload_n 0, 0, 0),
  (1, .invokespecial 3, 914, 0),
  (4, .aload_n 0, 0, 0),
  (5, .sipush 200, 0, 0),
  (8, .newarray .int, 0, 0),
  (10, .putfield 9, 3, 1),
  (13, .aload_n 0, 0, 0),
  (14, .sipush 200, 0, 0),
  (17, .newarray .int, 0, 0),
  (19, .putfield 15, 3, 2),
  (22, .aload_n 0, 0, 0),
  (23, .sipush 200, 0, 0),
  (26, .newarray .int, 0, 0),
  (28, .putfield 18, 3, 3),
  (31, .aload_n 0, 0, 0),
  (32, .aload_n 1, 0, 0),
  (33, .putfield 21, 3, 0),
  (36, .return_, 0, 0)]
def q_k28 : List (Nat × Instr × Nat × Nat) := [(0, .aload_n 0, 0, 0),
  (1, .invokespecial 3, 914, 0),
  (4, .aload_n 0, 0, 0),
  (5, .bipush 9, 0, 0),
  (7, .putfield 9, 4, 0),
  (10, .aload_n 0, 0, 0),
  (11, .iconst 2, 0, 0),
  (12, .putfield 15, 4, 1),
  (15, .aload_n 0, 0, 0),
  (16, .iconst 5, 0, 0),
  (17, .putfield 18, 4, 2),
  (20, .aload_n 0, 0, 0),
  (21, .bipush 10, 0, 0),
  (23, .putfield 21, 4, 3),
  (26, .return_, 0, 0)]
def q_k29 : List (Nat × Instr × Nat × Nat) := [(0, .aload_n 0, 0, 0),
  (1, .aload_n 1, 0, 0),
  (2, .getfield 9, 4, 0),
  (5, .putfield 9, 4, 0),
  (8, .aload_n 0, 0, 0),
  (9, .aload_n 1, 0, 0),
  (10, .getfield 15, 4, 1),
  (13, .putfield 15, 4, 1),
  (16, .aload_n 0, 0, 0),
  (17, .aload_n 1, 0, 0),
  (18, .getfield 18, 4, 2),
  (21, .putfield 18, 4, 2),
  (24, .aload_n 0, 0, 0),
  (25, .aload_n 1, 0, 0),
  (26, .getfield 21, 4, 3),
  (29, .putfield 21, 4, 3),
  (32, .return_, 0, 0)]
def q_k30 : List (Nat × Instr × Nat × Nat) := [(0, .iconst 4, 0, 0),
  (1, .aload_n 0, 0, 0),
  (2, .getfield 9, 4, 0),
  (5, .imul, 0, 0),
  (6, .ireturn, 0, 0)]
def q_k31 : List (Nat × Instr × Nat × Nat) := [(0, .aload_n 0, 0, 0),
  (1, .getfield 15, 4, 1),
  (4, .aload_n 0, 0, 0),
  (5, .getfield 18, 4, 2),
  (8, .imul, 0, 0),
  (9, .ireturn, 0, 0)]
def q_k32 : List (Nat × Instr × Nat × Nat) := [(0, .aload_n 0, 0, 0),
  (1, .getfield 15, 4, 1),
  (4, .ifCond .gt 8, 12, 0),
  (7, .bipush 13, 0, 0),
  (9, .goto 17, 26, 0),
  (12, .bipush 13, 0, 0),
  (14, .aload_n 0, 0, 0),
  (15, .invokevirtual 24, 30, 0),
  (18, .aload_n 0, 0, 0),
  (19, .getfield 15, 4, 1),
  (22, .idiv, 0, 0),
  (23, .invokestatic 28, 911, 2),
  (26, .ireturn, 0, 0)]
def q_k33 : List (Nat × Instr × Nat × Nat) := [(0, .aload_n 0, 0, 0),
  (1, .getfield 9, 4, 0),
  (4, .ifCond .gt 7, 11, 0),
  (7, .iconst 0, 0, 0),
  (8, .goto 9, 17, 0),
  (11, .iload_n 1, 0, 0),
  (12, .aload_n 0, 0, 0),
  (13, .getfield 9, 4, 0),
  (16, .idiv, 0, 0),
  (17, .ireturn, 0, 0)]
def q_k34 : List (Nat × Instr × Nat × Nat) := [(0, .aload_n 0, 0, 0),
  (1, .getfield 9, 4, 0),
  (4, .ifCond .gt 7, 11, 0),
  (7, .iconst 0, 0, 0),
  (8, .goto 11, 19, 0),
  (11, .iload_n 1, 0, 0),
  (12, .aload_n 0, 0, 0),
  (13, .getfield 9, 4, 0),
  (16, .irem, 0, 0),
  (17, .iconst 1, 0, 0),
  (18, .iadd, 0, 0),
  (19, .ireturn, 0, 0)]
def q_k35 : List (Nat × Instr × Nat × Nat) := [(0, .aload_n 0, 0, 0),
  (1, .getfield 15, 4, 1),
  (4, .ifCond .gt 7, 11, 0),
  (7, .iconst 0, 0, 0),
  (8, .goto 9, 17, 0),
  (11, .iload_n 1, 0, 0),
  (12, .aload_n 0, 0, 0),
  (13, .getfield 15, 4, 1),
  (16, .idiv, 0, 0),
  (17, .ireturn, 0, 0)]
def q_k36 : List (Nat × Instr × Nat × Nat) := [(0, .iload_n 1, 0, 0),
  (1, .iconst (-1), 0, 0),
  (2, .if_icmp .ne 7, 9, 0),
  (5, .lconst 0, 0, 0),
  (6, .goto 18, 24, 0),
  (9, .lconst 1, 0, 0),
  (10, .aload_n 0, 0, 0),
  (11, .getfield 9, 4, 0),
  (14, .lshl, 0, 0),
  (15, .lconst 1, 0, 0),
  (16, .lsub, 0, 0),
  (17, .iload_n 1, 0, 0),
  (18, .aload_n 0, 0, 0),
  (19, .getfield 9, 4, 0),
  (22, .imul, 0, 0),
  (23, .lshl, 0, 0),
  (24, .lreturn, 0, 0)]
def q_k37 : List (Nat × Instr × Nat × Nat) := [(0, .iload_n 1, 0, 0),
  (1, .iconst 1, 0, 0),
  (2, .iadd, 0, 0),
  (3, .aload_n 0, 0, 0),
  (4, .getfield 15, 4, 1),
  (7, .if_icmp .ge 9, 16, 0),
  (10, .iload_n 1, 0, 0),
  (11, .iconst 1, 0, 0),
  (12, .iadd, 0, 0),
  (13, .goto 4, 17, 0),
  (16, .iconst 0, 0, 0),
  (17, .ireturn, 0, 0)]
def q_k38 : List (Nat × Instr × Nat × Nat) := [(0, .aload_n 0, 0, 0),
  (1, .invokespecial 3, 914, 0),
  (4, .aload_n 0, 0, 0),
  (5, .bipush 13, 0, 0),
  (7, .anewarray 11, 6, 0),
  (10, .putfield 13, 5, 2),
  (13, .aload_n 0, 0, 0),
  (14, .bipush 12, 0, 0),
  (16, .newarray .int, 0, 0),
  (18, .putfield 17, 5, 3),
  (21, .aload_n 0, 0, 0),
  (22, .sipush 16384, 0, 0),
  (25, .newarray .long, 0, 0),
  (27, .putfield 21, 5, 4),
  (30, .aload_n 0, 0, 0),
  (31, .aload_n 1, 0, 0),
  (32, .putfield 25, 5, 0),
  (35, .aload_n 0, 0, 0),
  (36, .aload_n 1, 0, 0),
  (37, .getfield 29, 6, 0),
  (40, .putfield 35, 5, 1),
  (43, .iconst 0, 0, 0),
  (44, .istore_n 2, 0, 0),
  (45, .iload_n 2, 0, 0),
  (46, .aload_n 0, 0, 0),
  (47, .getfield 13, 5, 2),
  (50, .arraylength, 0, 0),
  (51, .if_icmp .ge 22, 73, 0),
  (54, .aload_n 0, 0, 0),
  (55, .getfield 13, 5, 2),
  (58, .iload_n 2, 0, 0),
  (59, .new 11, 9, 0),
  (62, .dup, 0, 0),
  (63, .invokespecial 36, 105, 0),
  (66, .aastore, 0, 0),
  (67, .iinc 2 1, 0, 0),
  (70, .goto (-25), 45, 0),
  (73, .return_, 0, 0)]
def q_k49 : List (Nat × Instr × Nat × Nat) := [(0, .aload_n 0, 0, 0),
  (1, .invokespecial 3, 914, 0),
  (4, .aload_n 0, 0, 0),
  (5, .new 9, 9, 0),
  (8, .dup, 0, 0),
  (9, .invokespecial 11, 105, 0),
  (12, .putfield 12, 6, 1),
  (15, .aload_n 0, 0, 0),
  (16, .iconst 4, 0, 0),
  (17, .newarray .long, 0, 0),
  (19, .putfield 18, 6, 2),
  (22, .aload_n 0, 0, 0),
  (23, .iconst 4, 0, 0),
  (24, .newarray .int, 0, 0),
  (26, .putfield 22, 6, 3),
  (29, .aload_n 0, 0, 0),
  (30, .iconst 4, 0, 0),
  (31, .newarray .int, 0, 0),
  (33, .putfield 26, 6, 4),
  (36, .aload_n 0, 0, 0),
  (37, .iconst 4, 0, 0),
  (38, .newarray .int, 0, 0),
  (40, .putfield 29, 6, 5),
  (43, .aload_n 0, 0, 0),
  (44, .iconst 4, 0, 0),
  (45, .newarray .int, 0, 0),
  (47, .putfield 32, 6, 6),
  (50, .aload_n 0, 0, 0),
  (51, .bipush 52, 0, 0),
  (53, .newarray .int, 0, 0),
  (55, .putfield 35, 6, 7),
  (58, .aload_n 0, 0, 0),
  (59, .bipush 52, 0, 0),
  (61, .newarray .int, 0, 0),
  (63, .putfield 38, 6, 8),
  (66, .aload_n 0, 0, 0),
  (67, .bipush 78, 0, 0),
  (69, .newarray .int, 0, 0),
  (71, .putfield 41, 6, 9),
  (74, .aload_n 0, 0, 0),
  (75, .aload_n 1, 0, 0),
  (76, .putfield 44, 6, 0),
  (79, .aload_n 0, 0, 0),
  (80, .invokevirtual 48, 50, 0),
  (83, .return_, 0, 0)]
def q_k50 : List (Nat × Instr × Nat × Nat) := [(0, .aload_n 0, 0, 0),
  (1, .getfield 32, 6, 6),
  (4, .iconst 0, 0, 0),
  (5, .invokestatic 51, 311, 2),
  (8, .aload_n 0, 0, 0),
  (9, .iconst 1, 0, 0),
  (10, .putfield 57, 6, 11),
  (13, .aload_n 0, 0, 0),
  (14, .iconst 2, 0, 0),
  (15, .putfield 61, 6, 12),
  (18, .aload_n 0, 0, 0),
  (19, .iconst 0, 0, 0),
  (20, .putfield 64, 6, 13),
  (23, .aload_n 0, 0, 0),
  (24, .iconst (-1), 0, 0),
  (25, .putfield 68, 6, 14),
  (28, .aload_n 0, 0, 0),
  (29, .iconst 0, 0, 0),
  (30, .putfield 71, 6, 15),
  (33, .aload_n 0, 0, 0),
  (34, .iconst 0, 0, 0),
  (35, .putfield 74, 6, 18),
  (38, .aload_n 0, 0, 0),
  (39, .invokevirtual 77, 51, 0),
  (42, .return_, 0, 0)]
def q_k51 : List (Nat × Instr × Nat × Nat) := [(0, .iconst 0, 0, 0),
  (1, .istore_n 1, 0, 0),
  (2, .iload_n 1, 0, 0),
  (3, .aload_n 0, 0, 0),
  (4, .getfield 18, 6, 2),
  (7, .arraylength, 0, 0),
  (8, .if_icmp .ge 16, 24, 0),
  (11, .aload_n 0, 0, 0),
  (12, .getfield 18, 6, 2),
  (15, .iload_n 1, 0, 0),
  (16, .lconst 0, 0, 0),
  (17, .lastore, 0, 0),
  (18, .iinc 1 1, 0, 0),
  (21, .goto (-19), 2, 0),
  (24, .aload_n 0, 0, 0),
  (25, .getfield 22, 6, 3),
  (28, .iconst (-1), 0, 0),
  (29, .invokestatic 51, 311, 2),
  (32, .aload_n 0, 0, 0),
  (33, .getfield 26, 6, 4),
  (36, .iconst 0, 0, 0),
  (37, .invokestatic 51, 311, 2),
  (40, .aload_n 0, 0, 0),
  (41, .getfield 29, 6, 5),
  (44, .iconst 0, 0, 0),
  (45, .invokestatic 51, 311, 2),
  (48, .aload_n 0, 0, 0),
  (49, .lconst 0, 0, 0),
  (50, .putfield 80, 6, 10),
  (53, .aload_n 0, 0, 0),
  (54, .iconst 0, 0, 0),
  (55, .putfield 84, 6, 16),
  (58, .aload_n 0, 0, 0),
  (59, .iconst 0, 0, 0),
  (60, .putfield 87, 6, 17),
  (63, .return_, 0, 0)]
def q_k52 : List (Nat × Instr × Nat × Nat) := [(0, .aload_n 0, 0, 0),
  (1, .getfield 12, 6, 1),
  (4, .aload_n 1, 0, 0),
  (5, .getfield 12, 6, 1),
  (8, .invokevirtual 90, 106, 1),
  (11, .aload_n 1, 0, 0),
  (12, .getfield 18, 6, 2),
  (15, .aload_n 0, 0, 0),
  (16, .getfield 18, 6, 2),
  (19, .invokestatic 94, 313, 2),
  (22, .aload_n 1, 0, 0),
  (23, .getfield 22, 6, 3),
  (26, .aload_n 0, 0, 0),
  (27, .getfield 22, 6, 3),
  (30, .invokestatic 98, 312, 2),
  (33, .aload_n 1, 0, 0),
  (34, .getfield 26, 6, 4),
  (37, .aload_n 0, 0, 0),
  (38, .getfield 26, 6, 4),
  (41, .invokestatic 98, 312, 2),
  (44, .aload_n 1, 0, 0),
  (45, .getfield 29, 6, 5),
  (48, .aload_n 0, 0, 0),
  (49, .getfield 29, 6, 5),
  (52, .invokestatic 98, 312, 2),
  (55, .aload_n 1, 0, 0),
  (56, .getfield 32, 6, 6),
  (59, .aload_n 0, 0, 0),
  (60, .getfield 32, 6, 6),
  (63, .invokestatic 98, 312, 2),
  (66, .aload_n 1, 0, 0),
  (67, .getfield 35, 6, 7),
  (70, .aload_n 0, 0, 0),
  (71, .getfield 35, 6, 7),
  (74, .invokestatic 98, 312, 2),
  (77, .aload_n 1, 0, 0),
  (78, .getfield 38, 6, 8),
  (81, .aload_n 0, 0, 0),
  (82, .getfield 38, 6, 8),
  (85, .invokestatic 98, 312, 2),
  (88, .aload_n 1, 0, 0),
  (89, .getfield 41, 6, 9),
  (92, .aload_n 0, 0, 0),
  (93, .getfield 41, 6, 9),
  (96, .invokestatic 98, 312, 2),
  (99, .aload_n 0, 0, 0),
  (100, .aload_n 1, 0, 0),
  (101, .getfield 80, 6, 10),
  (104, .putfield 80, 6, 10),
  (107, .aload_n 0, 0, 0),
  (108, .aload_n 1, 0, 0),
  (109, .getfield 57, 6, 11),
  (112, .putfield 57, 6, 11),
  (115, .aload_n 0, 0, 0),
  (116, .aload_n 1, 0, 0),
  (117, .getfield 61, 6, 12),
  (120, .putfield 61, 6, 12),
  (123, .aload_n 0, 0, 0),
  (124, .aload_n 1, 0, 0),
  (125, .getfield 64, 6, 13),
  (128, .putfield 64, 6, 13),
  (131, .aload_n 0, 0, 0),
  (132, .aload_n 1, 0, 0),
  (133, .getfield 68, 6, 14),
  (136, .putfield 68, 6, 14),
  (139, .aload_n 0, 0, 0),
  (140, .aload_n 1, 0, 0),
  (141, .getfield 71, 6, 15),
  (144, .putfield 71, 6, 15),
  (147, .aload_n 0, 0, 0),
  (148, .aload_n 1, 0, 0),
  (149, .getfield 84, 6, 16),
  (152, .putfield 84, 6, 16),
  (155, .aload_n 0, 0, 0),
  (156, .aload_n 1, 0, 0),
  (157, .getfield 87, 6, 17),
  (160, .putfield 87, 6, 17),
  (163, .aload_n 0, 0, 0),
  (164, .aload_n 1, 0, 0),
  (165, .getfield 74, 6, 18),
  (168, .putfield 74, 6, 18),
  (171, .return_, 0, 0)]
def q_k53 : List (Nat × Instr × Nat × Nat) := [(0, .aload_n 0, 0, 0),
  (1, .getfield 12, 6, 1),
  (4, .aload_n 0, 0, 0),
  (5, .getfield 71, 6, 15),
  (8, .invokevirtual 102, 107, 1),
  (11, .aload_n 0, 0, 0),
  (12, .invokevirtual 106, 54, 0),
  (15, .return_, 0, 0)]
def q_k54 : List (Nat × Instr × Nat × Nat) := [(0, .aload_n 0, 0, 0),
  (1, .getfield 12, 6, 1),
  (4, .aload_n 0, 0, 0),
  (5, .getfield 68, 6, 14),
  (8, .putfield 109, 9, 7),
  (11, .aload_n 0, 0, 0),
  (12, .getfield 12, 6, 1),
  (15, .aload_n 0, 0, 0),
  (16, .getfield 68, 6, 14),
  (19, .iconst (-1), 0, 0),
  (20, .if_icmp .ne 7, 27, 0),
  (23, .iconst 0, 0, 0),
  (24, .goto 10, 34, 0),
  (27, .aload_n 0, 0, 0),
  (28, .getfield 44, 6, 0),
  (31, .getfield 112, 4, 3),
  (34, .putfield 117, 9, 8),
  (37, .return_, 0, 0)]
def q_k55 : List (Nat × Instr × Nat × Nat) := [(0, .iconst 0, 0, 0),
  (1, .istore_n 2, 0, 0),
  (2, .iconst 0, 0, 0),
  (3, .istore_n 3, 0, 0),
  (4, .iload_n 3, 0, 0),
  (5, .aload_n 0, 0, 0),
  (6, .getfield 44, 6, 0),
  (9, .invokevirtual 120, 31, 0),
  (12, .if_icmp .ge 28, 40, 0),
  (15, .aload_n 0, 0, 0),
  (16, .iload_n 2, 0, 0),
  (17, .aload_n 1, 0, 0),
  (18, .iload_n 3, 0, 0),
  (19, .invokevirtual 124, 14, 1),
  (22, .invokevirtual 130, 59, 2),
  (25, .aload_n 0, 0, 0),
  (26, .getfield 44, 6, 0),
  (29, .iload_n 2, 0, 0),
  (30, .invokevirtual 134, 37, 1),
  (33, .istore_n 2, 0, 0),
  (34, .iinc 3 1, 0, 0),
  (37, .goto (-33), 4, 0),
  (40, .return_, 0, 0)]
def q_k56 : List (Nat × Instr × Nat × Nat) := [(0, .iconst 0, 0, 0),
  (1, .istore_n 2, 0, 0),
  (2, .iload_n 2, 0, 0),
  (3, .aload_n 0, 0, 0),
  (4, .getfield 44, 6, 0),
  (7, .invokevirtual 137, 30, 0),
  (10, .if_icmp .ge 43, 53, 0),
  (13, .aload_n 1, 0, 0),
  (14, .iload_n 2, 0, 0),
  (15, .invokevirtual 124, 14, 1),
  (18, .istore_n 3, 0, 0),
  (19, .aload_n 0, 0, 0),
  (20, .invokevirtual 140, 57, 0),
  (23, .istore 4, 0, 0),
  (25, .iload 4, 0, 0),
  (27, .iconst (-1), 0, 0),
  (28, .if_icmp .eq 19, 47, 0),
  (31, .aload_n 0, 0, 0),
  (32, .iload_n 3, 0, 0),
  (33, .invokevirtual 143, 63, 1),
  (36, .iconst (-1), 0, 0),
  (37, .if_icmp .ne 10, 47, 0),
  (40, .aload_n 0, 0, 0),
  (41, .iload 4, 0, 0),
  (43, .iload_n 3, 0, 0),
  (44, .invokevirtual 130, 59, 2),
  (47, .iinc 2 1, 0, 0),
  (50, .goto (-48), 2, 0),
  (53, .return_, 0, 0)]
def q_k57 : List (Nat × Instr × Nat × Nat) := [(0, .iconst 0, 0, 0),
  (1, .istore_n 1, 0, 0),
  (2, .iload_n 1, 0, 0),
  (3, .aload_n 0, 0, 0),
  (4, .getfield 44, 6, 0),
  (7, .getfield 146, 4, 1),
  (10, .if_icmp .ge 19, 29, 0),
  (13, .aload_n 0, 0, 0),
  (14, .iload_n 1, 0, 0),
  (15, .invokevirtual 149, 58, 1),
  (18, .ifCond .ne 5, 23, 0),
  (21, .iload_n 1, 0, 0),
  (22, .ireturn, 0, 0),
  (23, .iinc 1 1, 0, 0),
  (26, .goto (-24), 2, 0),
  (29, .iconst (-1), 0, 0),
  (30, .ireturn, 0, 0)]
def q_k58 : List (Nat × Instr × Nat × Nat) := [(0, .aload_n 0, 0, 0),
  (1, .iload_n 1, 0, 0),
  (2, .invokevirtual 153, 60, 1),
  (5, .invokestatic 157, 352, 1),
  (8, .aload_n 0, 0, 0),
  (9, .getfield 44, 6, 0),
  (12, .getfield 163, 4, 2),
  (15, .if_icmp .lt 7, 22, 0),
  (18, .iconst 1, 0, 0),
  (19, .goto 4, 23, 0),
  (22, .iconst 0, 0, 0),
  (23, .ireturn, 0, 0)]
def q_k59 : List (Nat × Instr × Nat × Nat) := [(0, .aload_n 0, 0, 0),
  (1, .iload_n 1, 0, 0),
  (2, .aload_n 0, 0, 0),
  (3, .iload_n 1, 0, 0),
  (4, .invokevirtual 153, 60, 1),
  (7, .iload_n 2, 0, 0),
  (8, .invokestatic 166, 315, 2),
  (11, .invokevirtual 170, 61, 2),
  (14, .return_, 0, 0)]
def q_k60 : List (Nat × Instr × Nat × Nat) := [(0, .iload_n 1, 0, 0),
  (1, .ifCond .lt 21, 22, 0),
  (4, .iload_n 1, 0, 0),
  (5, .aload_n 0, 0, 0),
  (6, .getfield 18, 6, 2),
  (9, .arraylength, 0, 0),
  (10, .if_icmp .ge 12, 22, 0),
  (13, .aload_n 0, 0, 0),
  (14, .getfield 18, 6, 2),
  (17, .iload_n 1, 0, 0),
  (18, .laload, 0, 0),
  (19, .goto 4, 23, 0),
  (22, .lconst 0, 0, 0),
  (23, .lreturn, 0, 0)]
def q_k61 : List (Nat × Instr × Nat × Nat) := [(0, .iload_n 1, 0, 0),
  (1, .ifCond .lt 19, 20, 0),
  (4, .iload_n 1, 0, 0),
  (5, .aload_n 0, 0, 0),
  (6, .getfield 18, 6, 2),
  (9, .arraylength, 0, 0),
  (10, .if_icmp .ge 10, 20, 0),
  (13, .aload_n 0, 0, 0),
  (14, .getfield 18, 6, 2),
  (17, .iload_n 1, 0, 0),
  (18, .lload_n 2, 0, 0),
  (19, .lastore, 0, 0),
  (20, .return_, 0, 0)]
def q_k62 : List (Nat × Instr × Nat × Nat) := [(0, .lconst 0, 0, 0),
  (1, .lstore_n 1, 0, 0),
  (2, .iconst 0, 0, 0),
  (3, .istore_n 3, 0, 0),
  (4, .iload_n 3, 0, 0),
  (5, .aload_n 0, 0, 0),
  (6, .getfield 18, 6, 2),
  (9, .arraylength, 0, 0),
  (10, .if_icmp .ge 18, 28, 0),
  (13, .lload_n 1, 0, 0),
  (14, .aload_n 0, 0, 0),
  (15, .getfield 18, 6, 2),
  (18, .iload_n 3, 0, 0),
  (19, .laload, 0, 0),
  (20, .lor, 0, 0),
  (21, .lstore_n 1, 0, 0),
  (22, .iinc 3 1, 0, 0),
  (25, .goto (-21), 4, 0),
  (28, .lload_n 1, 0, 0),
  (29, .lreturn, 0, 0)]
def q_k63 : List (Nat × Instr × Nat × Nat) := [(0, .iconst 0, 0, 0),
  (1, .istore_n 2, 0, 0),
  (2, .iload_n 2, 0, 0),
  (3, .aload_n 0, 0, 0),
  (4, .getfield 44, 6, 0),
  (7, .getfield 146, 4, 1),
  (10, .if_icmp .ge 23, 33, 0),
  (13, .aload_n 0, 0, 0),
  (14, .iload_n 2, 0, 0),
  (15, .invokevirtual 153, 60, 1),
  (18, .iload_n 1, 0, 0),
  (19, .invokestatic 174, 314, 2),
  (22, .ifCond .eq 5, 27, 0),
  (25, .iload_n 2, 0, 0),
  (26, .ireturn, 0, 0),
  (27, .iinc 2 1, 0, 0),
  (30, .goto (-28), 2, 0),
  (33, .iconst (-1), 0, 0),
  (34, .ireturn, 0, 0)]
def q_k64 : List (Nat × Instr × Nat × Nat) := [(0, .aload_n 0, 0, 0),
  (1, .getfield 84, 6, 16),
  (4, .aload_n 0, 0, 0),
  (5, .getfield 44, 6, 0),
  (8, .invokevirtual 120, 31, 0),
  (11, .if_icmp .lt 7, 18, 0),
  (14, .iconst 1, 0, 0),
  (15, .goto 4, 19, 0),
  (18, .iconst 0, 0, 0),
  (19, .ireturn, 0, 0)]
def q_k65 : List (Nat × Instr × Nat × Nat) := [(0, .aload_n 0, 0, 0),
  (1, .invokevirtual 178, 64, 0),
  (4, .ifCond .eq 7, 11, 0),
  (7, .lconst 0, 0, 0),
  (8, .goto 29, 37, 0),
  (11, .aload_n 0, 0, 0),
  (12, .getfield 12, 6, 1),
  (15, .aload_n 0, 0, 0),
  (16, .getfield 44, 6, 0),
  (19, .aload_n 0, 0, 0),
  (20, .aload_n 0, 0, 0),
  (21, .getfield 12, 6, 1),
  (24, .getfield 182, 9, 1),
  (27, .invokevirtual 153, 60, 1),
  (30, .aload_n 0, 0, 0),
  (31, .getfield 57, 6, 11),
  (34, .invokevirtual 185, 114, 3),
  (37, .lreturn, 0, 0)]
def q_k66 : List (Nat × Instr × Nat × Nat) := [(0, .aload_n 0, 0, 0),
  (1, .getfield 12, 6, 1),
  (4, .getfield 182, 9, 1),
  (7, .istore_n 2, 0, 0),
  (8, .aload_n 0, 0, 0),
  (9, .iload_n 2, 0, 0),
  (10, .aload_n 0, 0, 0),
  (11, .getfield 44, 6, 0),
  (14, .iload_n 1, 0, 0),
  (15, .invokevirtual 189, 33, 1),
  (18, .invokevirtual 192, 67, 2),
  (21, .aload_n 0, 0, 0),
  (22, .iload_n 2, 0, 0),
  (23, .aload_n 0, 0, 0),
  (24, .iload_n 2, 0, 0),
  (25, .invokevirtual 153, 60, 1),
  (28, .iload_n 1, 0, 0),
  (29, .invokestatic 195, 316, 2),
  (32, .invokevirtual 170, 61, 2),
  (35, .aload_n 0, 0, 0),
  (36, .aload_n 0, 0, 0),
  (37, .getfield 80, 6, 10),
  (40, .iload_n 1, 0, 0),
  (41, .invokestatic 166, 315, 2),
  (44, .putfield 80, 6, 10),
  (47, .aload_n 0, 0, 0),
  (48, .getfield 35, 6, 7),
  (51, .aload_n 0, 0, 0),
  (52, .getfield 84, 6, 16),
  (55, .iload_n 1, 0, 0),
  (56, .invokestatic 198, 310, 3),
  (59, .aload_n 0, 0, 0),
  (60, .getfield 38, 6, 8),
  (63, .aload_n 0, 0, 0),
  (64, .getfield 84, 6, 16),
  (67, .iload_n 2, 0, 0),
  (68, .invokestatic 198, 310, 3),
  (71, .aload_n 0, 0, 0),
  (72, .dup, 0, 0),
  (73, .getfield 84, 6, 16),
  (76, .iconst 1, 0, 0),
  (77, .iadd, 0, 0),
  (78, .putfield 84, 6, 16),
  (81, .aload_n 0, 0, 0),
  (82, .getfield 12, 6, 1),
  (85, .aload_n 0, 0, 0),
  (86, .getfield 44, 6, 0),
  (89, .iload_n 1, 0, 0),
  (90, .invokevirtual 202, 111, 2),
  (93, .aload_n 0, 0, 0),
  (94, .getfield 12, 6, 1),
  (97, .getfield 206, 9, 2),
  (100, .aload_n 0, 0, 0),
  (101, .getfield 44, 6, 0),
  (104, .getfield 146, 4, 1),
  (107, .if_icmp .lt 7, 114, 0),
  (110, .aload_n 0, 0, 0),
  (111, .invokevirtual 209, 68, 0),
  (114, .return_, 0, 0)]
def q_k67 : List (Nat × Instr × Nat × Nat) := [(0, .aload_n 0, 0, 0),
  (1, .getfield 57, 6, 11),
  (4, .ifCond .eq 50, 54, 0),
  (7, .aload_n 0, 0, 0),
  (8, .getfield 12, 6, 1),
  (11, .getfield 206, 9, 2),
  (14, .ifCond .le 40, 54, 0),
  (17, .iload_n 2, 0, 0),
  (18, .aload_n 0, 0, 0),
  (19, .getfield 12, 6, 1),
  (22, .getfield 212, 9, 3),
  (25, .if_icmp .eq 29, 54, 0),
  (28, .aload_n 0, 0, 0),
  (29, .getfield 29, 6, 5),
  (32, .iload_n 1, 0, 0),
  (33, .aload_n 0, 0, 0),
  (34, .getfield 29, 6, 5),
  (37, .iload_n 1, 0, 0),
  (38, .invokestatic 215, 309, 2),
  (41, .iconst 1, 0, 0),
  (42, .aload_n 0, 0, 0),
  (43, .getfield 12, 6, 1),
  (46, .getfield 212, 9, 3),
  (49, .ishl, 0, 0),
  (50, .ior, 0, 0),
  (51, .invokestatic 198, 310, 3),
  (54, .return_, 0, 0)]
def q_k68 : List (Nat × Instr × Nat × Nat) := [(0, .aload_n 0, 0, 0),
  (1, .getfield 87, 6, 17),
  (4, .bipush 6, 0, 0),
  (6, .imul, 0, 0),
  (7, .istore_n 1, 0, 0),
  (8, .aload_n 0, 0, 0),
  (9, .getfield 41, 6, 9),
  (12, .iload_n 1, 0, 0),
  (13, .aload_n 0, 0, 0),
  (14, .getfield 12, 6, 1),
  (17, .getfield 219, 9, 0),
  (20, .invokestatic 198, 310, 3),
  (23, .aload_n 0, 0, 0),
  (24, .getfield 41, 6, 9),
  (27, .iload_n 1, 0, 0),
  (28, .iconst 1, 0, 0),
  (29, .iadd, 0, 0),
  (30, .aload_n 0, 0, 0),
  (31, .getfield 12, 6, 1),
  (34, .getfield 222, 9, 6),
  (37, .invokestatic 198, 310, 3),
  (40, .aload_n 0, 0, 0),
  (41, .getfield 41, 6, 9),
  (44, .iload_n 1, 0, 0),
  (45, .iconst 2, 0, 0),
  (46, .iadd, 0, 0),
  (47, .aload_n 0, 0, 0),
  (48, .getfield 12, 6, 1),
  (51, .getfield 225, 9, 5),
  (54, .invokestatic 198, 310, 3),
  (57, .aload_n 0, 0, 0),
  (58, .getfield 41, 6, 9),
  (61, .iload_n 1, 0, 0),
  (62, .iconst 3, 0, 0),
  (63, .iadd, 0, 0),
  (64, .aload_n 0, 0, 0),
  (65, .getfield 12, 6, 1),
  (68, .getfield 212, 9, 3),
  (71, .invokestatic 198, 310, 3),
  (74, .aload_n 0, 0, 0),
  (75, .getfield 41, 6, 9),
  (78, .iload_n 1, 0, 0),
  (79, .iconst 4, 0, 0),
  (80, .iadd, 0, 0),
  (81, .aload_n 0, 0, 0),
  (82, .getfield 12, 6, 1),
  (85, .getfield 109, 9, 7),
  (88, .invokestatic 198, 310, 3),
  (91, .aload_n 0, 0, 0),
  (92, .getfield 41, 6, 9),
  (95, .iload_n 1, 0, 0),
  (96, .iconst 5, 0, 0),
  (97, .iadd, 0, 0),
  (98, .aload_n 0, 0, 0),
  (99, .getfield 12, 6, 1),
  (102, .getfield 117, 9, 8),
  (105, .invokestatic 198, 310, 3),
  (108, .aload_n 0, 0, 0),
  (109, .dup, 0, 0),
  (110, .getfield 87, 6, 17),
  (113, .iconst 1, 0, 0),
  (114, .iadd, 0, 0),
  (115, .putfield 87, 6, 17),
  (118, .aload_n 0, 0, 0),
  (119, .getfield 26, 6, 4),
  (122, .aload_n 0, 0, 0),
  (123, .getfield 12, 6, 1),
  (126, .getfield 222, 9, 6),
  (129, .aload_n 0, 0, 0),
  (130, .getfield 26, 6, 4),
  (133, .aload_n 0, 0, 0),
  (134, .getfield 12, 6, 1),
  (137, .getfield 222, 9, 6),
  (140, .invokestatic 215, 309, 2),
  (143, .iconst 1, 0, 0),
  (144, .iadd, 0, 0),
  (145, .invokestatic 198, 310, 3),
  (148, .aload_n 0, 0, 0),
  (149, .getfield 12, 6, 1),
  (152, .aload_n 0, 0, 0),
  (153, .getfield 44, 6, 0),
  (156, .aload_n 0, 0, 0),
  (157, .getfield 61, 6, 12),
  (160, .aload_n 0, 0, 0),
  (161, .getfield 64, 6, 13),
  (164, .invokevirtual 228, 112, 3),
  (167, .aload_n 0, 0, 0),
  (168, .invokevirtual 178, 64, 0),
  (171, .ifCond .eq 7, 178, 0),
  (174, .aload_n 0, 0, 0),
  (175, .invokevirtual 232, 69, 0),
  (178, .return_, 0, 0)]
def q_k69 : List (Nat × Instr × Nat × Nat) := [(0, .aload_n 0, 0, 0),
  (1, .dup, 0, 0),
  (2, .getfield 74, 6, 18),
  (5, .iconst 1, 0, 0),
  (6, .iadd, 0, 0),
  (7, .putfield 74, 6, 18),
  (10, .iconst 0, 0, 0),
  (11, .istore_n 1, 0, 0),
  (12, .iload_n 1, 0, 0),
  (13, .aload_n 0, 0, 0),
  (14, .getfield 44, 6, 0),
  (17, .getfield 146, 4, 1),
  (20, .if_icmp .ge 31, 51, 0),
  (23, .aload_n 0, 0, 0),
  (24, .getfield 32, 6, 6),
  (27, .iload_n 1, 0, 0),
  (28, .aload_n 0, 0, 0),
  (29, .getfield 32, 6, 6),
  (32, .iload_n 1, 0, 0),
  (33, .invokestatic 215, 309, 2),
  (36, .aload_n 0, 0, 0),
  (37, .iload_n 1, 0, 0),
  (38, .invokevirtual 235, 70, 1),
  (41, .iadd, 0, 0),
  (42, .invokestatic 198, 310, 3),
  (45, .iinc 1 1, 0, 0),
  (48, .goto (-36), 12, 0),
  (51, .return_, 0, 0)]
def q_k70 : List (Nat × Instr × Nat × Nat) := [(0, .aload_n 0, 0, 0),
  (1, .getfield 26, 6, 4),
  (4, .iload_n 1, 0, 0),
  (5, .invokestatic 215, 309, 2),
  (8, .istore_n 2, 0, 0),
  (9, .aload_n 0, 0, 0),
  (10, .getfield 22, 6, 3),
  (13, .iload_n 1, 0, 0),
  (14, .invokestatic 215, 309, 2),
  (17, .istore_n 3, 0, 0),
  (18, .iload_n 3, 0, 0),
  (19, .iconst (-1), 0, 0),
  (20, .if_icmp .ne 5, 25, 0),
  (23, .iload_n 2, 0, 0),
  (24, .ireturn, 0, 0),
  (25, .iload_n 3, 0, 0),
  (26, .iload_n 2, 0, 0),
  (27, .if_icmp .ne 10, 37, 0),
  (30, .bipush 10, 0, 0),
  (32, .iload_n 3, 0, 0),
  (33, .iadd, 0, 0),
  (34, .goto 10, 44, 0),
  (37, .iload_n 3, 0, 0),
  (38, .iload_n 2, 0, 0),
  (39, .isub, 0, 0),
  (40, .invokestatic 238, 912, 1),
  (43, .ineg, 0, 0),
  (44, .ireturn, 0, 0)]
def q_k74 : List (Nat × Instr × Nat × Nat) := [(0, .aload_n 0, 0, 0),
  (1, .getfield 12, 6, 1),
  (4, .getfield 206, 9, 2),
  (7, .ifCond .ne 10, 17, 0),
  (10, .aload_n 0, 0, 0),
  (11, .invokevirtual 256, 75, 0),
  (14, .goto 7, 21, 0),
  (17, .aload_n 0, 0, 0),
  (18, .invokevirtual 259, 76, 0),
  (21, .ireturn, 0, 0)]
def q_k75 : List (Nat × Instr × Nat × Nat) := [(0, .aload_n 0, 0, 0),
  (1, .invokevirtual 262, 65, 0),
  (4, .lstore_n 1, 0, 0),
  (5, .iconst (-1), 0, 0),
  (6, .istore_n 3, 0, 0),
  (7, .iconst 0, 0, 0),
  (8, .istore 4, 0, 0),
  (10, .iconst 0, 0, 0),
  (11, .istore 5, 0, 0),
  (13, .iload 5, 0, 0),
  (15, .aload_n 0, 0, 0),
  (16, .getfield 44, 6, 0),
  (19, .invokevirtual 137, 30, 0),
  (22, .if_icmp .ge 47, 69, 0),
  (25, .aload_n 0, 0, 0),
  (26, .getfield 12, 6, 1),
  (29, .aload_n 0, 0, 0),
  (30, .getfield 44, 6, 0),
  (33, .iload 5, 0, 0),
  (35, .invokevirtual 265, 108, 2),
  (38, .istore 6, 0, 0),
  (40, .lload_n 1, 0, 0),
  (41, .iload 5, 0, 0),
  (43, .invokestatic 174, 314, 2),
  (46, .ifCond .eq 17, 63, 0),
  (49, .iload 6, 0, 0),
  (51, .iload 4, 0, 0),
  (53, .if_icmp .le 10, 63, 0),
  (56, .iload 5, 0, 0),
  (58, .istore_n 3, 0, 0),
  (59, .iload 6, 0, 0),
  (61, .istore 4, 0, 0),
  (63, .iinc 5 1, 0, 0),
  (66, .goto (-53), 13, 0),
  (69, .iload_n 3, 0, 0),
  (70, .ireturn, 0, 0)]
def q_k76 : List (Nat × Instr × Nat × Nat) := [(0, .aload_n 0, 0, 0),
  (1, .invokevirtual 262, 65, 0),
  (4, .lstore_n 1, 0, 0),
  (5, .iconst (-1), 0, 0),
  (6, .istore_n 3, 0, 0),
  (7, .iconst (-1), 0, 0),
  (8, .istore 4, 0, 0),
  (10, .iconst 0, 0, 0),
  (11, .istore 5, 0, 0),
  (13, .iload 5, 0, 0),
  (15, .aload_n 0, 0, 0),
  (16, .getfield 44, 6, 0),
  (19, .invokevirtual 137, 30, 0),
  (22, .if_icmp .ge 81, 103, 0),
  (25, .lload_n 1, 0, 0),
  (26, .iload 5, 0, 0),
  (28, .invokestatic 174, 314, 2),
  (31, .ifCond .ne 6, 37, 0),
  (34, .goto 63, 97, 0),
  (37, .aload_n 0, 0, 0),
  (38, .getfield 12, 6, 1),
  (41, .aload_n 0, 0, 0),
  (42, .getfield 44, 6, 0),
  (45, .iload 5, 0, 0),
  (47, .invokevirtual 268, 110, 2),
  (50, .ifCond .eq 16, 66, 0),
  (53, .aload_n 0, 0, 0),
  (54, .iload 5, 0, 0),
  (56, .iload_n 3, 0, 0),
  (57, .invokevirtual 272, 77, 2),
  (60, .ifCond .eq 6, 66, 0),
  (63, .iload 5, 0, 0),
  (65, .istore_n 3, 0, 0),
  (66, .iload 4, 0, 0),
  (68, .iconst (-1), 0, 0),
  (69, .if_icmp .eq 24, 93, 0),
  (72, .aload_n 0, 0, 0),
  (73, .getfield 44, 6, 0),
  (76, .iload 5, 0, 0),
  (78, .invokevirtual 276, 34, 1),
  (81, .aload_n 0, 0, 0),
  (82, .getfield 44, 6, 0),
  (85, .iload 4, 0, 0),
  (87, .invokevirtual 276, 34, 1),
  (90, .if_icmp .ge 7, 97, 0),
  (93, .iload 5, 0, 0),
  (95, .istore 4, 0, 0),
  (97, .iinc 5 1, 0, 0),
  (100, .goto (-87), 13, 0),
  (103, .iload_n 3, 0, 0),
  (104, .iconst (-1), 0, 0),
  (105, .if_icmp .eq 7, 112, 0),
  (108, .iload_n 3, 0, 0),
  (109, .goto 5, 114, 0),
  (112, .iload 4, 0, 0),
  (114, .ireturn, 0, 0)]
def q_k77 : List (Nat × Instr × Nat × Nat) := [(0, .iload_n 2, 0, 0),
  (1, .iconst (-1), 0, 0),
  (2, .if_icmp .eq 30, 32, 0),
  (5, .aload_n 0, 0, 0),
  (6, .getfield 12, 6, 1),
  (9, .aload_n 0, 0, 0),
  (10, .getfield 44, 6, 0),
  (13, .iload_n 1, 0, 0),
  (14, .invokevirtual 265, 108, 2),
  (17, .aload_n 0, 0, 0),
  (18, .getfield 12, 6, 1),
  (21, .aload_n 0, 0, 0),
  (22, .getfield 44, 6, 0),
  (25, .iload_n 2, 0, 0),
  (26, .invokevirtual 265, 108, 2),
  (29, .if_icmp .ge 7, 36, 0),
  (32, .iconst 1, 0, 0),
  (33, .goto 4, 37, 0),
  (36, .iconst 0, 0, 0),
  (37, .ireturn, 0, 0)]
def q_k78 : List (Nat × Instr × Nat × Nat) := [(0, .aload_n 0, 0, 0),
  (1, .invokespecial 3, 914, 0),
  (4, .aload_n 0, 0, 0),
  (5, .new 9, 4, 0),
  (8, .dup, 0, 0),
  (9, .invokespecial 11, 28, 0),
  (12, .putfield 12, 7, 0),
  (15, .aload_n 0, 0, 0),
  (16, .new 18, 6, 0),
  (19, .dup, 0, 0),
  (20, .aload_n 0, 0, 0),
  (21, .getfield 12, 7, 0),
  (24, .invokespecial 20, 49, 1),
  (27, .putfield 23, 7, 1),
  (30, .aload_n 0, 0, 0),
  (31, .aload_n 1, 0, 0),
  (32, .putfield 27, 7, 2),
  (35, .aload_n 0, 0, 0),
  (36, .aload_n 2, 0, 0),
  (37, .putfield 31, 7, 3),
  (40, .return_, 0, 0)]
def q_k79 : List (Nat × Instr × Nat × Nat) := [(0, .aload_n 0, 0, 0),
  (1, .getfield 27, 7, 2),
  (4, .iload_n 1, 0, 0),
  (5, .invokevirtual 35, 89, 1),
  (8, .aload_n 0, 0, 0),
  (9, .getfield 23, 7, 1),
  (12, .invokevirtual 41, 50, 0),
  (15, .aload_n 0, 0, 0),
  (16, .invokevirtual 44, 80, 0),
  (19, .aload_n 0, 0, 0),
  (20, .invokevirtual 47, 81, 0),
  (23, .aload_n 0, 0, 0),
  (24, .invokevirtual 50, 82, 0),
  (27, .iconst 0, 0, 0),
  (28, .istore_n 2, 0, 0),
  (29, .iload_n 2, 0, 0),
  (30, .iload_n 1, 0, 0),
  (31, .if_icmp .ge 34, 65, 0),
  (34, .aload_n 0, 0, 0),
  (35, .getfield 27, 7, 2),
  (38, .invokevirtual 53, 93, 0),
  (41, .ifCond .ne 24, 65, 0),
  (44, .aload_n 0, 0, 0),
  (45, .getfield 27, 7, 2),
  (48, .invokevirtual 57, 95, 0),
  (51, .ifCond .ne 14, 65, 0),
  (54, .aload_n 0, 0, 0),
  (55, .iload_n 1, 0, 0),
  (56, .invokevirtual 60, 83, 1),
  (59, .iinc 2 1, 0, 0),
  (62, .goto (-33), 29, 0),
  (65, .aload_n 0, 0, 0),
  (66, .getfield 27, 7, 2),
  (69, .invokevirtual 53, 93, 0),
  (72, .ifCond .ne 7, 79, 0),
  (75, .aload_n 0, 0, 0),
  (76, .invokevirtual 63, 87, 0),
  (79, .aload_n 0, 0, 0),
  (80, .getfield 27, 7, 2),
  (83, .getfield 66, 8, 6),
  (86, .ireturn, 0, 0)]
def q_k80 : List (Nat × Instr × Nat × Nat) := [(0, .aload_n 0, 0, 0),
  (1, .getfield 27, 7, 2),
  (4, .ldc 70, 1, 0),
  (6, .invokevirtual 72, 101, 1),
  (9, .aload_n 0, 0, 0),
  (10, .getfield 12, 7, 0),
  (13, .aload_n 0, 0, 0),
  (14, .getfield 27, 7, 2),
  (17, .iconst 4, 0, 0),
  (18, .bipush 13, 0, 0),
  (20, .invokevirtual 76, 104, 2),
  (23, .putfield 80, 4, 0),
  (26, .aload_n 0, 0, 0),
  (27, .getfield 12, 7, 0),
  (30, .aload_n 0, 0, 0),
  (31, .getfield 27, 7, 2),
  (34, .iconst 2, 0, 0),
  (35, .iconst 4, 0, 0),
  (36, .invokevirtual 76, 104, 2),
  (39, .putfield 83, 4, 1),
  (42, .aload_n 0, 0, 0),
  (43, .getfield 12, 7, 0),
  (46, .aload_n 0, 0, 0),
  (47, .getfield 27, 7, 2),
  (50, .iconst 1, 0, 0),
  (51, .aload_n 0, 0, 0),
  (52, .getfield 12, 7, 0),
  (55, .invokevirtual 86, 32, 0),
  (58, .invokevirtual 76, 104, 2),
  (61, .putfield 90, 4, 2),
  (64, .aload_n 0, 0, 0),
  (65, .getfield 27, 7, 2),
  (68, .ldc 93, 1, 1),
  (70, .invokevirtual 95, 99, 1),
  (73, .ifCond .eq 19, 92, 0),
  (76, .aload_n 0, 0, 0),
  (77, .getfield 23, 7, 1),
  (80, .aload_n 0, 0, 0),
  (81, .getfield 27, 7, 2),
  (84, .iconst 0, 0, 0),
  (85, .iconst 3, 0, 0),
  (86, .invokevirtual 76, 104, 2),
  (89, .putfield 99, 6, 11),
  (92, .return_, 0, 0)]
def q_k81 : List (Nat × Instr × Nat × Nat) := [(0, .aload_n 0, 0, 0),
  (1, .getfield 12, 7, 0),
  (4, .bipush 10, 0, 0),
  (6, .putfield 101, 4, 3),
  (9, .aload_n 0, 0, 0),
  (10, .getfield 27, 7, 2),
  (13, .ldc 104, 1, 2),
  (15, .invokevirtual 95, 99, 1),
  (18, .ifCond .ne 4, 22, 0),
  (21, .return_, 0, 0),
  (22, .aload_n 0, 0, 0),
  (23, .getfield 23, 7, 1),
  (26, .aload_n 0, 0, 0),
  (27, .getfield 27, 7, 2),
  (30, .iconst 0, 0, 0),
  (31, .iconst 3, 0, 0),
  (32, .invokevirtual 76, 104, 2),
  (35, .putfield 106, 6, 14),
  (38, .aload_n 0, 0, 0),
  (39, .getfield 27, 7, 2),
  (42, .ldc 109, 1, 3),
  (44, .invokevirtual 95, 99, 1),
  (47, .ifCond .eq 20, 67, 0),
  (50, .aload_n 0, 0, 0),
  (51, .getfield 12, 7, 0),
  (54, .aload_n 0, 0, 0),
  (55, .getfield 27, 7, 2),
  (58, .iconst 0, 0, 0),
  (59, .bipush 30, 0, 0),
  (61, .invokevirtual 76, 104, 2),
  (64, .putfield 101, 4, 3),
  (67, .aload_n 0, 0, 0),
  (68, .getfield 27, 7, 2),
  (71, .ldc 111, 1, 4),
  (73, .invokevirtual 95, 99, 1),
  (76, .ifCond .eq 20, 96, 0),
  (79, .aload_n 0, 0, 0),
  (80, .getfield 23, 7, 1),
  (83, .aload_n 0, 0, 0),
  (84, .getfield 27, 7, 2),
  (87, .iconst 0, 0, 0),
  (88, .bipush 9, 0, 0),
  (90, .invokevirtual 76, 104, 2),
  (93, .putfield 113, 6, 12),
  (96, .aload_n 0, 0, 0),
  (97, .getfield 23, 7, 1),
  (100, .aload_n 0, 0, 0),
  (101, .getfield 27, 7, 2),
  (104, .ldc 115, 1, 5),
  (106, .invokevirtual 95, 99, 1),
  (109, .putfield 117, 6, 13),
  (112, .return_, 0, 0)]
def q_k82 : List (Nat × Instr × Nat × Nat) := [(0, .aload_n 0, 0, 0),
  (1, .iconst 0, 0, 0),
  (2, .putfield 120, 7, 4),
  (5, .aload_n 0, 0, 0),
  (6, .getfield 27, 7, 2),
  (9, .ldc 123, 1, 6),
  (11, .invokevirtual 95, 99, 1),
  (14, .ifCond .eq 27, 41, 0),
  (17, .aload_n 0, 0, 0),
  (18, .getfield 23, 7, 1),
  (21, .aload_n 0, 0, 0),
  (22, .getfield 27, 7, 2),
  (25, .iconst 0, 0, 0),
  (26, .aload_n 0, 0, 0),
  (27, .getfield 12, 7, 0),
  (30, .getfield 83, 4, 1),
  (33, .iconst 1, 0, 0),
  (34, .isub, 0, 0),
  (35, .invokevirtual 76, 104, 2),
  (38, .putfield 125, 6, 15),
  (41, .aload_n 0, 0, 0),
  (42, .getfield 27, 7, 2),
  (45, .ldc 128, 1, 7),
  (47, .invokevirtual 95, 99, 1),
  (50, .ifCond .eq 17, 67, 0),
  (53, .aload_n 0, 0, 0),
  (54, .aload_n 0, 0, 0),
  (55, .getfield 27, 7, 2),
  (58, .iconst 0, 0, 0),
  (59, .ldc 129, 0, 99999),
  (61, .invokevirtual 76, 104, 2),
  (64, .putfield 120, 7, 4),
  (67, .aload_n 0, 0, 0),
  (68, .getfield 27, 7, 2),
  (71, .bipush 59, 0, 0),
  (73, .invokevirtual 130, 102, 1),
  (76, .return_, 0, 0)]
def q_k83 : List (Nat × Instr × Nat × Nat) := [(0, .aload_n 0, 0, 0),
  (1, .getfield 27, 7, 2),
  (4, .ldc 133, 1, 8),
  (6, .invokevirtual 95, 99, 1),
  (9, .ifCond .eq 11, 20, 0),
  (12, .aload_n 0, 0, 0),
  (13, .iload_n 1, 0, 0),
  (14, .invokevirtual 135, 84, 1),
  (17, .goto 30, 47, 0),
  (20, .aload_n 0, 0, 0),
  (21, .getfield 27, 7, 2),
  (24, .ldc 138, 1, 9),
  (26, .invokevirtual 95, 99, 1),
  (29, .ifCond .eq 10, 39, 0),
  (32, .aload_n 0, 0, 0),
  (33, .invokevirtual 140, 86, 0),
  (36, .goto 11, 47, 0),
  (39, .aload_n 0, 0, 0),
  (40, .getfield 27, 7, 2),
  (43, .iconst 1, 0, 0),
  (44, .invokevirtual 143, 94, 1),
  (47, .aload_n 0, 0, 0),
  (48, .getfield 27, 7, 2),
  (51, .bipush 59, 0, 0),
  (53, .invokevirtual 130, 102, 1),
  (56, .return_, 0, 0)]
def q_k84 : List (Nat × Instr × Nat × Nat) := [(0, .aload_n 0, 0, 0),
  (1, .getfield 27, 7, 2),
  (4, .iconst 0, 0, 0),
  (5, .aload_n 0, 0, 0),
  (6, .getfield 12, 7, 0),
  (9, .getfield 83, 4, 1),
  (12, .iconst 1, 0, 0),
  (13, .isub, 0, 0),
  (14, .invokevirtual 76, 104, 2),
  (17, .istore_n 2, 0, 0),
  (18, .aload_n 0, 0, 0),
  (19, .iload_n 2, 0, 0),
  (20, .invokevirtual 146, 85, 1),
  (23, .iconst 0, 0, 0),
  (24, .istore_n 3, 0, 0),
  (25, .iload_n 3, 0, 0),
  (26, .iload_n 1, 0, 0),
  (27, .if_icmp .ge 34, 61, 0),
  (30, .aload_n 0, 0, 0),
  (31, .getfield 27, 7, 2),
  (34, .invokevirtual 53, 93, 0),
  (37, .ifCond .ne 24, 61, 0),
  (40, .aload_n 0, 0, 0),
  (41, .getfield 27, 7, 2),
  (44, .invokevirtual 149, 96, 0),
  (47, .ifCond .eq 14, 61, 0),
  (50, .aload_n 0, 0, 0),
  (51, .iload_n 2, 0, 0),
  (52, .invokevirtual 146, 85, 1),
  (55, .iinc 3 1, 0, 0),
  (58, .goto (-33), 25, 0),
  (61, .return_, 0, 0)]
def q_k85 : List (Nat × Instr × Nat × Nat) := [(0, .aload_n 0, 0, 0),
  (1, .getfield 27, 7, 2),
  (4, .iconst 0, 0, 0),
  (5, .aload_n 0, 0, 0),
  (6, .getfield 12, 7, 0),
  (9, .invokevirtual 152, 30, 0),
  (12, .iconst 1, 0, 0),
  (13, .isub, 0, 0),
  (14, .invokevirtual 155, 103, 2),
  (17, .istore_n 2, 0, 0),
  (18, .aload_n 0, 0, 0),
  (19, .getfield 23, 7, 1),
  (22, .iload_n 2, 0, 0),
  (23, .invokevirtual 158, 63, 1),
  (26, .iconst (-1), 0, 0),
  (27, .if_icmp .ne 14, 41, 0),
  (30, .aload_n 0, 0, 0),
  (31, .getfield 23, 7, 1),
  (34, .iload_n 1, 0, 0),
  (35, .invokevirtual 162, 58, 1),
  (38, .ifCond .eq 11, 49, 0),
  (41, .aload_n 0, 0, 0),
  (42, .getfield 27, 7, 2),
  (45, .iconst 3, 0, 0),
  (46, .invokevirtual 143, 94, 1),
  (49, .aload_n 0, 0, 0),
  (50, .getfield 27, 7, 2),
  (53, .invokevirtual 53, 93, 0),
  (56, .ifCond .ne 19, 75, 0),
  (59, .aload_n 0, 0, 0),
  (60, .getfield 23, 7, 1),
  (63, .iload_n 1, 0, 0),
  (64, .iload_n 2, 0, 0),
  (65, .invokevirtual 166, 59, 2),
  (68, .aload_n 0, 0, 0),
  (69, .getfield 27, 7, 2),
  (72, .invokevirtual 170, 90, 0),
  (75, .return_, 0, 0)]
def q_k86 : List (Nat × Instr × Nat × Nat) := [(0, .aload_n 0, 0, 0),
  (1, .getfield 27, 7, 2),
  (4, .iconst 0, 0, 0),
  (5, .aload_n 0, 0, 0),
  (6, .getfield 12, 7, 0),
  (9, .getfield 83, 4, 1),
  (12, .iconst 1, 0, 0),
  (13, .isub, 0, 0),
  (14, .invokevirtual 155, 103, 2),
  (17, .istore_n 1, 0, 0),
  (18, .aload_n 0, 0, 0),
  (19, .getfield 23, 7, 1),
  (22, .getfield 173, 6, 3),
  (25, .iload_n 1, 0, 0),
  (26, .invokestatic 177, 309, 2),
  (29, .iconst (-1), 0, 0),
  (30, .if_icmp .eq 11, 41, 0),
  (33, .aload_n 0, 0, 0),
  (34, .getfield 27, 7, 2),
  (37, .iconst 3, 0, 0),
  (38, .invokevirtual 143, 94, 1),
  (41, .aload_n 0, 0, 0),
  (42, .getfield 27, 7, 2),
  (45, .iconst 0, 0, 0),
  (46, .aload_n 0, 0, 0),
  (47, .getfield 12, 7, 0),
  (50, .getfield 83, 4, 1),
  (53, .iconst 1, 0, 0),
  (54, .isub, 0, 0),
  (55, .invokevirtual 76, 104, 2),
  (58, .pop, 0, 0),
  (59, .aload_n 0, 0, 0),
  (60, .getfield 27, 7, 2),
  (63, .iconst 0, 0, 0),
  (64, .aload_n 0, 0, 0),
  (65, .getfield 12, 7, 0),
  (68, .getfield 90, 4, 2),
  (71, .invokevirtual 76, 104, 2),
  (74, .istore_n 2, 0, 0),
  (75, .aload_n 0, 0, 0),
  (76, .getfield 27, 7, 2),
  (79, .invokevirtual 53, 93, 0),
  (82, .ifCond .ne 15, 97, 0),
  (85, .aload_n 0, 0, 0),
  (86, .getfield 23, 7, 1),
  (89, .getfield 173, 6, 3),
  (92, .iload_n 1, 0, 0),
  (93, .iload_n 2, 0, 0),
  (94, .invokestatic 183, 310, 3),
  (97, .return_, 0, 0)]
def q_k87 : List (Nat × Instr × Nat × Nat) := [(0, .aload_n 0, 0, 0),
  (1, .getfield 31, 7, 3),
  (4, .aload_n 0, 0, 0),
  (5, .getfield 120, 7, 4),
  (8, .aload_n 0, 0, 0),
  (9, .getfield 12, 7, 0),
  (12, .invokevirtual 152, 30, 0),
  (15, .invokevirtual 187, 12, 2),
  (18, .aload_n 0, 0, 0),
  (19, .getfield 23, 7, 1),
  (22, .invokevirtual 192, 62, 0),
  (25, .lconst 0, 0, 0),
  (26, .lcmp, 0, 0),
  (27, .ifCond .ne 17, 44, 0),
  (30, .aload_n 0, 0, 0),
  (31, .getfield 23, 7, 1),
  (34, .aload_n 0, 0, 0),
  (35, .getfield 31, 7, 3),
  (38, .invokevirtual 196, 55, 1),
  (41, .goto 14, 55, 0),
  (44, .aload_n 0, 0, 0),
  (45, .getfield 23, 7, 1),
  (48, .aload_n 0, 0, 0),
  (49, .getfield 31, 7, 3),
  (52, .invokevirtual 200, 56, 1),
  (55, .aload_n 0, 0, 0),
  (56, .getfield 23, 7, 1),
  (59, .invokevirtual 203, 53, 0),
  (62, .return_, 0, 0)]
def q_k88 : List (Nat × Instr × Nat × Nat) := [(0, .aload_n 0, 0, 0),
  (1, .invokespecial 3, 914, 0),
  (4, .aload_n 0, 0, 0),
  (5, .aload_n 1, 0, 0),
  (6, .putfield 9, 8, 0),
  (9, .aload_n 0, 0, 0),
  (10, .iconst (-1), 0, 0),
  (11, .putfield 15, 8, 7),
  (14, .return_, 0, 0)]
def q_k89 : List (Nat × Instr × Nat × Nat) := [(0, .aload_n 0, 0, 0),
  (1, .iload_n 1, 0, 0),
  (2, .putfield 19, 8, 1),
  (5, .aload_n 0, 0, 0),
  (6, .iconst 0, 0, 0),
  (7, .putfield 22, 8, 3),
  (10, .aload_n 0, 0, 0),
  (11, .iconst 0, 0, 0),
  (12, .putfield 25, 8, 6),
  (15, .aload_n 0, 0, 0),
  (16, .iconst (-1), 0, 0),
  (17, .putfield 15, 8, 7),
  (20, .aload_n 0, 0, 0),
  (21, .invokevirtual 28, 90, 0),
  (24, .return_, 0, 0)]
def q_k90 : List (Nat × Instr × Nat × Nat) := [(0, .aload_n 0, 0, 0),
  (1, .aload_n 0, 0, 0),
  (2, .getfield 22, 8, 3),
  (5, .putfield 31, 8, 2),
  (8, .aload_n 0, 0, 0),
  (9, .getfield 31, 8, 2),
  (12, .aload_n 0, 0, 0),
  (13, .getfield 19, 8, 1),
  (16, .if_icmp .ge 28, 44, 0),
  (19, .aload_n 0, 0, 0),
  (20, .aload_n 0, 0, 0),
  (21, .getfield 31, 8, 2),
  (24, .invokevirtual 34, 91, 1),
  (27, .iconst 1, 0, 0),
  (28, .if_icmp .ne 16, 44, 0),
  (31, .aload_n 0, 0, 0),
  (32, .dup, 0, 0),
  (33, .getfield 31, 8, 2),
  (36, .iconst 1, 0, 0),
  (37, .iadd, 0, 0),
  (38, .putfield 31, 8, 2),
  (41, .goto (-33), 8, 0),
  (44, .aload_n 0, 0, 0),
  (45, .aload_n 0, 0, 0),
  (46, .aload_n 0, 0, 0),
  (47, .getfield 31, 8, 2),
  (50, .invokevirtual 34, 91, 1),
  (53, .putfield 38, 8, 4),
  (56, .aload_n 0, 0, 0),
  (57, .iconst 0, 0, 0),
  (58, .putfield 41, 8, 5),
  (61, .aload_n 0, 0, 0),
  (62, .aload_n 0, 0, 0),
  (63, .getfield 31, 8, 2),
  (66, .putfield 22, 8, 3),
  (69, .aload_n 0, 0, 0),
  (70, .getfield 22, 8, 3),
  (73, .aload_n 0, 0, 0),
  (74, .getfield 19, 8, 1),
  (77, .if_icmp .ge 75, 152, 0),
  (80, .aload_n 0, 0, 0),
  (81, .aload_n 0, 0, 0),
  (82, .getfield 22, 8, 3),
  (85, .invokevirtual 34, 91, 1),
  (88, .aload_n 0, 0, 0),
  (89, .getfield 38, 8, 4),
  (92, .if_icmp .ne 60, 152, 0),
  (95, .aload_n 0, 0, 0),
  (96, .getfield 38, 8, 4),
  (99, .iconst 3, 0, 0),
  (100, .if_icmp .ne 31, 131, 0),
  (103, .aload_n 0, 0, 0),
  (104, .aload_n 0, 0, 0),
  (105, .getfield 41, 8, 5),
  (108, .bipush 10, 0, 0),
  (110, .imul, 0, 0),
  (111, .aload_n 0, 0, 0),
  (112, .aload_n 0, 0, 0),
  (113, .getfield 22, 8, 3),
  (116, .invokevirtual 44, 92, 1),
  (119, .iadd, 0, 0),
  (120, .bipush 48, 0, 0),
  (122, .isub, 0, 0),
  (123, .ldc 47, 0, 1000000),
  (125, .invokestatic 48, 911, 2),
  (128, .putfield 41, 8, 5),
  (131, .aload_n 0, 0, 0),
  (132, .dup, 0, 0),
  (133, .getfield 22, 8, 3),
  (136, .iconst 1, 0, 0),
  (137, .iadd, 0, 0),
  (138, .putfield 22, 8, 3),
  (141, .aload_n 0, 0, 0),
  (142, .getfield 38, 8, 4),
  (145, .iconst 4, 0, 0),
  (146, .if_icmp .ne (-77), 69, 0),
  (149, .goto 3, 152, 0),
  (152, .return_, 0, 0)]
def q_k91 : List (Nat × Instr × Nat × Nat) := [(0, .iload_n 1, 0, 0),
  (1, .ifCond .lt 20, 21, 0),
  (4, .iload_n 1, 0, 0),
  (5, .aload_n 0, 0, 0),
  (6, .getfield 19, 8, 1),
  (9, .if_icmp .ge 12, 21, 0),
  (12, .iload_n 1, 0, 0),
  (13, .aload_n 0, 0, 0),
  (14, .getfield 9, 8, 0),
  (17, .arraylength, 0, 0),
  (18, .if_icmp .lt 5, 23, 0),
  (21, .iconst 0, 0, 0),
  (22, .ireturn, 0, 0),
  (23, .aload_n 0, 0, 0),
  (24, .getfield 9, 8, 0),
  (27, .iload_n 1, 0, 0),
  (28, .baload, 0, 0),
  (29, .istore_n 2, 0, 0),
  (30, .iload_n 2, 0, 0),
  (31, .bipush 32, 0, 0),
  (33, .if_icmp .eq 9, 42, 0),
  (36, .iload_n 2, 0, 0),
  (37, .bipush 10, 0, 0),
  (39, .if_icmp .ne 5, 44, 0),
  (42, .iconst 1, 0, 0),
  (43, .ireturn, 0, 0),
  (44, .iload_n 2, 0, 0),
  (45, .bipush 97, 0, 0),
  (47, .if_icmp .lt 11, 58, 0),
  (50, .iload_n 2, 0, 0),
  (51, .bipush 122, 0, 0),
  (53, .if_icmp .gt 5, 58, 0),
  (56, .iconst 2, 0, 0),
  (57, .ireturn, 0, 0),
  (58, .iload_n 2, 0, 0),
  (59, .bipush 48, 0, 0),
  (61, .if_icmp .lt 13, 74, 0),
  (64, .iload_n 2, 0, 0),
  (65, .bipush 57, 0, 0),
  (67, .if_icmp .gt 7, 74, 0),
  (70, .iconst 3, 0, 0),
  (71, .goto 4, 75, 0),
  (74, .iconst 4, 0, 0),
  (75, .ireturn, 0, 0)]
def q_k92 : List (Nat × Instr × Nat × Nat) := [(0, .iload_n 1, 0, 0),
  (1, .ifCond .lt 25, 26, 0),
  (4, .iload_n 1, 0, 0),
  (5, .aload_n 0, 0, 0),
  (6, .getfield 9, 8, 0),
  (9, .arraylength, 0, 0),
  (10, .if_icmp .ge 16, 26, 0),
  (13, .aload_n 0, 0, 0),
  (14, .getfield 9, 8, 0),
  (17, .iload_n 1, 0, 0),
  (18, .baload, 0, 0),
  (19, .sipush 255, 0, 0),
  (22, .iand, 0, 0),
  (23, .goto 4, 27, 0),
  (26, .iconst 0, 0, 0),
  (27, .ireturn, 0, 0)]
def q_k93 : List (Nat × Instr × Nat × Nat) := [(0, .aload_n 0, 0, 0),
  (1, .getfield 25, 8, 6),
  (4, .ifCond .eq 7, 11, 0),
  (7, .iconst 1, 0, 0),
  (8, .goto 4, 12, 0),
  (11, .iconst 0, 0, 0),
  (12, .ireturn, 0, 0)]
def q_k94 : List (Nat × Instr × Nat × Nat) := [(0, .aload_n 0, 0, 0),
  (1, .getfield 25, 8, 6),
  (4, .ifCond .ne 16, 20, 0),
  (7, .aload_n 0, 0, 0),
  (8, .iload_n 1, 0, 0),
  (9, .putfield 25, 8, 6),
  (12, .aload_n 0, 0, 0),
  (13, .aload_n 0, 0, 0),
  (14, .getfield 31, 8, 2),
  (17, .putfield 15, 8, 7),
  (20, .return_, 0, 0)]
def q_k95 : List (Nat × Instr × Nat × Nat) := [(0, .aload_n 0, 0, 0),
  (1, .getfield 38, 8, 4),
  (4, .ifCond .ne 7, 11, 0),
  (7, .iconst 1, 0, 0),
  (8, .goto 4, 12, 0),
  (11, .iconst 0, 0, 0),
  (12, .ireturn, 0, 0)]
def q_k96 : List (Nat × Instr × Nat × Nat) := [(0, .aload_n 0, 0, 0),
  (1, .getfield 38, 8, 4),
  (4, .iconst 3, 0, 0),
  (5, .if_icmp .ne 7, 12, 0),
  (8, .iconst 1, 0, 0),
  (9, .goto 4, 13, 0),
  (12, .iconst 0, 0, 0),
  (13, .ireturn, 0, 0)]
def q_k97 : List (Nat × Instr × Nat × Nat) := [(0, .aload_n 0, 0, 0),
  (1, .getfield 38, 8, 4),
  (4, .iconst 4, 0, 0),
  (5, .if_icmp .ne 19, 24, 0),
  (8, .aload_n 0, 0, 0),
  (9, .aload_n 0, 0, 0),
  (10, .getfield 31, 8, 2),
  (13, .invokevirtual 44, 92, 1),
  (16, .iload_n 1, 0, 0),
  (17, .if_icmp .ne 7, 24, 0),
  (20, .iconst 1, 0, 0),
  (21, .goto 4, 25, 0),
  (24, .iconst 0, 0, 0),
  (25, .ireturn, 0, 0)]
def q_k98 : List (Nat × Instr × Nat × Nat) := [(0, .aload_n 0, 0, 0),
  (1, .getfield 38, 8, 4),
  (4, .iconst 2, 0, 0),
  (5, .if_icmp .ne 19, 24, 0),
  (8, .aload_n 0, 0, 0),
  (9, .getfield 22, 8, 3),
  (12, .aload_n 0, 0, 0),
  (13, .getfield 31, 8, 2),
  (16, .isub, 0, 0),
  (17, .aload_n 1, 0, 0),
  (18, .invokevirtual 54, 900, 0),
  (21, .if_icmp .eq 5, 26, 0),
  (24, .iconst 0, 0, 0),
  (25, .ireturn, 0, 0),
  (26, .iconst 0, 0, 0),
  (27, .istore_n 2, 0, 0),
  (28, .iload_n 2, 0, 0),
  (29, .aload_n 1, 0, 0),
  (30, .invokevirtual 54, 900, 0),
  (33, .if_icmp .ge 29, 62, 0),
  (36, .aload_n 0, 0, 0),
  (37, .aload_n 0, 0, 0),
  (38, .getfield 31, 8, 2),
  (41, .iload_n 2, 0, 0),
  (42, .iadd, 0, 0),
  (43, .invokevirtual 44, 92, 1),
  (46, .aload_n 1, 0, 0),
  (47, .iload_n 2, 0, 0),
  (48, .invokevirtual 59, 901, 1),
  (51, .if_icmp .eq 5, 56, 0),
  (54, .iconst 0, 0, 0),
  (55, .ireturn, 0, 0),
  (56, .iinc 2 1, 0, 0),
  (59, .goto (-31), 28, 0),
  (62, .iconst 1, 0, 0),
  (63, .ireturn, 0, 0)]
def q_k99 : List (Nat × Instr × Nat × Nat) := [(0, .aload_n 0, 0, 0),
  (1, .invokevirtual 63, 93, 0),
  (4, .ifCond .ne 11, 15, 0),
  (7, .aload_n 0, 0, 0),
  (8, .aload_n 1, 0, 0),
  (9, .invokevirtual 67, 98, 1),
  (12, .ifCond .ne 5, 17, 0),
  (15, .iconst 0, 0, 0),
  (16, .ireturn, 0, 0),
  (17, .aload_n 0, 0, 0),
  (18, .invokevirtual 28, 90, 0),
  (21, .iconst 1, 0, 0),
  (22, .ireturn, 0, 0)]
def q_k100 : List (Nat × Instr × Nat × Nat) := [(0, .aload_n 0, 0, 0),
  (1, .invokevirtual 63, 93, 0),
  (4, .ifCond .ne 11, 15, 0),
  (7, .aload_n 0, 0, 0),
  (8, .iload_n 1, 0, 0),
  (9, .invokevirtual 71, 97, 1),
  (12, .ifCond .ne 5, 17, 0),
  (15, .iconst 0, 0, 0),
  (16, .ireturn, 0, 0),
  (17, .aload_n 0, 0, 0),
  (18, .invokevirtual 28, 90, 0),
  (21, .iconst 1, 0, 0),
  (22, .ireturn, 0, 0)]
def q_k101 : List (Nat × Instr × Nat × Nat) := [(0, .aload_n 0, 0, 0),
  (1, .aload_n 1, 0, 0),
  (2, .invokevirtual 75, 99, 1),
  (5, .ifCond .ne 8, 13, 0),
  (8, .aload_n 0, 0, 0),
  (9, .iconst 1, 0, 0),
  (10, .invokevirtual 78, 94, 1),
  (13, .return_, 0, 0)]
def q_k102 : List (Nat × Instr × Nat × Nat) := [(0, .aload_n 0, 0, 0),
  (1, .iload_n 1, 0, 0),
  (2, .invokevirtual 82, 100, 1),
  (5, .ifCond .ne 8, 13, 0),
  (8, .aload_n 0, 0, 0),
  (9, .iconst 1, 0, 0),
  (10, .invokevirtual 78, 94, 1),
  (13, .return_, 0, 0)]
def q_k103 : List (Nat × Instr × Nat × Nat) := [(0, .aload_n 0, 0, 0),
  (1, .getfield 38, 8, 4),
  (4, .iconst 3, 0, 0),
  (5, .if_icmp .eq 11, 16, 0),
  (8, .aload_n 0, 0, 0),
  (9, .iconst 1, 0, 0),
  (10, .invokevirtual 78, 94, 1),
  (13, .goto 24, 37, 0),
  (16, .aload_n 0, 0, 0),
  (17, .getfield 41, 8, 5),
  (20, .iload_n 1, 0, 0),
  (21, .if_icmp .lt 11, 32, 0),
  (24, .aload_n 0, 0, 0),
  (25, .getfield 41, 8, 5),
  (28, .iload_n 2, 0, 0),
  (29, .if_icmp .le 8, 37, 0),
  (32, .aload_n 0, 0, 0),
  (33, .iconst 2, 0, 0),
  (34, .invokevirtual 78, 94, 1),
  (37, .aload_n 0, 0, 0),
  (38, .invokevirtual 63, 93, 0),
  (41, .ifCond .eq 7, 48, 0),
  (44, .iload_n 1, 0, 0),
  (45, .goto 7, 52, 0),
  (48, .aload_n 0, 0, 0),
  (49, .getfield 41, 8, 5),
  (52, .ireturn, 0, 0)]
def q_k104 : List (Nat × Instr × Nat × Nat) := [(0, .aload_n 0, 0, 0),
  (1, .iload_n 1, 0, 0),
  (2, .iload_n 2, 0, 0),
  (3, .invokevirtual 85, 103, 2),
  (6, .istore_n 3, 0, 0),
  (7, .aload_n 0, 0, 0),
  (8, .invokevirtual 63, 93, 0),
  (11, .ifCond .ne 7, 18, 0),
  (14, .aload_n 0, 0, 0),
  (15, .invokevirtual 28, 90, 0),
  (18, .iload_n 3, 0, 0),
  (19, .ireturn, 0, 0)]
def q_k105 : List (Nat × Instr × Nat × Nat) := [(0, .aload_n 0, 0, 0),
  (1, .invokespecial 3, 914, 0),
  (4, .aload_n 0, 0, 0),
  (5, .iconst (-1), 0, 0),
  (6, .putfield 9, 9, 3),
  (9, .aload_n 0, 0, 0),
  (10, .iconst (-1), 0, 0),
  (11, .putfield 15, 9, 5),
  (14, .aload_n 0, 0, 0),
  (15, .iconst (-1), 0, 0),
  (16, .putfield 18, 9, 6),
  (19, .aload_n 0, 0, 0),
  (20, .iconst (-1), 0, 0),
  (21, .putfield 21, 9, 7),
  (24, .return_, 0, 0)]
def q_k106 : List (Nat × Instr × Nat × Nat) := [(0, .aload_n 0, 0, 0),
  (1, .aload_n 1, 0, 0),
  (2, .getfield 24, 9, 0),
  (5, .putfield 24, 9, 0),
  (8, .aload_n 0, 0, 0),
  (9, .aload_n 1, 0, 0),
  (10, .getfield 27, 9, 1),
  (13, .putfield 27, 9, 1),
  (16, .aload_n 0, 0, 0),
  (17, .aload_n 1, 0, 0),
  (18, .getfield 30, 9, 2),
  (21, .putfield 30, 9, 2),
  (24, .aload_n 0, 0, 0),
  (25, .aload_n 1, 0, 0),
  (26, .getfield 9, 9, 3),
  (29, .putfield 9, 9, 3),
  (32, .aload_n 0, 0, 0),
  (33, .aload_n 1, 0, 0),
  (34, .getfield 33, 9, 4),
  (37, .putfield 33, 9, 4),
  (40, .aload_n 0, 0, 0),
  (41, .aload_n 1, 0, 0),
  (42, .getfield 15, 9, 5),
  (45, .putfield 15, 9, 5),
  (48, .aload_n 0, 0, 0),
  (49, .aload_n 1, 0, 0),
  (50, .getfield 18, 9, 6),
  (53, .putfield 18, 9, 6),
  (56, .aload_n 0, 0, 0),
  (57, .aload_n 1, 0, 0),
  (58, .getfield 21, 9, 7),
  (61, .putfield 21, 9, 7),
  (64, .aload_n 0, 0, 0),
  (65, .aload_n 1, 0, 0),
  (66, .getfield 36, 9, 8),
  (69, .putfield 36, 9, 8),
  (72, .return_, 0, 0)]
def q_k107 : List (Nat × Instr × Nat × Nat) := [(0, .aload_n 0, 0, 0),
  (1, .iload_n 1, 0, 0),
  (2, .putfield 24, 9, 0),
  (5, .aload_n 0, 0, 0),
  (6, .iload_n 1, 0, 0),
  (7, .putfield 27, 9, 1),
  (10, .aload_n 0, 0, 0),
  (11, .iconst 0, 0, 0),
  (12, .putfield 30, 9, 2),
  (15, .aload_n 0, 0, 0),
  (16, .iconst (-1), 0, 0),
  (17, .putfield 9, 9, 3),
  (20, .aload_n 0, 0, 0),
  (21, .iconst 0, 0, 0),
  (22, .putfield 33, 9, 4),
  (25, .aload_n 0, 0, 0),
  (26, .iconst (-1), 0, 0),
  (27, .putfield 15, 9, 5),
  (30, .aload_n 0, 0, 0),
  (31, .iconst (-1), 0, 0),
  (32, .putfield 18, 9, 6),
  (35, .return_, 0, 0)]
def q_k108 : List (Nat × Instr × Nat × Nat) := [(0, .aload_n 1, 0, 0),
  (1, .iload_n 2, 0, 0),
  (2, .invokevirtual 39, 33, 1),
  (5, .istore_n 3, 0, 0),
  (6, .iload_n 3, 0, 0),
  (7, .aload_n 0, 0, 0),
  (8, .getfield 21, 9, 7),
  (11, .if_icmp .ne 14, 25, 0),
  (14, .aload_n 1, 0, 0),
  (15, .iload_n 2, 0, 0),
  (16, .invokevirtual 45, 34, 1),
  (19, .aload_n 0, 0, 0),
  (20, .getfield 36, 9, 8),
  (23, .iadd, 0, 0),
  (24, .ireturn, 0, 0),
  (25, .aload_n 0, 0, 0),
  (26, .getfield 30, 9, 2),
  (29, .ifCond .eq 11, 40, 0),
  (32, .iload_n 3, 0, 0),
  (33, .aload_n 0, 0, 0),
  (34, .getfield 9, 9, 3),
  (37, .if_icmp .ne 11, 48, 0),
  (40, .aload_n 1, 0, 0),
  (41, .iload_n 2, 0, 0),
  (42, .invokevirtual 45, 34, 1),
  (45, .goto 4, 49, 0),
  (48, .iconst 0, 0, 0),
  (49, .ireturn, 0, 0)]
def q_k110 : List (Nat × Instr × Nat × Nat) := [(0, .aload_n 0, 0, 0),
  (1, .getfield 30, 9, 2),
  (4, .ifCond .eq 16, 20, 0),
  (7, .aload_n 0, 0, 0),
  (8, .aload_n 1, 0, 0),
  (9, .iload_n 2, 0, 0),
  (10, .invokevirtual 48, 108, 2),
  (13, .aload_n 0, 0, 0),
  (14, .getfield 33, 9, 4),
  (17, .if_icmp .le 7, 24, 0),
  (20, .iconst 1, 0, 0),
  (21, .goto 4, 25, 0),
  (24, .iconst 0, 0, 0),
  (25, .ireturn, 0, 0)]
def q_k111 : List (Nat × Instr × Nat × Nat) := [(0, .aload_n 0, 0, 0),
  (1, .aload_n 1, 0, 0),
  (2, .iload_n 2, 0, 0),
  (3, .invokevirtual 48, 108, 2),
  (6, .istore_n 3, 0, 0),
  (7, .aload_n 0, 0, 0),
  (8, .getfield 30, 9, 2),
  (11, .ifCond .ne 12, 23, 0),
  (14, .aload_n 0, 0, 0),
  (15, .aload_n 1, 0, 0),
  (16, .iload_n 2, 0, 0),
  (17, .invokevirtual 39, 33, 1),
  (20, .putfield 9, 9, 3),
  (23, .aload_n 0, 0, 0),
  (24, .getfield 30, 9, 2),
  (27, .ifCond .eq 11, 38, 0),
  (30, .iload_n 3, 0, 0),
  (31, .aload_n 0, 0, 0),
  (32, .getfield 33, 9, 4),
  (35, .if_icmp .le 21, 56, 0),
  (38, .aload_n 0, 0, 0),
  (39, .iload_n 3, 0, 0),
  (40, .putfield 33, 9, 4),
  (43, .aload_n 0, 0, 0),
  (44, .iload_n 2, 0, 0),
  (45, .putfield 15, 9, 5),
  (48, .aload_n 0, 0, 0),
  (49, .aload_n 0, 0, 0),
  (50, .getfield 27, 9, 1),
  (53, .putfield 18, 9, 6),
  (56, .aload_n 0, 0, 0),
  (57, .dup, 0, 0),
  (58, .getfield 30, 9, 2),
  (61, .iconst 1, 0, 0),
  (62, .iadd, 0, 0),
  (63, .putfield 30, 9, 2),
  (66, .aload_n 0, 0, 0),
  (67, .aload_n 1, 0, 0),
  (68, .aload_n 0, 0, 0),
  (69, .getfield 27, 9, 1),
  (72, .invokevirtual 52, 37, 1),
  (75, .putfield 27, 9, 1),
  (78, .return_, 0, 0)]
def q_k112 : List (Nat × Instr × Nat × Nat) := [(0, .aload_n 0, 0, 0),
  (1, .aload_n 1, 0, 0),
  (2, .iload_n 2, 0, 0),
  (3, .iload_n 3, 0, 0),
  (4, .invokevirtual 55, 113, 3),
  (7, .aload_n 0, 0, 0),
  (8, .aload_n 0, 0, 0),
  (9, .getfield 18, 9, 6),
  (12, .invokevirtual 59, 107, 1),
  (15, .return_, 0, 0)]
def q_k113 : List (Nat × Instr × Nat × Nat) := [(0, .aload_n 0, 0, 0),
  (1, .getfield 36, 9, 8),
  (4, .ifCond .ne 4, 8, 0),
  (7, .return_, 0, 0),
  (8, .aload_n 0, 0, 0),
  (9, .iconst 0, 0, 0),
  (10, .aload_n 0, 0, 0),
  (11, .getfield 36, 9, 8),
  (14, .iload_n 2, 0, 0),
  (15, .isub, 0, 0),
  (16, .invokestatic 63, 910, 2),
  (19, .putfield 36, 9, 8),
  (22, .aload_n 0, 0, 0),
  (23, .getfield 36, 9, 8),
  (26, .ifCond .le 4, 30, 0),
  (29, .return_, 0, 0),
  (30, .aload_n 0, 0, 0),
  (31, .iload_n 3, 0, 0),
  (32, .ifCond .eq 14, 46, 0),
  (35, .aload_n 1, 0, 0),
  (36, .aload_n 0, 0, 0),
  (37, .getfield 15, 9, 5),
  (40, .invokevirtual 39, 33, 1),
  (43, .goto 4, 47, 0),
  (46, .iconst (-1), 0, 0),
  (47, .putfield 21, 9, 7),
  (50, .aload_n 0, 0, 0),
  (51, .iload_n 3, 0, 0),
  (52, .ifCond .eq 10, 62, 0),
  (55, .aload_n 1, 0, 0),
  (56, .getfield 69, 4, 3),
  (59, .goto 4, 63, 0),
  (62, .iconst 0, 0, 0),
  (63, .putfield 36, 9, 8),
  (66, .return_, 0, 0)]
def q_k114 : List (Nat × Instr × Nat × Nat) := [(0, .aload_n 0, 0, 0),
  (1, .getfield 30, 9, 2),
  (4, .ifCond .eq 8, 12, 0),
  (7, .iload 4, 0, 0),
  (9, .ifCond .ne 5, 14, 0),
  (12, .lload_n 2, 0, 0),
  (13, .lreturn, 0, 0),
  (14, .lload_n 2, 0, 0),
  (15, .aload_n 1, 0, 0),
  (16, .aload_n 0, 0, 0),
  (17, .getfield 9, 9, 3),
  (20, .invokevirtual 72, 36, 1),
  (23, .land, 0, 0),
  (24, .lstore 5, 0, 0),
  (26, .lload 5, 0, 0),
  (28, .lconst 0, 0, 0),
  (29, .lcmp, 0, 0),
  (30, .ifCond .eq 37, 67, 0),
  (33, .iload 4, 0, 0),
  (35, .iconst 2, 0, 0),
  (36, .if_icmp .ne 13, 49, 0),
  (39, .aload_n 0, 0, 0),
  (40, .aload_n 1, 0, 0),
  (41, .lload 5, 0, 0),
  (43, .invokevirtual 76, 115, 2),
  (46, .goto 4, 50, 0),
  (49, .lconst 0, 0, 0),
  (50, .lstore 7, 0, 0),
  (52, .lload 7, 0, 0),
  (54, .lconst 0, 0, 0),
  (55, .lcmp, 0, 0),
  (56, .ifCond .eq 8, 64, 0),
  (59, .lload 7, 0, 0),
  (61, .goto 5, 66, 0),
  (64, .lload 5, 0, 0),
  (66, .lreturn, 0, 0),
  (67, .iload 4, 0, 0),
  (69, .iconst 3, 0, 0),
  (70, .if_icmp .ne 16, 86, 0),
  (73, .lload_n 2, 0, 0),
  (74, .aload_n 1, 0, 0),
  (75, .aload_n 0, 0, 0),
  (76, .getfield 21, 9, 7),
  (79, .invokevirtual 72, 36, 1),
  (82, .land, 0, 0),
  (83, .goto 4, 87, 0),
  (86, .lconst 0, 0, 0),
  (87, .lstore 7, 0, 0),
  (89, .lload 7, 0, 0),
  (91, .lconst 0, 0, 0),
  (92, .lcmp, 0, 0),
  (93, .ifCond .eq 8, 101, 0),
  (96, .lload 7, 0, 0),
  (98, .goto 4, 102, 0),
  (101, .lload_n 2, 0, 0),
  (102, .lreturn, 0, 0)]
def q_k115 : List (Nat × Instr × Nat × Nat) := [(0, .aload_n 0, 0, 0),
  (1, .getfield 33, 9, 4),
  (4, .aload_n 0, 0, 0),
  (5, .getfield 9, 9, 3),
  (8, .aload_n 0, 0, 0),
  (9, .getfield 21, 9, 7),
  (12, .if_icmp .ne 10, 22, 0),
  (15, .aload_n 0, 0, 0),
  (16, .getfield 36, 9, 8),
  (19, .goto 4, 23, 0),
  (22, .iconst 0, 0, 0),
  (23, .isub, 0, 0),
  (24, .istore 4, 0, 0),
  (26, .iload 4, 0, 0),
  (28, .aload_n 1, 0, 0),
  (29, .getfield 80, 4, 0),
  (32, .if_icmp .lt 7, 39, 0),
  (35, .lconst 0, 0, 0),
  (36, .goto 21, 57, 0),
  (39, .lload_n 2, 0, 0),
  (40, .ldc2_w 83, 0, 18446744073709551615),
  (43, .aload_n 0, 0, 0),
  (44, .getfield 9, 9, 3),
  (47, .aload_n 1, 0, 0),
  (48, .getfield 80, 4, 0),
  (51, .imul, 0, 0),
  (52, .iload 4, 0, 0),
  (54, .iadd, 0, 0),
  (55, .lshl, 0, 0),
  (56, .land, 0, 0),
  (57, .lreturn, 0, 0)]
def q_k116 : List (Nat × Instr × Nat × Nat) := [(0, .aload_n 0, 0, 0),
  (1, .invokespecial 1, 914, 0),
  (4, .aload_n 0, 0, 0),
  (5, .sipush 500, 0, 0),
  (8, .newarray .byte, 0, 0),
  (10, .putfield 9, 10, 0),
  (13, .aload_n 0, 0, 0),
  (14, .new 13, 8, 0),
  (17, .dup, 0, 0),
  (18, .aload_n 0, 0, 0),
  (19, .getfield 9, 10, 0),
  (22, .invokespecial 15, 88, 1),
  (25, .putfield 18, 10, 2),
  (28, .aload_n 0, 0, 0),
  (29, .new 22, 4, 0),
  (32, .dup, 0, 0),
  (33, .invokespecial 24, 28, 0),
  (36, .putfield 25, 10, 3),
  (39, .aload_n 0, 0, 0),
  (40, .new 29, 2, 0),
  (43, .dup, 0, 0),
  (44, .invokespecial 31, 11, 0),
  (47, .putfield 32, 10, 4),
  (50, .aload_n 0, 0, 0),
  (51, .new 36, 6, 0),
  (54, .dup, 0, 0),
  (55, .aload_n 0, 0, 0),
  (56, .getfield 25, 10, 3),
  (59, .invokespecial 38, 49, 1),
  (62, .putfield 41, 10, 5),
  (65, .aload_n 0, 0, 0),
  (66, .new 45, 1, 0),
  (69, .dup, 0, 0),
  (70, .aload_n 0, 0, 0),
  (71, .getfield 25, 10, 3),
  (74, .invokespecial 47, 6, 1),
  (77, .putfield 48, 10, 6),
  (80, .aload_n 0, 0, 0),
  (81, .new 36, 6, 0),
  (84, .dup, 0, 0),
  (85, .aload_n 0, 0, 0),
  (86, .getfield 25, 10, 3),
  (89, .invokespecial 38, 49, 1),
  (92, .putfield 52, 10, 7),
  (95, .aload_n 0, 0, 0),
  (96, .new 55, 7, 0),
  (99, .dup, 0, 0),
  (100, .aload_n 0, 0, 0),
  (101, .getfield 18, 10, 2),
  (104, .aload_n 0, 0, 0),
  (105, .getfield 32, 10, 4),
  (108, .invokespecial 57, 78, 2),
  (111, .putfield 60, 10, 9),
  (114, .aload_n 0, 0, 0),
  (115, .new 64, 3, 0),
  (118, .dup, 0, 0),
  (119, .aload_n 0, 0, 0),
  (120, .getfield 18, 10, 2),
  (123, .invokespecial 66, 15, 1),
  (126, .putfield 69, 10, 10),
  (129, .aload_n 0, 0, 0),
  (130, .new 73, 5, 0),
  (133, .dup, 0, 0),
  (134, .aload_n 0, 0, 0),
  (135, .getfield 41, 10, 5),
  (138, .invokespecial 75, 38, 1),
  (141, .putfield 78, 10, 11),
  (144, .aload_n 0, 0, 0),
  (145, .new 82, 0, 0),
  (148, .dup, 0, 0),
  (149, .invokespecial 84, 0, 0),
  (152, .putfield 85, 10, 12),
  (155, .aload_n 0, 0, 0),
  (156, .getfield 32, 10, 4),
  (159, .iconst 0, 0, 0),
  (160, .aload_n 0, 0, 0),
  (161, .getfield 25, 10, 3),
  (164, .invokevirtual 89, 30, 0),
  (167, .invokevirtual 93, 12, 2),
  (170, .aload_n 0, 0, 0),
  (171, .getfield 41, 10, 5),
  (174, .aload_n 0, 0, 0),
  (175, .getfield 32, 10, 4),
  (178, .invokevirtual 97, 55, 1),
  (181, .aload_n 0, 0, 0),
  (182, .getfield 41, 10, 5),
  (185, .invokevirtual 101, 53, 0),
  (188, .return_, 0, 0)]
def q_k117 : List (Nat × Instr × Nat × Nat) := [(0, .aload_n 0, 0, 0),
  (1, .getfield 104, 10, 1),
  (4, .bipush 20, 0, 0),
  (6, .iadd, 0, 0),
  (7, .sipush 500, 0, 0),
  (10, .if_icmp .le 5, 15, 0),
  (13, .iconst (-1), 0, 0),
  (14, .ireturn, 0, 0),
  (15, .aload_n 0, 0, 0),
  (16, .iload_n 1, 0, 0),
  (17, .invokevirtual 108, 118, 1),
  (20, .aload_n 0, 0, 0),
  (21, .iload_n 2, 0, 0),
  (22, .invokevirtual 108, 118, 1),
  (25, .aload_n 0, 0, 0),
  (26, .iload_n 3, 0, 0),
  (27, .invokevirtual 108, 118, 1),
  (30, .aload_n 0, 0, 0),
  (31, .iload 4, 0, 0),
  (33, .invokevirtual 108, 118, 1),
  (36, .aload_n 0, 0, 0),
  (37, .iload 5, 0, 0),
  (39, .invokevirtual 108, 118, 1),
  (42, .aload_n 0, 0, 0),
  (43, .getfield 104, 10, 1),
  (46, .ireturn, 0, 0)]
def q_k118 : List (Nat × Instr × Nat × Nat) := [(0, .bipush 24, 0, 0),
  (2, .istore_n 2, 0, 0),
  (3, .iload_n 2, 0, 0),
  (4, .ifCond .lt 51, 55, 0),
  (7, .aload_n 0, 0, 0),
  (8, .getfield 104, 10, 1),
  (11, .ifCond .lt 38, 49, 0),
  (14, .aload_n 0, 0, 0),
  (15, .getfield 104, 10, 1),
  (18, .aload_n 0, 0, 0),
  (19, .getfield 9, 10, 0),
  (22, .arraylength, 0, 0),
  (23, .if_icmp .ge 26, 49, 0),
  (26, .aload_n 0, 0, 0),
  (27, .getfield 9, 10, 0),
  (30, .aload_n 0, 0, 0),
  (31, .getfield 104, 10, 1),
  (34, .iload_n 1, 0, 0),
  (35, .iload_n 2, 0, 0),
  (36, .ishr, 0, 0),
  (37, .i2b, 0, 0),
  (38, .bastore, 0, 0),
  (39, .aload_n 0, 0, 0),
  (40, .dup, 0, 0),
  (41, .getfield 104, 10, 1),
  (44, .iconst 1, 0, 0),
  (45, .iadd, 0, 0),
  (46, .putfield 104, 10, 1),
  (49, .iinc 2 (-8), 0, 0),
  (52, .goto (-49), 3, 0),
  (55, .return_, 0, 0)]
def q_k119 : List (Nat × Instr × Nat × Nat) := [(0, .iload_n 1, 0, 0),
  (1, .ifCond .lt 11, 12, 0),
  (4, .iload_n 1, 0, 0),
  (5, .aload_n 0, 0, 0),
  (6, .getfield 104, 10, 1),
  (9, .if_icmp .le 11, 20, 0),
  (12, .new 112, 1001, 114),
  (15, .dup, 0, 0),
  (16, .invokespecial 114, 999, 0),
  (19, .athrow, 0, 0),
  (20, .aload_n 0, 0, 0),
  (21, .getfield 60, 10, 9),
  (24, .iload_n 1, 0, 0),
  (25, .invokevirtual 115, 79, 1),
  (28, .istore_n 2, 0, 0),
  (29, .aload_n 0, 0, 0),
  (30, .iconst 0, 0, 0),
  (31, .putfield 104, 10, 1),
  (34, .iload_n 2, 0, 0),
  (35, .ifCond .eq 8, 43, 0),
  (38, .bipush (-10), 0, 0),
  (40, .iload_n 2, 0, 0),
  (41, .isub, 0, 0),
  (42, .ireturn, 0, 0),
  (43, .aload_n 0, 0, 0),
  (44, .getfield 25, 10, 3),
  (47, .aload_n 0, 0, 0),
  (48, .getfield 60, 10, 9),
  (51, .getfield 119, 7, 0),
  (54, .invokevirtual 120, 29, 1),
  (57, .aload_n 0, 0, 0),
  (58, .getfield 41, 10, 5),
  (61, .aload_n 0, 0, 0),
  (62, .getfield 60, 10, 9),
  (65, .getfield 123, 7, 1),
  (68, .invokevirtual 124, 52, 1),
  (71, .aload_n 0, 0, 0),
  (72, .getfield 48, 10, 6),
  (75, .invokevirtual 126, 7, 0),
  (78, .aload_n 0, 0, 0),
  (79, .iconst 0, 0, 0),
  (80, .putfield 129, 10, 8),
  (83, .aload_n 0, 0, 0),
  (84, .getfield 25, 10, 3),
  (87, .invokevirtual 133, 31, 0),
  (90, .ireturn, 0, 0)]
def q_k120 : List (Nat × Instr × Nat × Nat) := [(0, .aload_n 0, 0, 0),
  (1, .getfield 18, 10, 2),
  (4, .getfield 136, 8, 7),
  (7, .ireturn, 0, 0)]
def q_k122 : List (Nat × Instr × Nat × Nat) := [(0, .iload_n 1, 0, 0),
  (1, .tableswitch 217 0 13 #[71, 79, 87, 95, 103, 114, 125, 133, 141, 157, 182, 193, 201, 209], 0, 71),
  (72, .aload_n 0, 0, 0),
  (73, .getfield 25, 10, 3),
  (76, .getfield 145, 4, 0),
  (79, .ireturn, 0, 0),
  (80, .aload_n 0, 0, 0),
  (81, .getfield 25, 10, 3),
  (84, .getfield 148, 4, 1),
  (87, .ireturn, 0, 0),
  (88, .aload_n 0, 0, 0),
  (89, .getfield 25, 10, 3),
  (92, .getfield 151, 4, 2),
  (95, .ireturn, 0, 0),
  (96, .aload_n 0, 0, 0),
  (97, .getfield 41, 10, 5),
  (100, .getfield 154, 6, 11),
  (103, .ireturn, 0, 0),
  (104, .aload_n 0, 0, 0),
  (105, .getfield 41, 10, 5),
  (108, .getfield 157, 6, 1),
  (111, .getfield 161, 9, 7),
  (114, .ireturn, 0, 0),
  (115, .aload_n 0, 0, 0),
  (116, .getfield 41, 10, 5),
  (119, .getfield 157, 6, 1),
  (122, .getfield 166, 9, 8),
  (125, .ireturn, 0, 0),
  (126, .aload_n 0, 0, 0),
  (127, .getfield 25, 10, 3),
  (130, .getfield 169, 4, 3),
  (133, .ireturn, 0, 0),
  (134, .aload_n 0, 0, 0),
  (135, .getfield 41, 10, 5),
  (138, .getfield 172, 6, 12),
  (141, .ireturn, 0, 0),
  (142, .aload_n 0, 0, 0),
  (143, .getfield 41, 10, 5),
  (146, .getfield 175, 6, 13),
  (149, .ifCond .eq 7, 156, 0),
  (152, .iconst 1, 0, 0),
  (153, .goto 4, 157, 0),
  (156, .iconst 0, 0, 0),
  (157, .ireturn, 0, 0),
  (158, .aload_n 0, 0, 0),
  (159, .getfield 41, 10, 5),
  (162, .invokevirtual 178, 64, 0),
  (165, .ifCond .eq 7, 172, 0),
  (168, .iconst (-1), 0, 0),
  (169, .goto 13, 182, 0),
  (172, .aload_n 0, 0, 0),
  (173, .getfield 41, 10, 5),
  (176, .getfield 157, 6, 1),
  (179, .getfield 182, 9, 1),
  (182, .ireturn, 0, 0),
  (183, .aload_n 0, 0, 0),
  (184, .getfield 41, 10, 5),
  (187, .getfield 157, 6, 1),
  (190, .getfield 185, 9, 0),
  (193, .ireturn, 0, 0),
  (194, .aload_n 0, 0, 0),
  (195, .getfield 41, 10, 5),
  (198, .getfield 188, 6, 17),
  (201, .ireturn, 0, 0),
  (202, .aload_n 0, 0, 0),
  (203, .getfield 41, 10, 5),
  (206, .getfield 191, 6, 16),
  (209, .ireturn, 0, 0),
  (210, .aload_n 0, 0, 0),
  (211, .getfield 41, 10, 5),
  (214, .getfield 194, 6, 18),
  (217, .ireturn, 0, 0),
  (218, .new 197, 1000, 199),
  (221, .dup, 0, 0),
  (222, .invokespecial 199, 999, 0),
  (225, .athrow, 0, 0)]
def q_k123 : List (Nat × Instr × Nat × Nat) := [(0, .aload_n 0, 0, 0),
  (1, .iload_n 1, 0, 0),
  (2, .invokevirtual 200, 166, 1),
  (5, .aload_n 0, 0, 0),
  (6, .getfield 25, 10, 3),
  (9, .iload_n 1, 0, 0),
  (10, .invokevirtual 203, 33, 1),
  (13, .ireturn, 0, 0)]
def q_k124 : List (Nat × Instr × Nat × Nat) := [(0, .aload_n 0, 0, 0),
  (1, .iload_n 1, 0, 0),
  (2, .invokevirtual 200, 166, 1),
  (5, .aload_n 0, 0, 0),
  (6, .getfield 25, 10, 3),
  (9, .iload_n 1, 0, 0),
  (10, .invokevirtual 206, 34, 1),
  (13, .ireturn, 0, 0)]
def q_k125 : List (Nat × Instr × Nat × Nat) := [(0, .aload_n 0, 0, 0),
  (1, .iload_n 1, 0, 0),
  (2, .invokevirtual 200, 166, 1),
  (5, .aload_n 0, 0, 0),
  (6, .getfield 41, 10, 5),
  (9, .iload_n 1, 0, 0),
  (10, .invokevirtual 209, 63, 1),
  (13, .ireturn, 0, 0)]
def q_k126 : List (Nat × Instr × Nat × Nat) := [(0, .aload_n 0, 0, 0),
  (1, .iload_n 1, 0, 0),
  (2, .invokevirtual 212, 167, 1),
  (5, .aload_n 0, 0, 0),
  (6, .getfield 41, 10, 5),
  (9, .iload_n 1, 0, 0),
  (10, .invokevirtual 215, 60, 1),
  (13, .invokestatic 219, 352, 1),
  (16, .ireturn, 0, 0)]
def q_k127 : List (Nat × Instr × Nat × Nat) := [(0, .aload_n 0, 0, 0),
  (1, .iload_n 1, 0, 0),
  (2, .invokevirtual 212, 167, 1),
  (5, .aload_n 0, 0, 0),
  (6, .getfield 41, 10, 5),
  (9, .iload_n 1, 0, 0),
  (10, .invokevirtual 215, 60, 1),
  (13, .lstore_n 3, 0, 0),
  (14, .iload_n 2, 0, 0),
  (15, .ifCond .lt 11, 26, 0),
  (18, .iload_n 2, 0, 0),
  (19, .lload_n 3, 0, 0),
  (20, .invokestatic 219, 352, 1),
  (23, .if_icmp .lt 11, 34, 0),
  (26, .new 197, 1000, 199),
  (29, .dup, 0, 0),
  (30, .invokespecial 199, 999, 0),
  (33, .athrow, 0, 0),
  (34, .iconst 0, 0, 0),
  (35, .istore 5, 0, 0),
  (37, .iconst 0, 0, 0),
  (38, .istore 6, 0, 0),
  (40, .iload 6, 0, 0),
  (42, .bipush 52, 0, 0),
  (44, .if_icmp .ge 30, 74, 0),
  (47, .lload_n 3, 0, 0),
  (48, .iload 6, 0, 0),
  (50, .invokestatic 225, 314, 2),
  (53, .ifCond .eq 15, 68, 0),
  (56, .iload 5, 0, 0),
  (58, .iload_n 2, 0, 0),
  (59, .if_icmp .ne 6, 65, 0),
  (62, .iload 6, 0, 0),
  (64, .ireturn, 0, 0),
  (65, .iinc 5 1, 0, 0),
  (68, .iinc 6 1, 0, 0),
  (71, .goto (-31), 40, 0),
  (74, .iconst (-1), 0, 0),
  (75, .ireturn, 0, 0)]
def q_k128 : List (Nat × Instr × Nat × Nat) := [(0, .aload_n 0, 0, 0),
  (1, .iload_n 1, 0, 0),
  (2, .invokevirtual 212, 167, 1),
  (5, .aload_n 0, 0, 0),
  (6, .iload_n 2, 0, 0),
  (7, .invokevirtual 231, 168, 1),
  (10, .aload_n 0, 0, 0),
  (11, .getfield 41, 10, 5),
  (14, .iload_n 1, 0, 0),
  (15, .invokevirtual 215, 60, 1),
  (18, .aload_n 0, 0, 0),
  (19, .getfield 25, 10, 3),
  (22, .iload_n 2, 0, 0),
  (23, .invokevirtual 234, 36, 1),
  (26, .land, 0, 0),
  (27, .invokestatic 219, 352, 1),
  (30, .ireturn, 0, 0)]
def q_k129 : List (Nat × Instr × Nat × Nat) := [(0, .aload_n 0, 0, 0),
  (1, .iload_n 1, 0, 0),
  (2, .invokevirtual 200, 166, 1),
  (5, .aload_n 0, 0, 0),
  (6, .getfield 41, 10, 5),
  (9, .invokevirtual 237, 65, 0),
  (12, .iload_n 1, 0, 0),
  (13, .invokestatic 225, 314, 2),
  (16, .ireturn, 0, 0)]
def q_k130 : List (Nat × Instr × Nat × Nat) := [(0, .aload_n 0, 0, 0),
  (1, .getfield 41, 10, 5),
  (4, .invokevirtual 237, 65, 0),
  (7, .invokestatic 219, 352, 1),
  (10, .ireturn, 0, 0)]
def q_k131 : List (Nat × Instr × Nat × Nat) := [(0, .aload_n 0, 0, 0),
  (1, .iload_n 1, 0, 0),
  (2, .invokevirtual 200, 166, 1),
  (5, .aload_n 0, 0, 0),
  (6, .getfield 41, 10, 5),
  (9, .getfield 157, 6, 1),
  (12, .aload_n 0, 0, 0),
  (13, .getfield 25, 10, 3),
  (16, .iload_n 1, 0, 0),
  (17, .invokevirtual 241, 108, 2),
  (20, .ireturn, 0, 0)]
def q_k132 : List (Nat × Instr × Nat × Nat) := [(0, .aload_n 0, 0, 0),
  (1, .getfield 41, 10, 5),
  (4, .getfield 157, 6, 1),
  (7, .getfield 245, 9, 3),
  (10, .ireturn, 0, 0)]
def q_k133 : List (Nat × Instr × Nat × Nat) := [(0, .aload_n 0, 0, 0),
  (1, .getfield 41, 10, 5),
  (4, .getfield 157, 6, 1),
  (7, .getfield 248, 9, 6),
  (10, .ireturn, 0, 0)]
def q_k134 : List (Nat × Instr × Nat × Nat) := [(0, .aload_n 0, 0, 0),
  (1, .iload_n 1, 0, 0),
  (2, .invokevirtual 200, 166, 1),
  (5, .aload_n 0, 0, 0),
  (6, .getfield 41, 10, 5),
  (9, .getfield 157, 6, 1),
  (12, .aload_n 0, 0, 0),
  (13, .getfield 25, 10, 3),
  (16, .iload_n 1, 0, 0),
  (17, .invokevirtual 251, 110, 2),
  (20, .ireturn, 0, 0)]
def q_k135 : List (Nat × Instr × Nat × Nat) := [(0, .iload_n 1, 0, 0),
  (1, .ifCond .lt 14, 15, 0),
  (4, .iload_n 1, 0, 0),
  (5, .aload_n 0, 0, 0),
  (6, .getfield 41, 10, 5),
  (9, .getfield 191, 6, 16),
  (12, .if_icmp .lt 11, 23, 0),
  (15, .new 197, 1000, 199),
  (18, .dup, 0, 0),
  (19, .invokespecial 199, 999, 0),
  (22, .athrow, 0, 0),
  (23, .iload_n 2, 0, 0),
  (24, .tableswitch 61 0 2 #[28, 40, 52], 0, 28),
  (52, .aload_n 0, 0, 0),
  (53, .getfield 41, 10, 5),
  (56, .getfield 255, 6, 7),
  (59, .iload_n 1, 0, 0),
  (60, .invokestatic 259, 309, 2),
  (63, .ireturn, 0, 0),
  (64, .aload_n 0, 0, 0),
  (65, .getfield 41, 10, 5),
  (68, .getfield 263, 6, 8),
  (71, .iload_n 1, 0, 0),
  (72, .invokestatic 259, 309, 2),
  (75, .ireturn, 0, 0),
  (76, .aload_n 0, 0, 0),
  (77, .getfield 25, 10, 3),
  (80, .iload_n 1, 0, 0),
  (81, .invokevirtual 266, 35, 1),
  (84, .ireturn, 0, 0),
  (85, .new 197, 1000, 199),
  (88, .dup, 0, 0),
  (89, .invokespecial 199, 999, 0),
  (92, .athrow, 0, 0)]
def q_k136 : List (Nat × Instr × Nat × Nat) := [(0, .iload_n 1, 0, 0),
  (1, .ifCond .lt 24, 25, 0),
  (4, .iload_n 1, 0, 0),
  (5, .aload_n 0, 0, 0),
  (6, .getfield 41, 10, 5),
  (9, .getfield 188, 6, 17),
  (12, .if_icmp .ge 13, 25, 0),
  (15, .iload_n 2, 0, 0),
  (16, .ifCond .lt 9, 25, 0),
  (19, .iload_n 2, 0, 0),
  (20, .bipush 6, 0, 0),
  (22, .if_icmp .lt 11, 33, 0),
  (25, .new 197, 1000, 199),
  (28, .dup, 0, 0),
  (29, .invokespecial 199, 999, 0),
  (32, .athrow, 0, 0),
  (33, .aload_n 0, 0, 0),
  (34, .getfield 41, 10, 5),
  (37, .getfield 269, 6, 9),
  (40, .iload_n 1, 0, 0),
  (41, .bipush 6, 0, 0),
  (43, .imul, 0, 0),
  (44, .iload_n 2, 0, 0),
  (45, .iadd, 0, 0),
  (46, .invokestatic 259, 309, 2),
  (49, .ireturn, 0, 0)]
def q_k137 : List (Nat × Instr × Nat × Nat) := [(0, .aload_n 0, 0, 0),
  (1, .iload_n 1, 0, 0),
  (2, .invokevirtual 212, 167, 1),
  (5, .aload_n 0, 0, 0),
  (6, .getfield 41, 10, 5),
  (9, .getfield 272, 6, 4),
  (12, .iload_n 1, 0, 0),
  (13, .invokestatic 259, 309, 2),
  (16, .ireturn, 0, 0)]
def q_k151 : List (Nat × Instr × Nat × Nat) := [(0, .aload_n 0, 0, 0),
  (1, .iload_n 1, 0, 0),
  (2, .invokevirtual 212, 167, 1),
  (5, .aload_n 0, 0, 0),
  (6, .getfield 41, 10, 5),
  (9, .getfield 188, 6, 17),
  (12, .ifCond .gt 7, 19, 0),
  (15, .fconst 0, 0, 0),
  (16, .goto 24, 40, 0),
  (19, .aload_n 0, 0, 0),
  (20, .getfield 41, 10, 5),
  (23, .getfield 272, 6, 4),
  (26, .iload_n 1, 0, 0),
  (27, .invokestatic 259, 309, 2),
  (30, .i2f, 0, 0),
  (31, .aload_n 0, 0, 0),
  (32, .getfield 41, 10, 5),
  (35, .getfield 188, 6, 17),
  (38, .i2f, 0, 0),
  (39, .fdiv, 0, 0),
  (40, .freturn, 0, 0)]
def q_k152 : List (Nat × Instr × Nat × Nat) := [(0, .aload_n 0, 0, 0),
  (1, .iload_n 1, 0, 0),
  (2, .invokevirtual 200, 166, 1),
  (5, .aload_n 0, 0, 0),
  (6, .getfield 41, 10, 5),
  (9, .invokevirtual 178, 64, 0),
  (12, .ifCond .eq 6, 18, 0),
  (15, .bipush (-2), 0, 0),
  (17, .ireturn, 0, 0),
  (18, .aload_n 0, 0, 0),
  (19, .getfield 41, 10, 5),
  (22, .iload_n 1, 0, 0),
  (23, .invokevirtual 209, 63, 1),
  (26, .aload_n 0, 0, 0),
  (27, .getfield 41, 10, 5),
  (30, .getfield 157, 6, 1),
  (33, .getfield 182, 9, 1),
  (36, .if_icmp .eq 6, 42, 0),
  (39, .bipush (-3), 0, 0),
  (41, .ireturn, 0, 0),
  (42, .aload_n 0, 0, 0),
  (43, .getfield 41, 10, 5),
  (46, .invokevirtual 237, 65, 0),
  (49, .iload_n 1, 0, 0),
  (50, .invokestatic 225, 314, 2),
  (53, .ifCond .ne 6, 59, 0),
  (56, .bipush (-4), 0, 0),
  (58, .ireturn, 0, 0),
  (59, .aload_n 0, 0, 0),
  (60, .getfield 48, 10, 6),
  (63, .aload_n 0, 0, 0),
  (64, .getfield 41, 10, 5),
  (67, .invokevirtual 308, 8, 1),
  (70, .aload_n 0, 0, 0),
  (71, .getfield 41, 10, 5),
  (74, .iload_n 1, 0, 0),
  (75, .invokevirtual 311, 66, 1),
  (78, .aload_n 0, 0, 0),
  (79, .getfield 41, 10, 5),
  (82, .getfield 157, 6, 1),
  (85, .getfield 314, 9, 2),
  (88, .ifCond .ne 16, 104, 0),
  (91, .aload_n 0, 0, 0),
  (92, .getfield 41, 10, 5),
  (95, .getfield 157, 6, 1),
  (98, .getfield 185, 9, 0),
  (101, .goto 21, 122, 0),
  (104, .aload_n 0, 0, 0),
  (105, .getfield 25, 10, 3),
  (108, .getfield 148, 4, 1),
  (111, .aload_n 0, 0, 0),
  (112, .getfield 41, 10, 5),
  (115, .getfield 157, 6, 1),
  (118, .getfield 182, 9, 1),
  (121, .iadd, 0, 0),
  (122, .ireturn, 0, 0)]
def q_k153 : List (Nat × Instr × Nat × Nat) := [(0, .aload_n 0, 0, 0),
  (1, .iload_n 1, 0, 0),
  (2, .iconst 1, 0, 0),
  (3, .bipush 52, 0, 0),
  (5, .invokevirtual 317, 169, 3),
  (8, .aload_n 0, 0, 0),
  (9, .getfield 41, 10, 5),
  (12, .invokevirtual 178, 64, 0),
  (15, .ifCond .eq 6, 21, 0),
  (18, .bipush (-2), 0, 0),
  (20, .ireturn, 0, 0),
  (21, .aload_n 0, 0, 0),
  (22, .getfield 48, 10, 6),
  (25, .aload_n 0, 0, 0),
  (26, .getfield 41, 10, 5),
  (29, .invokevirtual 308, 8, 1),
  (32, .iconst 0, 0, 0),
  (33, .istore_n 2, 0, 0),
  (34, .iload_n 2, 0, 0),
  (35, .iload_n 1, 0, 0),
  (36, .if_icmp .ge 33, 69, 0),
  (39, .aload_n 0, 0, 0),
  (40, .getfield 41, 10, 5),
  (43, .invokevirtual 178, 64, 0),
  (46, .ifCond .ne 23, 69, 0),
  (49, .aload_n 0, 0, 0),
  (50, .getfield 41, 10, 5),
  (53, .aload_n 0, 0, 0),
  (54, .getfield 41, 10, 5),
  (57, .invokevirtual 321, 74, 0),
  (60, .invokevirtual 311, 66, 1),
  (63, .iinc 2 1, 0, 0),
  (66, .goto (-32), 34, 0),
  (69, .iload_n 2, 0, 0),
  (70, .ireturn, 0, 0)]
def q_k154 : List (Nat × Instr × Nat × Nat) := [(0, .aload_n 0, 0, 0),
  (1, .iload_n 1, 0, 0),
  (2, .invokevirtual 212, 167, 1),
  (5, .aload_n 0, 0, 0),
  (6, .iload_n 2, 0, 0),
  (7, .iconst 0, 0, 0),
  (8, .aload_n 0, 0, 0),
  (9, .getfield 25, 10, 3),
  (12, .getfield 151, 4, 2),
  (15, .invokevirtual 317, 169, 3),
  (18, .aload_n 0, 0, 0),
  (19, .getfield 41, 10, 5),
  (22, .getfield 191, 6, 16),
  (25, .ifCond .le 6, 31, 0),
  (28, .bipush (-2), 0, 0),
  (30, .ireturn, 0, 0),
  (31, .aload_n 0, 0, 0),
  (32, .getfield 48, 10, 6),
  (35, .aload_n 0, 0, 0),
  (36, .getfield 41, 10, 5),
  (39, .invokevirtual 308, 8, 1),
  (42, .aload_n 0, 0, 0),
  (43, .getfield 41, 10, 5),
  (46, .getfield 275, 6, 3),
  (49, .iload_n 1, 0, 0),
  (50, .invokestatic 259, 309, 2),
  (53, .istore_n 3, 0, 0),
  (54, .aload_n 0, 0, 0),
  (55, .getfield 41, 10, 5),
  (58, .getfield 275, 6, 3),
  (61, .iload_n 1, 0, 0),
  (62, .iload_n 2, 0, 0),
  (63, .invokestatic 324, 310, 3),
  (66, .iload_n 3, 0, 0),
  (67, .iconst 1, 0, 0),
  (68, .iadd, 0, 0),
  (69, .ireturn, 0, 0)]
def q_k155 : List (Nat × Instr × Nat × Nat) := [(0, .aload_n 0, 0, 0),
  (1, .iload_n 1, 0, 0),
  (2, .iconst 0, 0, 0),
  (3, .ldc_w 328, 0, 99999),
  (6, .invokevirtual 317, 169, 3),
  (9, .aload_n 0, 0, 0),
  (10, .getfield 41, 10, 5),
  (13, .invokevirtual 178, 64, 0),
  (16, .ifCond .ne 6, 22, 0),
  (19, .bipush (-2), 0, 0),
  (21, .ireturn, 0, 0),
  (22, .aload_n 0, 0, 0),
  (23, .getfield 48, 10, 6),
  (26, .aload_n 0, 0, 0),
  (27, .getfield 41, 10, 5),
  (30, .invokevirtual 308, 8, 1),
  (33, .aload_n 0, 0, 0),
  (34, .getfield 32, 10, 4),
  (37, .iload_n 1, 0, 0),
  (38, .aload_n 0, 0, 0),
  (39, .getfield 25, 10, 3),
  (42, .invokevirtual 89, 30, 0),
  (45, .invokevirtual 93, 12, 2),
  (48, .aload_n 0, 0, 0),
  (49, .getfield 41, 10, 5),
  (52, .invokevirtual 329, 51, 0),
  (55, .aload_n 0, 0, 0),
  (56, .getfield 41, 10, 5),
  (59, .aload_n 0, 0, 0),
  (60, .getfield 25, 10, 3),
  (63, .aload_n 0, 0, 0),
  (64, .getfield 41, 10, 5),
  (67, .getfield 332, 6, 15),
  (70, .invokevirtual 335, 37, 1),
  (73, .putfield 332, 6, 15),
  (76, .aload_n 0, 0, 0),
  (77, .getfield 41, 10, 5),
  (80, .aload_n 0, 0, 0),
  (81, .getfield 32, 10, 4),
  (84, .invokevirtual 97, 55, 1),
  (87, .aload_n 0, 0, 0),
  (88, .getfield 41, 10, 5),
  (91, .invokevirtual 101, 53, 0),
  (94, .aload_n 0, 0, 0),
  (95, .getfield 41, 10, 5),
  (98, .getfield 157, 6, 1),
  (101, .getfield 185, 9, 0),
  (104, .ireturn, 0, 0)]
def q_k156 : List (Nat × Instr × Nat × Nat) := [(0, .aload_n 0, 0, 0),
  (1, .iload_n 1, 0, 0),
  (2, .iconst (-1), 0, 0),
  (3, .iconst 3, 0, 0),
  (4, .invokevirtual 317, 169, 3),
  (7, .aload_n 0, 0, 0),
  (8, .getfield 41, 10, 5),
  (11, .getfield 191, 6, 16),
  (14, .ifCond .le 6, 20, 0),
  (17, .bipush (-2), 0, 0),
  (19, .ireturn, 0, 0),
  (20, .aload_n 0, 0, 0),
  (21, .getfield 48, 10, 6),
  (24, .aload_n 0, 0, 0),
  (25, .getfield 41, 10, 5),
  (28, .invokevirtual 308, 8, 1),
  (31, .aload_n 0, 0, 0),
  (32, .getfield 41, 10, 5),
  (35, .getfield 338, 6, 14),
  (38, .istore_n 2, 0, 0),
  (39, .aload_n 0, 0, 0),
  (40, .getfield 41, 10, 5),
  (43, .iload_n 1, 0, 0),
  (44, .putfield 338, 6, 14),
  (47, .aload_n 0, 0, 0),
  (48, .getfield 41, 10, 5),
  (51, .invokevirtual 341, 54, 0),
  (54, .iload_n 2, 0, 0),
  (55, .iconst 1, 0, 0),
  (56, .iadd, 0, 0),
  (57, .ireturn, 0, 0)]
def q_k157 : List (Nat × Instr × Nat × Nat) := [(0, .aload_n 0, 0, 0),
  (1, .iload_n 1, 0, 0),
  (2, .iconst 0, 0, 0),
  (3, .iconst 3, 0, 0),
  (4, .invokevirtual 317, 169, 3),
  (7, .aload_n 0, 0, 0),
  (8, .getfield 41, 10, 5),
  (11, .getfield 157, 6, 1),
  (14, .getfield 314, 9, 2),
  (17, .ifCond .le 6, 23, 0),
  (20, .bipush (-2), 0, 0),
  (22, .ireturn, 0, 0),
  (23, .aload_n 0, 0, 0),
  (24, .getfield 48, 10, 6),
  (27, .aload_n 0, 0, 0),
  (28, .getfield 41, 10, 5),
  (31, .invokevirtual 308, 8, 1),
  (34, .aload_n 0, 0, 0),
  (35, .getfield 41, 10, 5),
  (38, .getfield 154, 6, 11),
  (41, .istore_n 2, 0, 0),
  (42, .aload_n 0, 0, 0),
  (43, .getfield 41, 10, 5),
  (46, .iload_n 1, 0, 0),
  (47, .putfield 154, 6, 11),
  (50, .iload_n 2, 0, 0),
  (51, .ireturn, 0, 0)]
def q_k158 : List (Nat × Instr × Nat × Nat) := [(0, .aload_n 0, 0, 0),
  (1, .iload_n 1, 0, 0),
  (2, .iconst 0, 0, 0),
  (3, .bipush 9, 0, 0),
  (5, .invokevirtual 317, 169, 3),
  (8, .aload_n 0, 0, 0),
  (9, .getfield 48, 10, 6),
  (12, .aload_n 0, 0, 0),
  (13, .getfield 41, 10, 5),
  (16, .invokevirtual 308, 8, 1),
  (19, .aload_n 0, 0, 0),
  (20, .getfield 41, 10, 5),
  (23, .getfield 172, 6, 12),
  (26, .istore_n 2, 0, 0),
  (27, .aload_n 0, 0, 0),
  (28, .getfield 41, 10, 5),
  (31, .iload_n 1, 0, 0),
  (32, .putfield 172, 6, 12),
  (35, .iload_n 2, 0, 0),
  (36, .ireturn, 0, 0)]
def q_k159 : List (Nat × Instr × Nat × Nat) := [(0, .aload_n 0, 0, 0),
  (1, .getfield 48, 10, 6),
  (4, .aload_n 0, 0, 0),
  (5, .getfield 41, 10, 5),
  (8, .invokevirtual 308, 8, 1),
  (11, .aload_n 0, 0, 0),
  (12, .getfield 41, 10, 5),
  (15, .getfield 175, 6, 13),
  (18, .istore_n 2, 0, 0),
  (19, .aload_n 0, 0, 0),
  (20, .getfield 41, 10, 5),
  (23, .iload_n 1, 0, 0),
  (24, .putfield 175, 6, 13),
  (27, .iload_n 2, 0, 0),
  (28, .ifCond .eq 7, 35, 0),
  (31, .iconst 1, 0, 0),
  (32, .goto 4, 36, 0),
  (35, .iconst 0, 0, 0),
  (36, .ireturn, 0, 0)]
def q_k163 : List (Nat × Instr × Nat × Nat) := [(0, .aload_n 0, 0, 0),
  (1, .getfield 48, 10, 6),
  (4, .getfield 351, 1, 2),
  (7, .ifCond .gt 5, 12, 0),
  (10, .iconst (-1), 0, 0),
  (11, .ireturn, 0, 0),
  (12, .aload_n 0, 0, 0),
  (13, .getfield 48, 10, 6),
  (16, .aload_n 0, 0, 0),
  (17, .getfield 41, 10, 5),
  (20, .invokevirtual 354, 9, 1),
  (23, .aload_n 0, 0, 0),
  (24, .getfield 48, 10, 6),
  (27, .getfield 351, 1, 2),
  (30, .ireturn, 0, 0)]
def q_k166 : List (Nat × Instr × Nat × Nat) := [(0, .iload_n 1, 0, 0),
  (1, .ifCond .lt 14, 15, 0),
  (4, .iload_n 1, 0, 0),
  (5, .aload_n 0, 0, 0),
  (6, .getfield 25, 10, 3),
  (9, .invokevirtual 89, 30, 0),
  (12, .if_icmp .lt 11, 23, 0),
  (15, .new 197, 1000, 199),
  (18, .dup, 0, 0),
  (19, .invokespecial 199, 999, 0),
  (22, .athrow, 0, 0),
  (23, .return_, 0, 0)]
def q_k167 : List (Nat × Instr × Nat × Nat) := [(0, .iload_n 1, 0, 0),
  (1, .ifCond .lt 14, 15, 0),
  (4, .iload_n 1, 0, 0),
  (5, .aload_n 0, 0, 0),
  (6, .getfield 25, 10, 3),
  (9, .getfield 148, 4, 1),
  (12, .if_icmp .lt 11, 23, 0),
  (15, .new 197, 1000, 199),
  (18, .dup, 0, 0),
  (19, .invokespecial 199, 999, 0),
  (22, .athrow, 0, 0),
  (23, .return_, 0, 0)]
def q_k168 : List (Nat × Instr × Nat × Nat) := [(0, .iload_n 1, 0, 0),
  (1, .ifCond .lt 8, 9, 0),
  (4, .iload_n 1, 0, 0),
  (5, .iconst 4, 0, 0),
  (6, .if_icmp .lt 11, 17, 0),
  (9, .new 197, 1000, 199),
  (12, .dup, 0, 0),
  (13, .invokespecial 199, 999, 0),
  (16, .athrow, 0, 0),
  (17, .return_, 0, 0)]
def q_k169 : List (Nat × Instr × Nat × Nat) := [(0, .iload_n 1, 0, 0),
  (1, .iload_n 2, 0, 0),
  (2, .if_icmp .lt 8, 10, 0),
  (5, .iload_n 1, 0, 0),
  (6, .iload_n 3, 0, 0),
  (7, .if_icmp .le 11, 18, 0),
  (10, .new 112, 1001, 114),
  (13, .dup, 0, 0),
  (14, .invokespecial 114, 999, 0),
  (17, .athrow, 0, 0),
  (18, .return_, 0, 0)]
def q_k170 : List (Nat × Instr × Nat × Nat) := [(0, .aload_n 0, 0, 0),
  (1, .invokespecial 1, 914, 0),
  (4, .aload_n 0, 0, 0),
  (5, .sipush 600, 0, 0),
  (8, .newarray .int, 0, 0),
  (10, .putfield 7, 11, 0),
  (13, .return_, 0, 0)]
def q_k171 : List (Nat × Instr × Nat × Nat) := [(0, .iconst 0, 0, 0),
  (1, .istore_n 2, 0, 0),
  (2, .iload_n 2, 0, 0),
  (3, .aload_n 1, 0, 0),
  (4, .invokevirtual 13, 900, 0),
  (7, .if_icmp .ge 33, 40, 0),
  (10, .aload_n 0, 0, 0),
  (11, .getfield 7, 11, 0),
  (14, .aload_n 0, 0, 0),
  (15, .getfield 19, 11, 1),
  (18, .aload_n 1, 0, 0),
  (19, .iload_n 2, 0, 0),
  (20, .invokevirtual 23, 901, 1),
  (23, .iastore, 0, 0),
  (24, .aload_n 0, 0, 0),
  (25, .dup, 0, 0),
  (26, .getfield 19, 11, 1),
  (29, .iconst 1, 0, 0),
  (30, .iadd, 0, 0),
  (31, .putfield 19, 11, 1),
  (34, .iinc 2 1, 0, 0),
  (37, .goto (-35), 2, 0),
  (40, .return_, 0, 0)]
def q_k172 : List (Nat × Instr × Nat × Nat) := [(0, .aload_n 0, 0, 0),
  (1, .ldc 27, 1, 11),
  (3, .invokevirtual 29, 171, 1),
  (6, .iconst 1, 0, 0),
  (7, .istore_n 2, 0, 0),
  (8, .iload_n 1, 0, 0),
  (9, .iload_n 2, 0, 0),
  (10, .idiv, 0, 0),
  (11, .bipush 9, 0, 0),
  (13, .if_icmp .le 11, 24, 0),
  (16, .iload_n 2, 0, 0),
  (17, .bipush 10, 0, 0),
  (19, .imul, 0, 0),
  (20, .istore_n 2, 0, 0),
  (21, .goto (-13), 8, 0),
  (24, .iload_n 2, 0, 0),
  (25, .ifCond .le 39, 64, 0),
  (28, .aload_n 0, 0, 0),
  (29, .getfield 7, 11, 0),
  (32, .aload_n 0, 0, 0),
  (33, .getfield 19, 11, 1),
  (36, .bipush 48, 0, 0),
  (38, .iload_n 1, 0, 0),
  (39, .iload_n 2, 0, 0),
  (40, .idiv, 0, 0),
  (41, .bipush 10, 0, 0),
  (43, .irem, 0, 0),
  (44, .iadd, 0, 0),
  (45, .iastore, 0, 0),
  (46, .aload_n 0, 0, 0),
  (47, .dup, 0, 0),
  (48, .getfield 19, 11, 1),
  (51, .iconst 1, 0, 0),
  (52, .iadd, 0, 0),
  (53, .putfield 19, 11, 1),
  (56, .iload_n 2, 0, 0),
  (57, .bipush 10, 0, 0),
  (59, .idiv, 0, 0),
  (60, .istore_n 2, 0, 0),
  (61, .goto (-37), 24, 0),
  (64, .return_, 0, 0)]
def q_k173 : List (Nat × Instr × Nat × Nat) := [(0, .iload_n 1, 0, 0),
  (1, .aload_n 0, 0, 0),
  (2, .arraylength, 0, 0),
  (3, .if_icmp .ge 12, 15, 0),
  (6, .aload_n 0, 0, 0),
  (7, .iload_n 1, 0, 0),
  (8, .iaload, 0, 0),
  (9, .ldc 33, 0, 1073741823),
  (11, .iand, 0, 0),
  (12, .goto 4, 16, 0),
  (15, .iconst 0, 0, 0),
  (16, .ireturn, 0, 0)]
def q_k174 : List (Nat × Instr × Nat × Nat) := [(0, .iconst 0, 0, 0),
  (1, .istore_n 2, 0, 0),
  (2, .iload_n 2, 0, 0),
  (3, .aload_n 0, 0, 0),
  (4, .getfield 19, 11, 1),
  (7, .if_icmp .ge 90, 97, 0),
  (10, .iconst 5, 0, 0),
  (11, .newarray .int, 0, 0),
  (13, .astore_n 3, 0, 0),
  (14, .iconst 0, 0, 0),
  (15, .istore 4, 0, 0),
  (17, .iload 4, 0, 0),
  (19, .bipush 20, 0, 0),
  (21, .if_icmp .ge 50, 71, 0),
  (24, .aload_n 3, 0, 0),
  (25, .iload 4, 0, 0),
  (27, .iconst 4, 0, 0),
  (28, .idiv, 0, 0),
  (29, .aload_n 3, 0, 0),
  (30, .iload 4, 0, 0),
  (32, .iconst 4, 0, 0),
  (33, .idiv, 0, 0),
  (34, .iaload, 0, 0),
  (35, .bipush 8, 0, 0),
  (37, .ishl, 0, 0),
  (38, .iload_n 2, 0, 0),
  (39, .iload 4, 0, 0),
  (41, .iadd, 0, 0),
  (42, .aload_n 0, 0, 0),
  (43, .getfield 19, 11, 1),
  (46, .if_icmp .ge 15, 61, 0),
  (49, .aload_n 0, 0, 0),
  (50, .getfield 7, 11, 0),
  (53, .iload_n 2, 0, 0),
  (54, .iload 4, 0, 0),
  (56, .iadd, 0, 0),
  (57, .iaload, 0, 0),
  (58, .goto 5, 63, 0),
  (61, .bipush 32, 0, 0),
  (63, .ior, 0, 0),
  (64, .iastore, 0, 0),
  (65, .iinc 4 1, 0, 0),
  (68, .goto (-51), 17, 0),
  (71, .aload_n 1, 0, 0),
  (72, .aload_n 3, 0, 0),
  (73, .iconst 0, 0, 0),
  (74, .iaload, 0, 0),
  (75, .aload_n 3, 0, 0),
  (76, .iconst 1, 0, 0),
  (77, .iaload, 0, 0),
  (78, .aload_n 3, 0, 0),
  (79, .iconst 2, 0, 0),
  (80, .iaload, 0, 0),
  (81, .aload_n 3, 0, 0),
  (82, .iconst 3, 0, 0),
  (83, .iaload, 0, 0),
  (84, .aload_n 3, 0, 0),
  (85, .iconst 4, 0, 0),
  (86, .iaload, 0, 0),
  (87, .invokevirtual 34, 117, 5),
  (90, .pop, 0, 0),
  (91, .iinc 2 20, 0, 0),
  (94, .goto (-92), 2, 0),
  (97, .aload_n 0, 0, 0),
  (98, .getfield 19, 11, 1),
  (101, .istore_n 2, 0, 0),
  (102, .aload_n 0, 0, 0),
  (103, .iconst 0, 0, 0),
  (104, .putfield 19, 11, 1),
  (107, .iload_n 2, 0, 0),
  (108, .ireturn, 0, 0)]
set_option maxRecDepth 100000 in
def q_k175 : List (Nat × Instr × Nat × Nat) := [(0, .aload_n 2, 0, 0),
  (1, .iconst 0, 0, 0),
  (2, .invokestatic 40, 173, 2),
  (5, .istore_n 3, 0, 0),
  (6, .iconst 4, 0, 0),
  (7, .iload_n 3, 0, 0),
  (8, .bipush 6, 0, 0),
  (10, .irem, 0, 0),
  (11, .iadd, 0, 0),
  (12, .istore 4, 0, 0),
  (14, .iconst 2, 0, 0),
  (15, .iload_n 3, 0, 0),
  (16, .bipush 6, 0, 0),
  (18, .idiv, 0, 0),
  (19, .iconst 3, 0, 0),
  (20, .irem, 0, 0),
  (21, .iadd, 0, 0),
  (22, .istore 5, 0, 0),
  (24, .iconst 1, 0, 0),
  (25, .iload_n 3, 0, 0),
  (26, .bipush 18, 0, 0),
  (28, .idiv, 0, 0),
  (29, .bipush 6, 0, 0),
  (31, .iconst 4, 0, 0),
  (32, .iload 4, 0, 0),
  (34, .imul, 0, 0),
  (35, .iload 5, 0, 0),
  (37, .idiv, 0, 0),
  (38, .invokestatic 44, 911, 2),
  (41, .irem, 0, 0),
  (42, .iadd, 0, 0),
  (43, .istore 6, 0, 0),
  (45, .iload_n 3, 0, 0),
  (46, .bipush 108, 0, 0),
  (48, .idiv, 0, 0),
  (49, .iconst 4, 0, 0),
  (50, .irem, 0, 0),
  (51, .istore 7, 0, 0),
  (53, .iload_n 3, 0, 0),
  (54, .sipush 432, 0, 0),
  (57, .idiv, 0, 0),
  (58, .iconst 5, 0, 0),
  (59, .irem, 0, 0),
  (60, .iconst 1, 0, 0),
  (61, .isub, 0, 0),
  (62, .istore 8, 0, 0),
  (64, .iload_n 3, 0, 0),
  (65, .sipush 2160, 0, 0),
  (68, .idiv, 0, 0),
  (69, .bipush 13, 0, 0),
  (71, .irem, 0, 0),
  (72, .istore 9, 0, 0),
  (74, .iload_n 3, 0, 0),
  (75, .sipush 28080, 0, 0),
  (78, .idiv, 0, 0),
  (79, .iconst 4, 0, 0),
  (80, .irem, 0, 0),
  (81, .istore 10, 0, 0),
  (83, .iload_n 3, 0, 0),
  (84, .ldc 50, 0, 112320),
  (86, .idiv, 0, 0),
  (87, .iconst 2, 0, 0),
  (88, .irem, 0, 0),
  (89, .iconst 1, 0, 0),
  (90, .if_icmp .ne 7, 97, 0),
  (93, .iconst 1, 0, 0),
  (94, .goto 4, 98, 0),
  (97, .iconst 0, 0, 0),
  (98, .istore 11, 0, 0),
  (100, .iload_n 3, 0, 0),
  (101, .ldc 51, 0, 224640),
  (103, .idiv, 0, 0),
  (104, .iload 5, 0, 0),
  (106, .irem, 0, 0),
  (107, .istore 12, 0, 0),
  (109, .aload_n 2, 0, 0),
  (110, .iconst 1, 0, 0),
  (111, .invokestatic 40, 173, 2),
  (114, .ldc 52, 0, 100000),
  (116, .irem, 0, 0),
  (117, .istore 13, 0, 0),
  (119, .aload_n 0, 0, 0),
  (120, .ldc 53, 1, 10),
  (122, .invokevirtual 29, 171, 1),
  (125, .aload_n 0, 0, 0),
  (126, .iload 4, 0, 0),
  (128, .invokevirtual 55, 172, 1),
  (131, .aload_n 0, 0, 0),
  (132, .iload 5, 0, 0),
  (134, .invokevirtual 55, 172, 1),
  (137, .aload_n 0, 0, 0),
  (138, .iload 6, 0, 0),
  (140, .invokevirtual 55, 172, 1),
  (143, .aload_n 0, 0, 0),
  (144, .ldc 59, 1, 12),
  (146, .invokevirtual 29, 171, 1),
  (149, .aload_n 0, 0, 0),
  (150, .iload 7, 0, 0),
  (152, .invokevirtual 55, 172, 1),
  (155, .iload 8, 0, 0),
  (157, .ifCond .lt 50, 207, 0),
  (160, .aload_n 0, 0, 0),
  (161, .ldc 61, 1, 13),
  (163, .invokevirtual 29, 171, 1),
  (166, .aload_n 0, 0, 0),
  (167, .iload 8, 0, 0),
  (169, .invokevirtual 55, 172, 1),
  (172, .aload_n 0, 0, 0),
  (173, .ldc 63, 1, 14),
  (175, .invokevirtual 29, 171, 1),
  (178, .aload_n 0, 0, 0),
  (179, .iload 9, 0, 0),
  (181, .invokevirtual 55, 172, 1),
  (184, .aload_n 0, 0, 0),
  (185, .ldc 65, 1, 15),
  (187, .invokevirtual 29, 171, 1),
  (190, .aload_n 0, 0, 0),
  (191, .iload 10, 0, 0),
  (193, .invokevirtual 55, 172, 1),
  (196, .iload 11, 0, 0),
  (198, .ifCond .eq 9, 207, 0),
  (201, .aload_n 0, 0, 0),
  (202, .ldc 67, 1, 16),
  (204, .invokevirtual 29, 171, 1),
  (207, .aload_n 0, 0, 0),
  (208, .ldc 69, 1, 17),
  (210, .invokevirtual 29, 171, 1),
  (213, .aload_n 0, 0, 0),
  (214, .iload 12, 0, 0),
  (216, .invokevirtual 55, 172, 1),
  (219, .aload_n 0, 0, 0),
  (220, .ldc 71, 1, 18),
  (222, .invokevirtual 29, 171, 1),
  (225, .aload_n 0, 0, 0),
  (226, .iload 13, 0, 0),
  (228, .invokevirtual 55, 172, 1),
  (231, .aload_n 0, 0, 0),
  (232, .ldc 73, 1, 19),
  (234, .invokevirtual 29, 171, 1),
  (237, .aload_n 1, 0, 0),
  (238, .aload_n 0, 0, 0),
  (239, .aload_n 1, 0, 0),
  (240, .invokevirtual 75, 174, 1),
  (243, .invokevirtual 79, 119, 1),
  (246, .iload 5, 0, 0),
  (248, .iload 6, 0, 0),
  (250, .imul, 0, 0),
  (251, .if_icmp .ne 51, 302, 0),
  (254, .aload_n 1, 0, 0),
  (255, .invokevirtual 83, 120, 0),
  (258, .iconst (-1), 0, 0),
  (259, .if_icmp .ne 43, 302, 0),
  (262, .aload_n 1, 0, 0),
  (263, .iconst 0, 0, 0),
  (264, .invokevirtual 86, 122, 1),
  (267, .iload 4, 0, 0),
  (269, .if_icmp .ne 33, 302, 0),
  (272, .aload_n 1, 0, 0),
  (273, .iconst 1, 0, 0),
  (274, .invokevirtual 86, 122, 1),
  (277, .iload 5, 0, 0),
  (279, .if_icmp .ne 23, 302, 0),
  (282, .aload_n 1, 0, 0),
  (283, .iconst 2, 0, 0),
  (284, .invokevirtual 86, 122, 1),
  (287, .iload 6, 0, 0),
  (289, .if_icmp .ne 13, 302, 0),
  (292, .aload_n 1, 0, 0),
  (293, .iconst 3, 0, 0),
  (294, .invokevirtual 86, 122, 1),
  (297, .iload 7, 0, 0),
  (299, .if_icmp .eq 5, 304, 0),
  (302, .iconst 0, 0, 0),
  (303, .ireturn, 0, 0),
  (304, .aload_n 1, 0, 0),
  (305, .iconst 4, 0, 0),
  (306, .invokevirtual 86, 122, 1),
  (309, .iload 8, 0, 0),
  (311, .if_icmp .ne 51, 362, 0),
  (314, .aload_n 1, 0, 0),
  (315, .iconst 5, 0, 0),
  (316, .invokevirtual 86, 122, 1),
  (319, .iload 8, 0, 0),
  (321, .ifCond .ge 7, 328, 0),
  (324, .iconst 0, 0, 0),
  (325, .goto 5, 330, 0),
  (328, .iload 9, 0, 0),
  (330, .if_icmp .ne 32, 362, 0),
  (333, .aload_n 1, 0, 0),
  (334, .bipush 9, 0, 0),
  (336, .invokevirtual 86, 122, 1),
  (339, .iload 12, 0, 0),
  (341, .if_icmp .ne 21, 362, 0),
  (344, .aload_n 1, 0, 0),
  (345, .bipush 12, 0, 0),
  (347, .invokevirtual 86, 122, 1),
  (350, .ifCond .ne 12, 362, 0),
  (353, .aload_n 1, 0, 0),
  (354, .bipush 13, 0, 0),
  (356, .invokevirtual 86, 122, 1),
  (359, .ifCond .eq 5, 364, 0),
  (362, .iconst 0, 0, 0),
  (363, .ireturn, 0, 0),
  (364, .aload_n 1, 0, 0),
  (365, .iload 4, 0, 0),
  (367, .iload 5, 0, 0),
  (369, .iload 6, 0, 0),
  (371, .iload 13, 0, 0),
  (373, .invokestatic 88, 176, 5),
  (376, .ireturn, 0, 0)]
def q_k176 : List (Nat × Instr × Nat × Nat) := [(0, .bipush 52, 0, 0),
  (2, .newarray .int, 0, 0),
  (4, .astore 5, 0, 0),
  (6, .iconst 0, 0, 0),
  (7, .istore 6, 0, 0),
  (9, .iload 6, 0, 0),
  (11, .bipush 52, 0, 0),
  (13, .if_icmp .ge 16, 29, 0),
  (16, .aload 5, 0, 0),
  (18, .iload 6, 0, 0),
  (20, .iload 6, 0, 0),
  (22, .iastore, 0, 0),
  (23, .iinc 6 1, 0, 0),
  (26, .goto (-17), 9, 0),
  (29, .iload 4, 0, 0),
  (31, .istore 6, 0, 0),
  (33, .iconst 4, 0, 0),
  (34, .iload_n 1, 0, 0),
  (35, .imul, 0, 0),
  (36, .iconst 1, 0, 0),
  (37, .isub, 0, 0),
  (38, .istore 7, 0, 0),
  (40, .iload 7, 0, 0),
  (42, .ifCond .le 58, 100, 0),
  (45, .iload 6, 0, 0),
  (47, .sipush 1103, 0, 0),
  (50, .imul, 0, 0),
  (51, .sipush 12345, 0, 0),
  (54, .iadd, 0, 0),
  (55, .ldc 92, 0, 100003),
  (57, .irem, 0, 0),
  (58, .istore 6, 0, 0),
  (60, .aload 5, 0, 0),
  (62, .iload 7, 0, 0),
  (64, .iaload, 0, 0),
  (65, .istore 8, 0, 0),
  (67, .aload 5, 0, 0),
  (69, .iload 7, 0, 0),
  (71, .aload 5, 0, 0),
  (73, .iload 6, 0, 0),
  (75, .iload 7, 0, 0),
  (77, .iconst 1, 0, 0),
  (78, .iadd, 0, 0),
  (79, .irem, 0, 0),
  (80, .iaload, 0, 0),
  (81, .iastore, 0, 0),
  (82, .aload 5, 0, 0),
  (84, .iload 6, 0, 0),
  (86, .iload 7, 0, 0),
  (88, .iconst 1, 0, 0),
  (89, .iadd, 0, 0),
  (90, .irem, 0, 0),
  (91, .iload 8, 0, 0),
  (93, .iastore, 0, 0),
  (94, .iinc 7 (-1), 0, 0),
  (97, .goto (-57), 40, 0),
  (100, .iconst 0, 0, 0),
  (101, .istore 7, 0, 0),
  (103, .iload 7, 0, 0),
  (105, .iconst 4, 0, 0),
  (106, .iload_n 1, 0, 0),
  (107, .imul, 0, 0),
  (108, .if_icmp .ge 39, 147, 0),
  (111, .aload_n 0, 0, 0),
  (112, .aload 5, 0, 0),
  (114, .iload 7, 0, 0),
  (116, .iaload, 0, 0),
  (117, .invokevirtual 93, 125, 1),
  (120, .iload 7, 0, 0),
  (122, .iload_n 2, 0, 0),
  (123, .iload_n 3, 0, 0),
  (124, .imul, 0, 0),
  (125, .if_icmp .ge 10, 135, 0),
  (128, .iload 7, 0, 0),
  (130, .iload_n 2, 0, 0),
  (131, .irem, 0, 0),
  (132, .goto 4, 136, 0),
  (135, .iconst (-1), 0, 0),
  (136, .if_icmp .eq 5, 141, 0),
  (139, .iconst 0, 0, 0),
  (140, .ireturn, 0, 0),
  (141, .iinc 7 1, 0, 0),
  (144, .goto (-41), 103, 0),
  (147, .iconst 1, 0, 0),
  (148, .ireturn, 0, 0)]
def q_k177 : List (Nat × Instr × Nat × Nat) := [(0, .iload_n 1, 0, 0),
  (1, .bipush 10, 0, 0),
  (3, .idiv, 0, 0),
  (4, .istore_n 2, 0, 0),
  (5, .iload_n 1, 0, 0),
  (6, .bipush 10, 0, 0),
  (8, .irem, 0, 0),
  (9, .tableswitch 179 0 8 #[51, 51, 51, 88, 98, 129, 152, 162, 170], 0, 51),
  (60, .aload_n 0, 0, 0),
  (61, .bipush 9, 0, 0),
  (63, .invokevirtual 86, 122, 1),
  (66, .istore_n 3, 0, 0),
  (67, .iload_n 3, 0, 0),
  (68, .ifCond .ge 12, 80, 0),
  (71, .aload_n 0, 0, 0),
  (72, .iload_n 2, 0, 0),
  (73, .ldc 52, 0, 100000),
  (75, .irem, 0, 0),
  (76, .invokevirtual 96, 155, 1),
  (79, .ireturn, 0, 0),
  (80, .aload_n 0, 0, 0),
  (81, .aload_n 0, 0, 0),
  (82, .iload_n 3, 0, 0),
  (83, .iload_n 2, 0, 0),
  (84, .aload_n 0, 0, 0),
  (85, .iload_n 3, 0, 0),
  (86, .invokevirtual 99, 126, 1),
  (89, .irem, 0, 0),
  (90, .invokevirtual 102, 127, 2),
  (93, .invokevirtual 105, 152, 1),
  (96, .ireturn, 0, 0),
  (97, .aload_n 0, 0, 0),
  (98, .iconst 1, 0, 0),
  (99, .iload_n 2, 0, 0),
  (100, .iconst 3, 0, 0),
  (101, .irem, 0, 0),
  (102, .iadd, 0, 0),
  (103, .invokevirtual 108, 153, 1),
  (106, .ireturn, 0, 0),
  (107, .aload_n 0, 0, 0),
  (108, .bipush 9, 0, 0),
  (110, .invokevirtual 86, 122, 1),
  (113, .ifCond .ge 14, 127, 0),
  (116, .aload_n 0, 0, 0),
  (117, .iload_n 2, 0, 0),
  (118, .ldc 52, 0, 100000),
  (120, .irem, 0, 0),
  (121, .invokevirtual 96, 155, 1),
  (124, .goto 13, 137, 0),
  (127, .aload_n 0, 0, 0),
  (128, .iconst 1, 0, 0),
  (129, .iload_n 2, 0, 0),
  (130, .bipush 9, 0, 0),
  (132, .irem, 0, 0),
  (133, .iadd, 0, 0),
  (134, .invokevirtual 108, 153, 1),
  (137, .ireturn, 0, 0),
  (138, .aload_n 0, 0, 0),
  (139, .iload_n 2, 0, 0),
  (140, .aload_n 0, 0, 0),
  (141, .iconst 1, 0, 0),
  (142, .invokevirtual 86, 122, 1),
  (145, .irem, 0, 0),
  (146, .iload_n 2, 0, 0),
  (147, .iconst 4, 0, 0),
  (148, .idiv, 0, 0),
  (149, .aload_n 0, 0, 0),
  (150, .iconst 2, 0, 0),
  (151, .invokevirtual 86, 122, 1),
  (154, .iconst 1, 0, 0),
  (155, .iadd, 0, 0),
  (156, .irem, 0, 0),
  (157, .invokevirtual 111, 154, 2),
  (160, .ireturn, 0, 0),
  (161, .aload_n 0, 0, 0),
  (162, .iload_n 2, 0, 0),
  (163, .iconst 5, 0, 0),
  (164, .irem, 0, 0),
  (165, .iconst 1, 0, 0),
  (166, .isub, 0, 0),
  (167, .invokevirtual 114, 156, 1),
  (170, .ireturn, 0, 0),
  (171, .aload_n 0, 0, 0),
  (172, .iload_n 2, 0, 0),
  (173, .iconst 4, 0, 0),
  (174, .irem, 0, 0),
  (175, .invokevirtual 117, 157, 1),
  (178, .ireturn, 0, 0),
  (179, .aload_n 0, 0, 0),
  (180, .iload_n 2, 0, 0),
  (181, .bipush 10, 0, 0),
  (183, .irem, 0, 0),
  (184, .invokevirtual 120, 158, 1),
  (187, .ireturn, 0, 0),
  (188, .aload_n 0, 0, 0),
  (189, .iload_n 2, 0, 0),
  (190, .iconst 2, 0, 0),
  (191, .irem, 0, 0),
  (192, .ifCond .ne 7, 199, 0),
  (195, .iconst 1, 0, 0),
  (196, .goto 4, 200, 0),
  (199, .iconst 0, 0, 0),
  (200, .invokevirtual 123, 159, 1),
  (203, .ireturn, 0, 0)]
def q_k178 : List (Nat × Instr × Nat × Nat) := [(0, .iconst 2, 0, 0),
  (1, .istore_n 2, 0, 0),
  (2, .iload_n 2, 0, 0),
  (3, .bipush 26, 0, 0),
  (5, .if_icmp .ge 54, 59, 0),
  (8, .aload_n 0, 0, 0),
  (9, .invokestatic 136, 179, 1),
  (12, .ifCond .eq 29, 41, 0),
  (15, .aload_n 0, 0, 0),
  (16, .invokestatic 140, 181, 1),
  (19, .ifCond .eq 22, 41, 0),
  (22, .aload_n 0, 0, 0),
  (23, .invokestatic 143, 182, 1),
  (26, .ifCond .eq 15, 41, 0),
  (29, .aload_n 0, 0, 0),
  (30, .aload_n 1, 0, 0),
  (31, .iload_n 2, 0, 0),
  (32, .invokestatic 40, 173, 2),
  (35, .invokestatic 146, 183, 2),
  (38, .ifCond .ne 5, 43, 0),
  (41, .iconst 0, 0, 0),
  (42, .ireturn, 0, 0),
  (43, .aload_n 0, 0, 0),
  (44, .aload_n 1, 0, 0),
  (45, .iload_n 2, 0, 0),
  (46, .invokestatic 40, 173, 2),
  (49, .invokestatic 150, 177, 2),
  (52, .istore_n 3, 0, 0),
  (53, .iinc 2 1, 0, 0),
  (56, .goto (-54), 2, 0),
  (59, .aload_n 0, 0, 0),
  (60, .invokestatic 136, 179, 1),
  (63, .ifCond .eq 14, 77, 0),
  (66, .aload_n 0, 0, 0),
  (67, .invokestatic 143, 182, 1),
  (70, .ifCond .eq 7, 77, 0),
  (73, .iconst 1, 0, 0),
  (74, .goto 4, 78, 0),
  (77, .iconst 0, 0, 0),
  (78, .ireturn, 0, 0)]
def q_k179 : List (Nat × Instr × Nat × Nat) := [(0, .bipush 52, 0, 0),
  (2, .newarray .int, 0, 0),
  (4, .astore_n 1, 0, 0),
  (5, .iconst 0, 0, 0),
  (6, .istore_n 2, 0, 0),
  (7, .iconst 0, 0, 0),
  (8, .istore_n 3, 0, 0),
  (9, .iload_n 3, 0, 0),
  (10, .aload_n 0, 0, 0),
  (11, .iconst 1, 0, 0),
  (12, .invokevirtual 86, 122, 1),
  (15, .if_icmp .ge 74, 89, 0),
  (18, .iconst (-1), 0, 0),
  (19, .istore 4, 0, 0),
  (21, .iconst 0, 0, 0),
  (22, .istore 5, 0, 0),
  (24, .iload 5, 0, 0),
  (26, .aload_n 0, 0, 0),
  (27, .iload_n 3, 0, 0),
  (28, .invokevirtual 99, 126, 1),
  (31, .if_icmp .ge 52, 83, 0),
  (34, .aload_n 0, 0, 0),
  (35, .iload_n 3, 0, 0),
  (36, .iload 5, 0, 0),
  (38, .invokevirtual 102, 127, 2),
  (41, .istore 6, 0, 0),
  (43, .iload 6, 0, 0),
  (45, .iload 4, 0, 0),
  (47, .if_icmp .le 13, 60, 0),
  (50, .aload_n 0, 0, 0),
  (51, .iload 6, 0, 0),
  (53, .invokevirtual 93, 125, 1),
  (56, .iload_n 3, 0, 0),
  (57, .if_icmp .eq 5, 62, 0),
  (60, .iconst 0, 0, 0),
  (61, .ireturn, 0, 0),
  (62, .iload 6, 0, 0),
  (64, .istore 4, 0, 0),
  (66, .aload_n 1, 0, 0),
  (67, .iload 6, 0, 0),
  (69, .dup2, 0, 0),
  (70, .iaload, 0, 0),
  (71, .iconst 1, 0, 0),
  (72, .iadd, 0, 0),
  (73, .iastore, 0, 0),
  (74, .iinc 2 1, 0, 0),
  (77, .iinc 5 1, 0, 0),
  (80, .goto (-56), 24, 0),
  (83, .iinc 3 1, 0, 0),
  (86, .goto (-77), 9, 0),
  (89, .iconst 0, 0, 0),
  (90, .istore_n 3, 0, 0),
  (91, .iload_n 3, 0, 0),
  (92, .aload_n 0, 0, 0),
  (93, .bipush 12, 0, 0),
  (95, .invokevirtual 86, 122, 1),
  (98, .if_icmp .ge 56, 154, 0),
  (101, .aload_n 0, 0, 0),
  (102, .iload_n 3, 0, 0),
  (103, .iconst 0, 0, 0),
  (104, .invokevirtual 154, 135, 2),
  (107, .istore 4, 0, 0),
  (109, .aload_n 0, 0, 0),
  (110, .iload 4, 0, 0),
  (112, .invokevirtual 93, 125, 1),
  (115, .iconst (-1), 0, 0),
  (116, .if_icmp .ne 19, 135, 0),
  (119, .aload_n 0, 0, 0),
  (120, .iload_n 3, 0, 0),
  (121, .iconst 2, 0, 0),
  (122, .invokevirtual 154, 135, 2),
  (125, .iload_n 3, 0, 0),
  (126, .aload_n 0, 0, 0),
  (127, .iconst 1, 0, 0),
  (128, .invokevirtual 86, 122, 1),
  (131, .idiv, 0, 0),
  (132, .if_icmp .eq 5, 137, 0),
  (135, .iconst 0, 0, 0),
  (136, .ireturn, 0, 0),
  (137, .aload_n 1, 0, 0),
  (138, .iload 4, 0, 0),
  (140, .dup2, 0, 0),
  (141, .iaload, 0, 0),
  (142, .iconst 1, 0, 0),
  (143, .iadd, 0, 0),
  (144, .iastore, 0, 0),
  (145, .iinc 2 1, 0, 0),
  (148, .iinc 3 1, 0, 0),
  (151, .goto (-60), 91, 0),
  (154, .iconst 0, 0, 0),
  (155, .istore_n 3, 0, 0),
  (156, .iload_n 3, 0, 0),
  (157, .bipush 52, 0, 0),
  (159, .if_icmp .ge 18, 177, 0),
  (162, .aload_n 1, 0, 0),
  (163, .iload_n 3, 0, 0),
  (164, .iaload, 0, 0),
  (165, .iconst 1, 0, 0),
  (166, .if_icmp .le 5, 171, 0),
  (169, .iconst 0, 0, 0),
  (170, .ireturn, 0, 0),
  (171, .iinc 3 1, 0, 0),
  (174, .goto (-18), 156, 0),
  (177, .iload_n 2, 0, 0),
  (178, .aload_n 0, 0, 0),
  (179, .iconst 1, 0, 0),
  (180, .invokevirtual 86, 122, 1),
  (183, .aload_n 0, 0, 0),
  (184, .iconst 2, 0, 0),
  (185, .invokevirtual 86, 122, 1),
  (188, .imul, 0, 0),
  (189, .if_icmp .ne 39, 228, 0),
  (192, .aload_n 0, 0, 0),
  (193, .bipush 9, 0, 0),
  (195, .invokevirtual 86, 122, 1),
  (198, .ifCond .ge 7, 205, 0),
  (201, .iconst 1, 0, 0),
  (202, .goto 4, 206, 0),
  (205, .iconst 0, 0, 0),
  (206, .aload_n 0, 0, 0),
  (207, .bipush 12, 0, 0),
  (209, .invokevirtual 86, 122, 1),
  (212, .iload_n 2, 0, 0),
  (213, .if_icmp .ne 7, 220, 0),
  (216, .iconst 1, 0, 0),
  (217, .goto 4, 221, 0),
  (220, .iconst 0, 0, 0),
  (221, .if_icmp .ne 7, 228, 0),
  (224, .iconst 1, 0, 0),
  (225, .goto 4, 229, 0),
  (228, .iconst 0, 0, 0),
  (229, .ireturn, 0, 0)]
def q_k180 : List (Nat × Instr × Nat × Nat) := [(0, .aload_n 0, 0, 0),
  (1, .iload_n 1, 0, 0),
  (2, .invokevirtual 157, 123, 1),
  (5, .iload_n 3, 0, 0),
  (6, .if_icmp .ne 14, 20, 0),
  (9, .aload_n 0, 0, 0),
  (10, .iload_n 1, 0, 0),
  (11, .invokevirtual 160, 124, 1),
  (14, .iload 4, 0, 0),
  (16, .iadd, 0, 0),
  (17, .goto 21, 38, 0),
  (20, .aload_n 0, 0, 0),
  (21, .iload_n 1, 0, 0),
  (22, .invokevirtual 157, 123, 1),
  (25, .iload_n 2, 0, 0),
  (26, .if_icmp .ne 11, 37, 0),
  (29, .aload_n 0, 0, 0),
  (30, .iload_n 1, 0, 0),
  (31, .invokevirtual 160, 124, 1),
  (34, .goto 4, 38, 0),
  (37, .iconst 0, 0, 0),
  (38, .ireturn, 0, 0)]
set_option maxRecDepth 100000 in
def q_k181 : List (Nat × Instr × Nat × Nat) := [(0, .aload_n 0, 0, 0),
  (1, .bipush 9, 0, 0),
  (3, .invokevirtual 86, 122, 1),
  (6, .istore_n 1, 0, 0),
  (7, .iconst 0, 0, 0),
  (8, .istore_n 2, 0, 0),
  (9, .aload_n 0, 0, 0),
  (10, .invokevirtual 163, 132, 0),
  (13, .istore_n 3, 0, 0),
  (14, .aload_n 0, 0, 0),
  (15, .iconst 4, 0, 0),
  (16, .invokevirtual 86, 122, 1),
  (19, .istore 4, 0, 0),
  (21, .aload_n 0, 0, 0),
  (22, .bipush 11, 0, 0),
  (24, .invokevirtual 86, 122, 1),
  (27, .aload_n 0, 0, 0),
  (28, .iconst 1, 0, 0),
  (29, .invokevirtual 86, 122, 1),
  (32, .imul, 0, 0),
  (33, .istore 5, 0, 0),
  (35, .iconst (-1), 0, 0),
  (36, .istore 6, 0, 0),
  (38, .iconst (-1), 0, 0),
  (39, .istore 7, 0, 0),
  (41, .iload 5, 0, 0),
  (43, .istore 8, 0, 0),
  (45, .iload 8, 0, 0),
  (47, .aload_n 0, 0, 0),
  (48, .bipush 12, 0, 0),
  (50, .invokevirtual 86, 122, 1),
  (53, .if_icmp .ge 53, 106, 0),
  (56, .aload_n 0, 0, 0),
  (57, .aload_n 0, 0, 0),
  (58, .iload 8, 0, 0),
  (60, .iconst 0, 0, 0),
  (61, .invokevirtual 154, 135, 2),
  (64, .iload_n 3, 0, 0),
  (65, .iload 4, 0, 0),
  (67, .aload_n 0, 0, 0),
  (68, .iconst 5, 0, 0),
  (69, .invokevirtual 86, 122, 1),
  (72, .invokestatic 166, 180, 5),
  (75, .istore 9, 0, 0),
  (77, .iload 9, 0, 0),
  (79, .iload 6, 0, 0),
  (81, .if_icmp .gt 6, 87, 0),
  (84, .goto 16, 100, 0),
  (87, .iload 9, 0, 0),
  (89, .istore 6, 0, 0),
  (91, .aload_n 0, 0, 0),
  (92, .iload 8, 0, 0),
  (94, .iconst 1, 0, 0),
  (95, .invokevirtual 154, 135, 2),
  (98, .istore 7, 0, 0),
  (100, .iinc 8 1, 0, 0),
  (103, .goto (-58), 45, 0),
  (106, .aload_n 0, 0, 0),
  (107, .invokevirtual 170, 133, 0),
  (110, .iload 7, 0, 0),
  (112, .if_icmp .ne 50, 162, 0),
  (115, .iload_n 3, 0, 0),
  (116, .ifCond .ge 7, 123, 0),
  (119, .iconst 1, 0, 0),
  (120, .goto 4, 124, 0),
  (123, .iconst 0, 0, 0),
  (124, .iload 5, 0, 0),
  (126, .aload_n 0, 0, 0),
  (127, .bipush 12, 0, 0),
  (129, .invokevirtual 86, 122, 1),
  (132, .if_icmp .ne 7, 139, 0),
  (135, .iconst 1, 0, 0),
  (136, .goto 4, 140, 0),
  (139, .iconst 0, 0, 0),
  (140, .if_icmp .ne 22, 162, 0),
  (143, .iload_n 3, 0, 0),
  (144, .ifCond .lt 20, 164, 0),
  (147, .aload_n 0, 0, 0),
  (148, .aload_n 0, 0, 0),
  (149, .iload 5, 0, 0),
  (151, .iconst 0, 0, 0),
  (152, .invokevirtual 154, 135, 2),
  (155, .invokevirtual 157, 123, 1),
  (158, .iload_n 3, 0, 0),
  (159, .if_icmp .eq 5, 164, 0),
  (162, .iconst 0, 0, 0),
  (163, .ireturn, 0, 0),
  (164, .iconst 0, 0, 0),
  (165, .istore 8, 0, 0),
  (167, .iconst 0, 0, 0),
  (168, .istore 9, 0, 0),
  (170, .iload 9, 0, 0),
  (172, .iconst 4, 0, 0),
  (173, .aload_n 0, 0, 0),
  (174, .iconst 0, 0, 0),
  (175, .invokevirtual 86, 122, 1),
  (178, .imul, 0, 0),
  (179, .if_icmp .ge 68, 247, 0),
  (182, .iload_n 1, 0, 0),
  (183, .ifCond .lt 64, 247, 0),
  (186, .iload_n 3, 0, 0),
  (187, .ifCond .lt 60, 247, 0),
  (190, .iload 8, 0, 0),
  (192, .ifCond .ne 42, 234, 0),
  (195, .aload_n 0, 0, 0),
  (196, .iload 9, 0, 0),
  (198, .invokevirtual 93, 125, 1),
  (201, .iload_n 1, 0, 0),
  (202, .if_icmp .ne 36, 238, 0),
  (205, .aload_n 0, 0, 0),
  (206, .iload 9, 0, 0),
  (208, .invokevirtual 157, 123, 1),
  (211, .iload_n 3, 0, 0),
  (212, .if_icmp .ne 26, 238, 0),
  (215, .aload_n 0, 0, 0),
  (216, .iload 9, 0, 0),
  (218, .iload_n 3, 0, 0),
  (219, .iload 4, 0, 0),
  (221, .aload_n 0, 0, 0),
  (222, .iconst 5, 0, 0),
  (223, .invokevirtual 86, 122, 1),
  (226, .invokestatic 166, 180, 5),
  (229, .iload 6, 0, 0),
  (231, .if_icmp .le 7, 238, 0),
  (234, .iconst 1, 0, 0),
  (235, .goto 4, 239, 0),
  (238, .iconst 0, 0, 0),
  (239, .istore 8, 0, 0),
  (241, .iinc 9 1, 0, 0),
  (244, .goto (-74), 170, 0),
  (247, .iconst 0, 0, 0),
  (248, .istore 9, 0, 0),
  (250, .iload 9, 0, 0),
  (252, .iconst 4, 0, 0),
  (253, .aload_n 0, 0, 0),
  (254, .iconst 0, 0, 0),
  (255, .invokevirtual 86, 122, 1),
  (258, .imul, 0, 0),
  (259, .if_icmp .ge 232, 491, 0),
  (262, .aload_n 0, 0, 0),
  (263, .iload 9, 0, 0),
  (265, .iload_n 3, 0, 0),
  (266, .ifCond .ge 12, 278, 0),
  (269, .aload_n 0, 0, 0),
  (270, .iload 9, 0, 0),
  (272, .invokevirtual 157, 123, 1),
  (275, .goto 4, 279, 0),
  (278, .iload_n 3, 0, 0),
  (279, .iload 4, 0, 0),
  (281, .aload_n 0, 0, 0),
  (282, .iconst 5, 0, 0),
  (283, .invokevirtual 86, 122, 1),
  (286, .invokestatic 166, 180, 5),
  (289, .istore 10, 0, 0),
  (291, .aload_n 0, 0, 0),
  (292, .iload 9, 0, 0),
  (294, .invokevirtual 173, 131, 1),
  (297, .iload 10, 0, 0),
  (299, .if_icmp .ne 28, 327, 0),
  (302, .aload_n 0, 0, 0),
  (303, .iload 9, 0, 0),
  (305, .invokevirtual 175, 134, 1),
  (308, .iload_n 3, 0, 0),
  (309, .ifCond .lt 10, 319, 0),
  (312, .iload 10, 0, 0),
  (314, .iload 6, 0, 0),
  (316, .if_icmp .le 7, 323, 0),
  (319, .iconst 1, 0, 0),
  (320, .goto 4, 324, 0),
  (323, .iconst 0, 0, 0),
  (324, .if_icmp .eq 5, 329, 0),
  (327, .iconst 0, 0, 0),
  (328, .ireturn, 0, 0),
  (329, .iload_n 1, 0, 0),
  (330, .ifCond .lt 17, 347, 0),
  (333, .aload_n 0, 0, 0),
  (334, .iload 9, 0, 0),
  (336, .invokevirtual 93, 125, 1),
  (339, .iload_n 1, 0, 0),
  (340, .if_icmp .ne 7, 347, 0),
  (343, .iconst 1, 0, 0),
  (344, .goto 4, 348, 0),
  (347, .iconst 0, 0, 0),
  (348, .istore 11, 0, 0),
  (350, .iload 11, 0, 0),
  (352, .ifCond .eq 107, 459, 0),
  (355, .aload_n 0, 0, 0),
  (356, .iconst 3, 0, 0),
  (357, .invokevirtual 86, 122, 1),
  (360, .ifCond .le 99, 459, 0),
  (363, .iload_n 3, 0, 0),
  (364, .ifCond .lt 95, 459, 0),
  (367, .aload_n 0, 0, 0),
  (368, .iload_n 1, 0, 0),
  (369, .iload_n 3, 0, 0),
  (370, .invokevirtual 179, 128, 2),
  (373, .ifCond .le 44, 417, 0),
  (376, .aload_n 0, 0, 0),
  (377, .iload 9, 0, 0),
  (379, .invokevirtual 157, 123, 1),
  (382, .iload_n 3, 0, 0),
  (383, .if_icmp .ne 28, 411, 0),
  (386, .aload_n 0, 0, 0),
  (387, .iconst 3, 0, 0),
  (388, .invokevirtual 86, 122, 1),
  (391, .iconst 2, 0, 0),
  (392, .if_icmp .ne 15, 407, 0),
  (395, .iload 8, 0, 0),
  (397, .ifCond .eq 10, 407, 0),
  (400, .iload 10, 0, 0),
  (402, .iload 6, 0, 0),
  (404, .if_icmp .le 7, 411, 0),
  (407, .iconst 1, 0, 0),
  (408, .goto 4, 412, 0),
  (411, .iconst 0, 0, 0),
  (412, .istore 11, 0, 0),
  (414, .goto 45, 459, 0),
  (417, .aload_n 0, 0, 0),
  (418, .iconst 3, 0, 0),
  (419, .invokevirtual 86, 122, 1),
  (422, .iconst 3, 0, 0),
  (423, .if_icmp .ne 36, 459, 0),
  (426, .iload 4, 0, 0),
  (428, .ifCond .lt 31, 459, 0),
  (431, .aload_n 0, 0, 0),
  (432, .iload_n 1, 0, 0),
  (433, .iload 4, 0, 0),
  (435, .invokevirtual 179, 128, 2),
  (438, .ifCond .le 21, 459, 0),
  (441, .aload_n 0, 0, 0),
  (442, .iload 9, 0, 0),
  (444, .invokevirtual 157, 123, 1),
  (447, .iload 4, 0, 0),
  (449, .if_icmp .ne 7, 456, 0),
  (452, .iconst 1, 0, 0),
  (453, .goto 4, 457, 0),
  (456, .iconst 0, 0, 0),
  (457, .istore 11, 0, 0),
  (459, .aload_n 0, 0, 0),
  (460, .iload 9, 0, 0),
  (462, .invokevirtual 182, 129, 1),
  (465, .iload 11, 0, 0),
  (467, .if_icmp .eq 5, 472, 0),
  (470, .iconst 0, 0, 0),
  (471, .ireturn, 0, 0),
  (472, .iload_n 2, 0, 0),
  (473, .iload 11, 0, 0),
  (475, .ifCond .eq 7, 482, 0),
  (478, .iconst 1, 0, 0),
  (479, .goto 4, 483, 0),
  (482, .iconst 0, 0, 0),
  (483, .iadd, 0, 0),
  (484, .istore_n 2, 0, 0),
  (485, .iinc 9 1, 0, 0),
  (488, .goto (-238), 250, 0),
  (491, .aload_n 0, 0, 0),
  (492, .invokevirtual 185, 130, 0),
  (495, .iload_n 2, 0, 0),
  (496, .if_icmp .ne 28, 524, 0),
  (499, .iload_n 1, 0, 0),
  (500, .ifCond .ge 7, 507, 0),
  (503, .iconst 1, 0, 0),
  (504, .goto 4, 508, 0),
  (507, .iconst 0, 0, 0),
  (508, .iload_n 2, 0, 0),
  (509, .ifCond .ne 7, 516, 0),
  (512, .iconst 1, 0, 0),
  (513, .goto 4, 517, 0),
  (516, .iconst 0, 0, 0),
  (517, .if_icmp .ne 7, 524, 0),
  (520, .iconst 1, 0, 0),
  (521, .goto 4, 525, 0),
  (524, .iconst 0, 0, 0),
  (525, .ireturn, 0, 0)]
set_option maxRecDepth 100000 in
def q_k182 : List (Nat × Instr × Nat × Nat) := [(0, .aload_n 0, 0, 0),
  (1, .iconst 1, 0, 0),
  (2, .invokevirtual 86, 122, 1),
  (5, .istore_n 1, 0, 0),
  (6, .iconst 4, 0, 0),
  (7, .newarray .int, 0, 0),
  (9, .astore_n 2, 0, 0),
  (10, .iconst 0, 0, 0),
  (11, .istore_n 3, 0, 0),
  (12, .iload_n 3, 0, 0),
  (13, .aload_n 0, 0, 0),
  (14, .bipush 11, 0, 0),
  (16, .invokevirtual 86, 122, 1),
  (19, .if_icmp .ge 263, 282, 0),
  (22, .aload_n 0, 0, 0),
  (23, .iload_n 3, 0, 0),
  (24, .iconst 3, 0, 0),
  (25, .invokevirtual 188, 136, 2),
  (28, .istore 4, 0, 0),
  (30, .iload_n 3, 0, 0),
  (31, .iload_n 1, 0, 0),
  (32, .imul, 0, 0),
  (33, .istore 5, 0, 0),
  (35, .aload_n 0, 0, 0),
  (36, .aload_n 0, 0, 0),
  (37, .iload 5, 0, 0),
  (39, .iconst 0, 0, 0),
  (40, .invokevirtual 154, 135, 2),
  (43, .invokevirtual 157, 123, 1),
  (46, .iload 4, 0, 0),
  (48, .if_icmp .ne 19, 67, 0),
  (51, .aload_n 0, 0, 0),
  (52, .iload 5, 0, 0),
  (54, .iconst 1, 0, 0),
  (55, .invokevirtual 154, 135, 2),
  (58, .aload_n 0, 0, 0),
  (59, .iload_n 3, 0, 0),
  (60, .iconst 0, 0, 0),
  (61, .invokevirtual 188, 136, 2),
  (64, .if_icmp .eq 5, 69, 0),
  (67, .iconst 0, 0, 0),
  (68, .ireturn, 0, 0),
  (69, .iconst 1, 0, 0),
  (70, .istore 6, 0, 0),
  (72, .iload 6, 0, 0),
  (74, .iload_n 1, 0, 0),
  (75, .if_icmp .ge 97, 172, 0),
  (78, .iload_n 3, 0, 0),
  (79, .iload_n 1, 0, 0),
  (80, .imul, 0, 0),
  (81, .iload 6, 0, 0),
  (83, .iadd, 0, 0),
  (84, .istore 7, 0, 0),
  (86, .aload_n 0, 0, 0),
  (87, .iload 7, 0, 0),
  (89, .iconst 1, 0, 0),
  (90, .invokevirtual 154, 135, 2),
  (93, .aload_n 0, 0, 0),
  (94, .iload_n 3, 0, 0),
  (95, .iconst 0, 0, 0),
  (96, .invokevirtual 188, 136, 2),
  (99, .iload 6, 0, 0),
  (101, .iadd, 0, 0),
  (102, .iload_n 1, 0, 0),
  (103, .irem, 0, 0),
  (104, .if_icmp .eq 5, 109, 0),
  (107, .iconst 0, 0, 0),
  (108, .ireturn, 0, 0),
  (109, .aload_n 0, 0, 0),
  (110, .aload_n 0, 0, 0),
  (111, .iload 7, 0, 0),
  (113, .iconst 0, 0, 0),
  (114, .invokevirtual 154, 135, 2),
  (117, .iload 4, 0, 0),
  (119, .aload_n 0, 0, 0),
  (120, .iload_n 3, 0, 0),
  (121, .iconst 4, 0, 0),
  (122, .invokevirtual 188, 136, 2),
  (125, .aload_n 0, 0, 0),
  (126, .iload_n 3, 0, 0),
  (127, .iconst 5, 0, 0),
  (128, .invokevirtual 188, 136, 2),
  (131, .invokestatic 166, 180, 5),
  (134, .aload_n 0, 0, 0),
  (135, .aload_n 0, 0, 0),
  (136, .iload 5, 0, 0),
  (138, .iconst 0, 0, 0),
  (139, .invokevirtual 154, 135, 2),
  (142, .iload 4, 0, 0),
  (144, .aload_n 0, 0, 0),
  (145, .iload_n 3, 0, 0),
  (146, .iconst 4, 0, 0),
  (147, .invokevirtual 188, 136, 2),
  (150, .aload_n 0, 0, 0),
  (151, .iload_n 3, 0, 0),
  (152, .iconst 5, 0, 0),
  (153, .invokevirtual 188, 136, 2),
  (156, .invokestatic 166, 180, 5),
  (159, .if_icmp .le 7, 166, 0),
  (162, .iload 7, 0, 0),
  (164, .istore 5, 0, 0),
  (166, .iinc 6 1, 0, 0),
  (169, .goto (-97), 72, 0),
  (172, .aload_n 0, 0, 0),
  (173, .iload_n 3, 0, 0),
  (174, .iconst 1, 0, 0),
  (175, .invokevirtual 188, 136, 2),
  (178, .aload_n 0, 0, 0),
  (179, .iload 5, 0, 0),
  (181, .iconst 1, 0, 0),
  (182, .invokevirtual 154, 135, 2),
  (185, .if_icmp .ne 19, 204, 0),
  (188, .aload_n 0, 0, 0),
  (189, .iload_n 3, 0, 0),
  (190, .iconst 2, 0, 0),
  (191, .invokevirtual 188, 136, 2),
  (194, .aload_n 0, 0, 0),
  (195, .iload 5, 0, 0),
  (197, .iconst 0, 0, 0),
  (198, .invokevirtual 154, 135, 2),
  (201, .if_icmp .eq 5, 206, 0),
  (204, .iconst 0, 0, 0),
  (205, .ireturn, 0, 0),
  (206, .iload_n 3, 0, 0),
  (207, .iconst 1, 0, 0),
  (208, .iadd, 0, 0),
  (209, .aload_n 0, 0, 0),
  (210, .bipush 11, 0, 0),
  (212, .invokevirtual 86, 122, 1),
  (215, .if_icmp .ge 20, 235, 0),
  (218, .aload_n 0, 0, 0),
  (219, .iload_n 3, 0, 0),
  (220, .iconst 1, 0, 0),
  (221, .iadd, 0, 0),
  (222, .iconst 0, 0, 0),
  (223, .invokevirtual 188, 136, 2),
  (226, .aload_n 0, 0, 0),
  (227, .iload_n 3, 0, 0),
  (228, .iconst 1, 0, 0),
  (229, .invokevirtual 188, 136, 2),
  (232, .if_icmp .ne 30, 262, 0),
  (235, .iload_n 3, 0, 0),
  (236, .iconst 1, 0, 0),
  (237, .iadd, 0, 0),
  (238, .aload_n 0, 0, 0),
  (239, .bipush 11, 0, 0),
  (241, .invokevirtual 86, 122, 1),
  (244, .if_icmp .ne 20, 264, 0),
  (247, .aload_n 0, 0, 0),
  (248, .bipush 10, 0, 0),
  (250, .invokevirtual 86, 122, 1),
  (253, .aload_n 0, 0, 0),
  (254, .iload_n 3, 0, 0),
  (255, .iconst 1, 0, 0),
  (256, .invokevirtual 188, 136, 2),
  (259, .if_icmp .eq 5, 264, 0),
  (262, .iconst 0, 0, 0),
  (263, .ireturn, 0, 0),
  (264, .aload_n 2, 0, 0),
  (265, .aload_n 0, 0, 0),
  (266, .iload_n 3, 0, 0),
  (267, .iconst 1, 0, 0),
  (268, .invokevirtual 188, 136, 2),
  (271, .dup2, 0, 0),
  (272, .iaload, 0, 0),
  (273, .iconst 1, 0, 0),
  (274, .iadd, 0, 0),
  (275, .iastore, 0, 0),
  (276, .iinc 3 1, 0, 0),
  (279, .goto (-267), 12, 0),
  (282, .iconst 0, 0, 0),
  (283, .istore_n 3, 0, 0),
  (284, .iload_n 3, 0, 0),
  (285, .iload_n 1, 0, 0),
  (286, .if_icmp .ge 52, 338, 0),
  (289, .aload_n 0, 0, 0),
  (290, .iload_n 3, 0, 0),
  (291, .invokevirtual 191, 137, 1),
  (294, .aload_n 2, 0, 0),
  (295, .iload_n 3, 0, 0),
  (296, .iaload, 0, 0),
  (297, .if_icmp .ne 33, 330, 0),
  (300, .aload_n 0, 0, 0),
  (301, .bipush 11, 0, 0),
  (303, .invokevirtual 86, 122, 1),
  (306, .ifCond .le 26, 332, 0),
  (309, .aload_n 0, 0, 0),
  (310, .iload_n 3, 0, 0),
  (311, .invokevirtual 194, 151, 1),
  (314, .aload_n 2, 0, 0),
  (315, .iload_n 3, 0, 0),
  (316, .iaload, 0, 0),
  (317, .i2f, 0, 0),
  (318, .aload_n 0, 0, 0),
  (319, .bipush 11, 0, 0),
  (321, .invokevirtual 86, 122, 1),
  (324, .i2f, 0, 0),
  (325, .fdiv, 0, 0),
  (326, .fcmp .l, 0, 0),
  (327, .ifCond .eq 5, 332, 0),
  (330, .iconst 0, 0, 0),
  (331, .ireturn, 0, 0),
  (332, .iinc 3 1, 0, 0),
  (335, .goto (-51), 284, 0),
  (338, .iconst 1, 0, 0),
  (339, .ireturn, 0, 0)]
set_option maxRecDepth 100000 in
def q_k183 : List (Nat × Instr × Nat × Nat) := [(0, .aload_n 0, 0, 0),
  (1, .bipush 9, 0, 0),
  (3, .invokevirtual 86, 122, 1),
  (6, .istore_n 2, 0, 0),
  (7, .iload_n 2, 0, 0),
  (8, .ifCond .ge 29, 37, 0),
  (11, .aload_n 0, 0, 0),
  (12, .iconst 0, 0, 0),
  (13, .invokevirtual 105, 152, 1),
  (16, .bipush (-2), 0, 0),
  (18, .if_icmp .ne 17, 35, 0),
  (21, .aload_n 0, 0, 0),
  (22, .iconst 1, 0, 0),
  (23, .invokevirtual 108, 153, 1),
  (26, .bipush (-2), 0, 0),
  (28, .if_icmp .ne 7, 35, 0),
  (31, .iconst 1, 0, 0),
  (32, .goto 4, 36, 0),
  (35, .iconst 0, 0, 0),
  (36, .ireturn, 0, 0),
  (37, .iload_n 1, 0, 0),
  (38, .iconst 4, 0, 0),
  (39, .aload_n 0, 0, 0),
  (40, .iconst 0, 0, 0),
  (41, .invokevirtual 86, 122, 1),
  (44, .imul, 0, 0),
  (45, .irem, 0, 0),
  (46, .istore_n 3, 0, 0),
  (47, .aload_n 0, 0, 0),
  (48, .iconst 1, 0, 0),
  (49, .invokevirtual 86, 122, 1),
  (52, .istore 4, 0, 0),
  (54, .aload_n 0, 0, 0),
  (55, .iconst 4, 0, 0),
  (56, .invokevirtual 86, 122, 1),
  (59, .istore 5, 0, 0),
  (61, .aload_n 0, 0, 0),
  (62, .iconst 5, 0, 0),
  (63, .invokevirtual 86, 122, 1),
  (66, .istore 6, 0, 0),
  (68, .aload_n 0, 0, 0),
  (69, .bipush 11, 0, 0),
  (71, .invokevirtual 86, 122, 1),
  (74, .istore 7, 0, 0),
  (76, .aload_n 0, 0, 0),
  (77, .iload_n 3, 0, 0),
  (78, .invokevirtual 93, 125, 1),
  (81, .iload_n 2, 0, 0),
  (82, .if_icmp .ne 7, 89, 0),
  (85, .iconst 1, 0, 0),
  (86, .goto 4, 90, 0),
  (89, .iconst 0, 0, 0),
  (90, .istore 8, 0, 0),
  (92, .aload_n 0, 0, 0),
  (93, .iload_n 3, 0, 0),
  (94, .invokevirtual 182, 129, 1),
  (97, .istore 9, 0, 0),
  (99, .aload_n 0, 0, 0),
  (100, .bipush 12, 0, 0),
  (102, .invokevirtual 86, 122, 1),
  (105, .iload 4, 0, 0),
  (107, .irem, 0, 0),
  (108, .iload 4, 0, 0),
  (110, .iconst 1, 0, 0),
  (111, .isub, 0, 0),
  (112, .if_icmp .ne 7, 119, 0),
  (115, .iconst 1, 0, 0),
  (116, .goto 4, 120, 0),
  (119, .iconst 0, 0, 0),
  (120, .istore 10, 0, 0),
  (122, .aload_n 0, 0, 0),
  (123, .iload_n 3, 0, 0),
  (124, .invokevirtual 175, 134, 1),
  (127, .ifCond .eq 7, 134, 0),
  (130, .iload_n 2, 0, 0),
  (131, .goto 7, 138, 0),
  (134, .aload_n 0, 0, 0),
  (135, .invokevirtual 170, 133, 0),
  (138, .istore 11, 0, 0),
  (140, .aload_n 0, 0, 0),
  (141, .iload_n 3, 0, 0),
  (142, .invokevirtual 175, 134, 1),
  (145, .ifCond .eq 7, 152, 0),
  (148, .iload_n 3, 0, 0),
  (149, .goto 4, 153, 0),
  (152, .iconst (-1), 0, 0),
  (153, .istore 12, 0, 0),
  (155, .iload 7, 0, 0),
  (157, .iload 4, 0, 0),
  (159, .imul, 0, 0),
  (160, .istore 13, 0, 0),
  (162, .iload 13, 0, 0),
  (164, .aload_n 0, 0, 0),
  (165, .bipush 12, 0, 0),
  (167, .invokevirtual 86, 122, 1),
  (170, .if_icmp .ge 35, 205, 0),
  (173, .iload 12, 0, 0),
  (175, .ifCond .ge 30, 205, 0),
  (178, .aload_n 0, 0, 0),
  (179, .iload 13, 0, 0),
  (181, .iconst 1, 0, 0),
  (182, .invokevirtual 154, 135, 2),
  (185, .iload 11, 0, 0),
  (187, .if_icmp .ne 12, 199, 0),
  (190, .aload_n 0, 0, 0),
  (191, .iload 13, 0, 0),
  (193, .iconst 0, 0, 0),
  (194, .invokevirtual 154, 135, 2),
  (197, .istore 12, 0, 0),
  (199, .iinc 13 1, 0, 0),
  (202, .goto (-40), 162, 0),
  (205, .aload_n 0, 0, 0),
  (206, .iload_n 3, 0, 0),
  (207, .invokevirtual 105, 152, 1),
  (210, .istore 13, 0, 0),
  (212, .iload 8, 0, 0),
  (214, .ifCond .ne 16, 230, 0),
  (217, .iload 13, 0, 0),
  (219, .bipush (-3), 0, 0),
  (221, .if_icmp .ne 7, 228, 0),
  (224, .iconst 1, 0, 0),
  (225, .goto 4, 229, 0),
  (228, .iconst 0, 0, 0),
  (229, .ireturn, 0, 0),
  (230, .iload 9, 0, 0),
  (232, .ifCond .ne 16, 248, 0),
  (235, .iload 13, 0, 0),
  (237, .bipush (-4), 0, 0),
  (239, .if_icmp .ne 7, 246, 0),
  (242, .iconst 1, 0, 0),
  (243, .goto 4, 247, 0),
  (246, .iconst 0, 0, 0),
  (247, .ireturn, 0, 0),
  (248, .iload 13, 0, 0),
  (250, .iload 10, 0, 0),
  (252, .ifCond .eq 8, 260, 0),
  (255, .iload 11, 0, 0),
  (257, .goto 12, 269, 0),
  (260, .iload 4, 0, 0),
  (262, .aload_n 0, 0, 0),
  (263, .bipush 9, 0, 0),
  (265, .invokevirtual 86, 122, 1),
  (268, .iadd, 0, 0),
  (269, .if_icmp .ne 12, 281, 0),
  (272, .aload_n 0, 0, 0),
  (273, .iload_n 3, 0, 0),
  (274, .invokevirtual 93, 125, 1),
  (277, .iconst (-1), 0, 0),
  (278, .if_icmp .eq 5, 283, 0),
  (281, .iconst 0, 0, 0),
  (282, .ireturn, 0, 0),
  (283, .iload 10, 0, 0),
  (285, .ifCond .ne 40, 325, 0),
  (288, .aload_n 0, 0, 0),
  (289, .iconst 4, 0, 0),
  (290, .invokevirtual 86, 122, 1),
  (293, .iload 5, 0, 0),
  (295, .if_icmp .ne 28, 323, 0),
  (298, .aload_n 0, 0, 0),
  (299, .iconst 5, 0, 0),
  (300, .invokevirtual 86, 122, 1),
  (303, .iload 6, 0, 0),
  (305, .if_icmp .ne 18, 323, 0),
  (308, .aload_n 0, 0, 0),
  (309, .bipush 9, 0, 0),
  (311, .invokevirtual 86, 122, 1),
  (314, .iload_n 2, 0, 0),
  (315, .iconst 1, 0, 0),
  (316, .iadd, 0, 0),
  (317, .iload 4, 0, 0),
  (319, .irem, 0, 0),
  (320, .if_icmp .eq 5, 325, 0),
  (323, .iconst 0, 0, 0),
  (324, .ireturn, 0, 0),
  (325, .iload 10, 0, 0),
  (327, .ifCond .eq 145, 472, 0),
  (330, .iconst 0, 0, 0),
  (331, .iload 6, 0, 0),
  (333, .aload_n 0, 0, 0),
  (334, .bipush 7, 0, 0),
  (336, .invokevirtual 86, 122, 1),
  (339, .isub, 0, 0),
  (340, .invokestatic 198, 910, 2),
  (343, .istore 14, 0, 0),
  (345, .iload 6, 0, 0),
  (347, .ifCond .le 12, 359, 0),
  (350, .iload 14, 0, 0),
  (352, .ifCond .ne 7, 359, 0),
  (355, .iconst 1, 0, 0),
  (356, .goto 4, 360, 0),
  (359, .iconst 0, 0, 0),
  (360, .istore 15, 0, 0),
  (362, .iload 15, 0, 0),
  (364, .ifCond .ne 8, 372, 0),
  (367, .iload 5, 0, 0),
  (369, .goto 23, 392, 0),
  (372, .aload_n 0, 0, 0),
  (373, .bipush 8, 0, 0),
  (375, .invokevirtual 86, 122, 1),
  (378, .iconst 1, 0, 0),
  (379, .if_icmp .ne 12, 391, 0),
  (382, .aload_n 0, 0, 0),
  (383, .iload 12, 0, 0),
  (385, .invokevirtual 157, 123, 1),
  (388, .goto 4, 392, 0),
  (391, .iconst (-1), 0, 0),
  (392, .istore 16, 0, 0),
  (394, .iload 15, 0, 0),
  (396, .ifCond .ne 8, 404, 0),
  (399, .iload 14, 0, 0),
  (401, .goto 23, 424, 0),
  (404, .aload_n 0, 0, 0),
  (405, .bipush 8, 0, 0),
  (407, .invokevirtual 86, 122, 1),
  (410, .iconst 1, 0, 0),
  (411, .if_icmp .ne 12, 423, 0),
  (414, .aload_n 0, 0, 0),
  (415, .bipush 6, 0, 0),
  (417, .invokevirtual 86, 122, 1),
  (420, .goto 4, 424, 0),
  (423, .iconst 0, 0, 0),
  (424, .istore 17, 0, 0),
  (426, .aload_n 0, 0, 0),
  (427, .iconst 4, 0, 0),
  (428, .invokevirtual 86, 122, 1),
  (431, .iload 16, 0, 0),
  (433, .if_icmp .ne 37, 470, 0),
  (436, .aload_n 0, 0, 0),
  (437, .iconst 5, 0, 0),
  (438, .invokevirtual 86, 122, 1),
  (441, .iload 17, 0, 0),
  (443, .if_icmp .ne 27, 470, 0),
  (446, .aload_n 0, 0, 0),
  (447, .bipush 11, 0, 0),
  (449, .invokevirtual 86, 122, 1),
  (452, .iload 7, 0, 0),
  (454, .iconst 1, 0, 0),
  (455, .iadd, 0, 0),
  (456, .if_icmp .ne 14, 470, 0),
  (459, .aload_n 0, 0, 0),
  (460, .bipush 10, 0, 0),
  (462, .invokevirtual 86, 122, 1),
  (465, .iload 11, 0, 0),
  (467, .if_icmp .eq 5, 472, 0),
  (470, .iconst 0, 0, 0),
  (471, .ireturn, 0, 0),
  (472, .aload_n 0, 0, 0),
  (473, .invokevirtual 201, 163, 0),
  (476, .ifCond .lt 36, 512, 0),
  (479, .aload_n 0, 0, 0),
  (480, .iconst 4, 0, 0),
  (481, .invokevirtual 86, 122, 1),
  (484, .iload 5, 0, 0),
  (486, .if_icmp .ne 26, 512, 0),
  (489, .aload_n 0, 0, 0),
  (490, .iconst 5, 0, 0),
  (491, .invokevirtual 86, 122, 1),
  (494, .iload 6, 0, 0),
  (496, .if_icmp .ne 16, 512, 0),
  (499, .aload_n 0, 0, 0),
  (500, .iload_n 3, 0, 0),
  (501, .invokevirtual 93, 125, 1),
  (504, .iload_n 2, 0, 0),
  (505, .if_icmp .ne 7, 512, 0),
  (508, .iconst 1, 0, 0),
  (509, .goto 4, 513, 0),
  (512, .iconst 0, 0, 0),
  (513, .ireturn, 0, 0)]
def q_k309 : List (Nat × Instr × Nat × Nat) := [(0, .iload_n 1, 0, 0),
  (1, .ifCond .lt 15, 16, 0),
  (4, .iload_n 1, 0, 0),
  (5, .aload_n 0, 0, 0),
  (6, .arraylength, 0, 0),
  (7, .if_icmp .ge 9, 16, 0),
  (10, .aload_n 0, 0, 0),
  (11, .iload_n 1, 0, 0),
  (12, .iaload, 0, 0),
  (13, .goto 4, 17, 0),
  (16, .iconst 0, 0, 0),
  (17, .ireturn, 0, 0)]
def q_k310 : List (Nat × Instr × Nat × Nat) := [(0, .iload_n 1, 0, 0),
  (1, .ifCond .lt 13, 14, 0),
  (4, .iload_n 1, 0, 0),
  (5, .aload_n 0, 0, 0),
  (6, .arraylength, 0, 0),
  (7, .if_icmp .ge 7, 14, 0),
  (10, .aload_n 0, 0, 0),
  (11, .iload_n 1, 0, 0),
  (12, .iload_n 2, 0, 0),
  (13, .iastore, 0, 0),
  (14, .return_, 0, 0)]
def q_k311 : List (Nat × Instr × Nat × Nat) := [(0, .iconst 0, 0, 0),
  (1, .istore_n 2, 0, 0),
  (2, .iload_n 2, 0, 0),
  (3, .aload_n 0, 0, 0),
  (4, .arraylength, 0, 0),
  (5, .if_icmp .ge 13, 18, 0),
  (8, .aload_n 0, 0, 0),
  (9, .iload_n 2, 0, 0),
  (10, .iload_n 1, 0, 0),
  (11, .iastore, 0, 0),
  (12, .iinc 2 1, 0, 0),
  (15, .goto (-13), 2, 0),
  (18, .return_, 0, 0)]
def q_k312 : List (Nat × Instr × Nat × Nat) := [(0, .aload_n 0, 0, 0),
  (1, .iconst 0, 0, 0),
  (2, .aload_n 1, 0, 0),
  (3, .iconst 0, 0, 0),
  (4, .aload_n 0, 0, 0),
  (5, .arraylength, 0, 0),
  (6, .aload_n 1, 0, 0),
  (7, .arraylength, 0, 0),
  (8, .invokestatic 7, 911, 2),
  (11, .invokestatic 13, 913, 5),
  (14, .return_, 0, 0)]
def q_k313 : List (Nat × Instr × Nat × Nat) := [(0, .aload_n 0, 0, 0),
  (1, .iconst 0, 0, 0),
  (2, .aload_n 1, 0, 0),
  (3, .iconst 0, 0, 0),
  (4, .aload_n 0, 0, 0),
  (5, .arraylength, 0, 0),
  (6, .aload_n 1, 0, 0),
  (7, .arraylength, 0, 0),
  (8, .invokestatic 7, 911, 2),
  (11, .invokestatic 13, 913, 5),
  (14, .return_, 0, 0)]
def q_k314 : List (Nat × Instr × Nat × Nat) := [(0, .lload_n 0, 0, 0),
  (1, .iload_n 2, 0, 0),
  (2, .lshr, 0, 0),
  (3, .lconst 1, 0, 0),
  (4, .land, 0, 0),
  (5, .lconst 0, 0, 0),
  (6, .lcmp, 0, 0),
  (7, .ifCond .eq 7, 14, 0),
  (10, .iconst 1, 0, 0),
  (11, .goto 4, 15, 0),
  (14, .iconst 0, 0, 0),
  (15, .ireturn, 0, 0)]
def q_k315 : List (Nat × Instr × Nat × Nat) := [(0, .lload_n 0, 0, 0),
  (1, .lconst 1, 0, 0),
  (2, .iload_n 2, 0, 0),
  (3, .lshl, 0, 0),
  (4, .lor, 0, 0),
  (5, .lreturn, 0, 0)]
def q_k316 : List (Nat × Instr × Nat × Nat) := [(0, .lload_n 0, 0, 0),
  (1, .lconst 1, 0, 0),
  (2, .iload_n 2, 0, 0),
  (3, .lshl, 0, 0),
  (4, .ldc2_w 19, 0, 18446744073709551615),
  (7, .lxor, 0, 0),
  (8, .land, 0, 0),
  (9, .lreturn, 0, 0)]
def q_k351 : List (Nat × Instr × Nat × Nat) := [(0, .new 8, 11, 0),
  (3, .dup, 0, 0),
  (4, .invokespecial 127, 170, 0),
  (7, .astore_n 1, 0, 0),
  (8, .new 35, 10, 0),
  (11, .dup, 0, 0),
  (12, .invokespecial 128, 116, 0),
  (15, .astore_n 2, 0, 0),
  (16, .aload_n 1, 0, 0),
  (17, .aload_n 2, 0, 0),
  (18, .aload_n 0, 0, 0),
  (19, .invokevirtual 129, 175, 2),
  (22, .ifCond .eq 15, 37, 0),
  (25, .aload_n 2, 0, 0),
  (26, .aload_n 0, 0, 0),
  (27, .invokestatic 133, 178, 2),
  (30, .ifCond .eq 7, 37, 0),
  (33, .iconst 1, 0, 0),
  (34, .goto 4, 38, 0),
  (37, .iconst 0, 0, 0),
  (38, .ireturn, 0, 0)]
def q_k352 : List (Nat × Instr × Nat × Nat) := [(0, .lload_n 0, 0, 0),
  (1, .lload_n 0, 0, 0),
  (2, .iconst 1, 0, 0),
  (3, .lushr, 0, 0),
  (4, .ldc2_w 314, 0, 6148914691236517205),
  (7, .land, 0, 0),
  (8, .lsub, 0, 0),
  (9, .lstore_n 0, 0, 0),
  (10, .lload_n 0, 0, 0),
  (11, .ldc2_w 316, 0, 3689348814741910323),
  (14, .land, 0, 0),
  (15, .lload_n 0, 0, 0),
  (16, .iconst 2, 0, 0),
  (17, .lushr, 0, 0),
  (18, .ldc2_w 316, 0, 3689348814741910323),
  (21, .land, 0, 0),
  (22, .ladd, 0, 0),
  (23, .lstore_n 0, 0, 0),
  (24, .lload_n 0, 0, 0),
  (25, .lload_n 0, 0, 0),
  (26, .iconst 4, 0, 0),
  (27, .lushr, 0, 0),
  (28, .ladd, 0, 0),
  (29, .ldc2_w 318, 0, 1085102592571150095),
  (32, .land, 0, 0),
  (33, .lstore_n 0, 0, 0),
  (34, .lload_n 0, 0, 0),
  (35, .lload_n 0, 0, 0),
  (36, .bipush 8, 0, 0),
  (38, .lushr, 0, 0),
  (39, .ladd, 0, 0),
  (40, .lstore_n 0, 0, 0),
  (41, .lload_n 0, 0, 0),
  (42, .lload_n 0, 0, 0),
  (43, .bipush 16, 0, 0),
  (45, .lushr, 0, 0),
  (46, .ladd, 0, 0),
  (47, .lstore_n 0, 0, 0),
  (48, .lload_n 0, 0, 0),
  (49, .lload_n 0, 0, 0),
  (50, .bipush 32, 0, 0),
  (52, .lushr, 0, 0),
  (53, .ladd, 0, 0),
  (54, .lstore_n 0, 0, 0),
  (55, .lload_n 0, 0, 0),
  (56, .l2i, 0, 0),
  (57, .bipush 127, 0, 0),
  (59, .iand, 0, 0),
  (60, .ireturn, 0, 0)]
/-- a method: name, bytes, locals, answer, table of handlers, kind (0 static, 1 instance, 2 constructor), its class, code -/
abbrev q_MT : Type := MethodName × ByteArray × Nat × Option FieldType × List (Nat × Nat × Nat × Nat) × Nat × Nat × List (Nat × Instr × Nat × Nat)
def q_m0 : List q_MT := [(⟨"FadingTrumps$HandText", "<init>", "()V"⟩, prog_2_method_1_code, 1, none, [], 2, 0, q_k0),
  (⟨"FadingTrumps$Rows", "at", "([II)I"⟩, prog_6_method_2_code, 2, (some .int), [], 0, 12, q_k309),
  (⟨"FadingTrumps$Rows", "at", "([II)I"⟩, prog_6_method_2_code, 2, (some .int), [], 0, 12, q_k309),
  (⟨"FadingTrumps$Rows", "at", "([II)I"⟩, prog_6_method_2_code, 2, (some .int), [], 0, 12, q_k309),
  (⟨"FadingTrumps$Rows", "at", "([II)I"⟩, prog_6_method_2_code, 2, (some .int), [], 0, 12, q_k309),
  (⟨"FadingTrumps$Rows", "at", "([II)I"⟩, prog_6_method_2_code, 2, (some .int), [], 0, 12, q_k309),
  (⟨"FadingTrumps$History", "<init>", "(LFadingTrumps$Setup;)V"⟩, prog_3_method_1_code, 3, none, [], 2, 1, q_k6),
  (⟨"FadingTrumps$History", "clear", "()V"⟩, prog_3_method_2_code, 1, none, [], 1, 1, q_k7),
  (⟨"FadingTrumps$History", "keep", "(LFadingTrumps$Table;)V"⟩, prog_3_method_3_code, 3, none, [], 1, 1, q_k8),
  (⟨"FadingTrumps$History", "takeBack", "(LFadingTrumps$Table;)V"⟩, prog_3_method_4_code, 3, none, [], 1, 1, q_k9),
  (⟨"FadingTrumps$History", "rowAt", "(I)LFadingTrumps$Table;"⟩, prog_3_method_5_code, 2, (some (.object "FadingTrumps$Table")), [], 1, 1, q_k10),
  (⟨"FadingTrumps$Pack", "<init>", "()V"⟩, prog_4_method_1_code, 1, none, [], 2, 2, q_k11),
  (⟨"FadingTrumps$Pack", "mix", "(II)V"⟩, prog_4_method_2_code, 5, none, [], 1, 2, q_k12),
  (⟨"FadingTrumps$Pack", "exchange", "(II)V"⟩, prog_4_method_3_code, 4, none, [], 1, 2, q_k13),
  (⟨"FadingTrumps$Pack", "cardAt", "(I)I"⟩, prog_4_method_4_code, 2, (some .int), [], 1, 2, q_k14),
  (⟨"FadingTrumps$QueryReader", "<init>", "(LFadingTrumps$Tokens;)V"⟩, prog_5_method_1_code, 2, none, [], 2, 3, q_k15),
  (⟨"FadingTrumps$Rows", "at", "([II)I"⟩, prog_6_method_2_code, 2, (some .int), [], 0, 12, q_k309),
  (⟨"FadingTrumps$Rows", "at", "([II)I"⟩, prog_6_method_2_code, 2, (some .int), [], 0, 12, q_k309),
  (⟨"FadingTrumps$Rows", "at", "([II)I"⟩, prog_6_method_2_code, 2, (some .int), [], 0, 12, q_k309),
  (⟨"FadingTrumps$Rows", "at", "([II)I"⟩, prog_6_method_2_code, 2, (some .int), [], 0, 12, q_k309)]
def q_m1 : List q_MT := [(⟨"FadingTrumps$Rows", "at", "([II)I"⟩, prog_6_method_2_code, 2, (some .int), [], 0, 12, q_k309),
  (⟨"FadingTrumps$Rows", "at", "([II)I"⟩, prog_6_method_2_code, 2, (some .int), [], 0, 12, q_k309),
  (⟨"FadingTrumps$Rows", "at", "([II)I"⟩, prog_6_method_2_code, 2, (some .int), [], 0, 12, q_k309),
  (⟨"FadingTrumps$Rows", "at", "([II)I"⟩, prog_6_method_2_code, 2, (some .int), [], 0, 12, q_k309),
  (⟨"FadingTrumps$Rows", "at", "([II)I"⟩, prog_6_method_2_code, 2, (some .int), [], 0, 12, q_k309),
  (⟨"FadingTrumps$Rows", "at", "([II)I"⟩, prog_6_method_2_code, 2, (some .int), [], 0, 12, q_k309),
  (⟨"FadingTrumps$Rows", "at", "([II)I"⟩, prog_6_method_2_code, 2, (some .int), [], 0, 12, q_k309),
  (⟨"FadingTrumps$Rows", "at", "([II)I"⟩, prog_6_method_2_code, 2, (some .int), [], 0, 12, q_k309),
  (⟨"FadingTrumps$Setup", "<init>", "()V"⟩, prog_7_method_1_code, 1, none, [], 2, 4, q_k28),
  (⟨"FadingTrumps$Setup", "copyFrom", "(LFadingTrumps$Setup;)V"⟩, prog_7_method_2_code, 2, none, [], 1, 4, q_k29),
  (⟨"FadingTrumps$Setup", "cardCount", "()I"⟩, prog_7_method_3_code, 1, (some .int), [], 1, 4, q_k30),
  (⟨"FadingTrumps$Setup", "cardsOfHands", "()I"⟩, prog_7_method_4_code, 1, (some .int), [], 1, 4, q_k31),
  (⟨"FadingTrumps$Setup", "mostHeld", "()I"⟩, prog_7_method_5_code, 1, (some .int), [], 1, 4, q_k32),
  (⟨"FadingTrumps$Setup", "suitOf", "(I)I"⟩, prog_7_method_6_code, 2, (some .int), [], 1, 4, q_k33),
  (⟨"FadingTrumps$Setup", "rankOf", "(I)I"⟩, prog_7_method_7_code, 2, (some .int), [], 1, 4, q_k34),
  (⟨"FadingTrumps$Setup", "trickOf", "(I)I"⟩, prog_7_method_8_code, 2, (some .int), [], 1, 4, q_k35),
  (⟨"FadingTrumps$Setup", "cardsOf", "(I)J"⟩, prog_7_method_9_code, 2, (some .long), [], 1, 4, q_k36),
  (⟨"FadingTrumps$Setup", "behind", "(I)I"⟩, prog_7_method_10_code, 2, (some .int), [], 1, 4, q_k37),
  (⟨"FadingTrumps$SureSearch", "<init>", "(LFadingTrumps$Table;)V"⟩, prog_8_method_1_code, 3, none, [], 2, 5, q_k38),
  (⟨"FadingTrumps$Rows", "at", "([II)I"⟩, prog_6_method_2_code, 2, (some .int), [], 0, 12, q_k309)]
def q_m2 : List q_MT := [(⟨"FadingTrumps$Rows", "at", "([II)I"⟩, prog_6_method_2_code, 2, (some .int), [], 0, 12, q_k309),
  (⟨"FadingTrumps$Rows", "at", "([II)I"⟩, prog_6_method_2_code, 2, (some .int), [], 0, 12, q_k309),
  (⟨"FadingTrumps$Rows", "at", "([II)I"⟩, prog_6_method_2_code, 2, (some .int), [], 0, 12, q_k309),
  (⟨"FadingTrumps$Rows", "at", "([II)I"⟩, prog_6_method_2_code, 2, (some .int), [], 0, 12, q_k309),
  (⟨"FadingTrumps$Rows", "at", "([II)I"⟩, prog_6_method_2_code, 2, (some .int), [], 0, 12, q_k309),
  (⟨"FadingTrumps$Rows", "at", "([II)I"⟩, prog_6_method_2_code, 2, (some .int), [], 0, 12, q_k309),
  (⟨"FadingTrumps$Rows", "at", "([II)I"⟩, prog_6_method_2_code, 2, (some .int), [], 0, 12, q_k309),
  (⟨"FadingTrumps$Rows", "at", "([II)I"⟩, prog_6_method_2_code, 2, (some .int), [], 0, 12, q_k309),
  (⟨"FadingTrumps$Rows", "at", "([II)I"⟩, prog_6_method_2_code, 2, (some .int), [], 0, 12, q_k309),
  (⟨"FadingTrumps$Table", "<init>", "(LFadingTrumps$Setup;)V"⟩, prog_9_method_1_code, 2, none, [], 2, 6, q_k49),
  (⟨"FadingTrumps$Table", "clear", "()V"⟩, prog_9_method_2_code, 1, none, [], 1, 6, q_k50),
  (⟨"FadingTrumps$Table", "clearHand", "()V"⟩, prog_9_method_3_code, 2, none, [], 1, 6, q_k51),
  (⟨"FadingTrumps$Table", "copyFrom", "(LFadingTrumps$Table;)V"⟩, prog_9_method_4_code, 2, none, [], 1, 6, q_k52),
  (⟨"FadingTrumps$Table", "openHand", "()V"⟩, prog_9_method_5_code, 1, none, [], 1, 6, q_k53),
  (⟨"FadingTrumps$Table", "lightTrump", "()V"⟩, prog_9_method_6_code, 1, none, [], 1, 6, q_k54),
  (⟨"FadingTrumps$Table", "handOutInTurn", "(LFadingTrumps$Pack;)V"⟩, prog_9_method_7_code, 4, none, [], 1, 6, q_k55),
  (⟨"FadingTrumps$Table", "fillUp", "(LFadingTrumps$Pack;)V"⟩, prog_9_method_8_code, 5, none, [], 1, 6, q_k56),
  (⟨"FadingTrumps$Table", "firstLackingCards", "()I"⟩, prog_9_method_9_code, 2, (some .int), [], 1, 6, q_k57),
  (⟨"FadingTrumps$Table", "isFull", "(I)Z"⟩, prog_9_method_10_code, 2, (some .boolean), [], 1, 6, q_k58),
  (⟨"FadingTrumps$Table", "give", "(II)V"⟩, prog_9_method_11_code, 3, none, [], 1, 6, q_k59)]
def q_m3 : List q_MT := [(⟨"FadingTrumps$Table", "handOf", "(I)J"⟩, prog_9_method_12_code, 2, (some .long), [], 1, 6, q_k60),
  (⟨"FadingTrumps$Table", "setHand", "(IJ)V"⟩, prog_9_method_13_code, 4, none, [], 1, 6, q_k61),
  (⟨"FadingTrumps$Table", "allHands", "()J"⟩, prog_9_method_14_code, 4, (some .long), [], 1, 6, q_k62),
  (⟨"FadingTrumps$Table", "holderOf", "(I)I"⟩, prog_9_method_15_code, 3, (some .int), [], 1, 6, q_k63),
  (⟨"FadingTrumps$Table", "isOver", "()Z"⟩, prog_9_method_16_code, 1, (some .boolean), [], 1, 6, q_k64),
  (⟨"FadingTrumps$Table", "allowedCards", "()J"⟩, prog_9_method_17_code, 1, (some .long), [], 1, 6, q_k65),
  (⟨"FadingTrumps$Table", "putDown", "(I)V"⟩, prog_9_method_18_code, 3, none, [], 1, 6, q_k66),
  (⟨"FadingTrumps$Table", "noteLack", "(II)V"⟩, prog_9_method_19_code, 3, none, [], 1, 6, q_k67),
  (⟨"FadingTrumps$Table", "closeTrick", "()V"⟩, prog_9_method_20_code, 2, none, [], 1, 6, q_k68),
  (⟨"FadingTrumps$Table", "closeHand", "()V"⟩, prog_9_method_21_code, 2, none, [], 1, 6, q_k69),
  (⟨"FadingTrumps$Table", "resultOf", "(I)I"⟩, prog_9_method_22_code, 4, (some .int), [], 1, 6, q_k70),
  (⟨"FadingTrumps$Rows", "at", "([II)I"⟩, prog_6_method_2_code, 2, (some .int), [], 0, 12, q_k309),
  (⟨"FadingTrumps$Rows", "at", "([II)I"⟩, prog_6_method_2_code, 2, (some .int), [], 0, 12, q_k309),
  (⟨"FadingTrumps$Rows", "at", "([II)I"⟩, prog_6_method_2_code, 2, (some .int), [], 0, 12, q_k309),
  (⟨"FadingTrumps$Table", "choice", "()I"⟩, prog_9_method_26_code, 1, (some .int), [], 1, 6, q_k74),
  (⟨"FadingTrumps$Table", "strongest", "()I"⟩, prog_9_method_27_code, 7, (some .int), [], 1, 6, q_k75),
  (⟨"FadingTrumps$Table", "cheapest", "()I"⟩, prog_9_method_28_code, 6, (some .int), [], 1, 6, q_k76),
  (⟨"FadingTrumps$Table", "hasLessPower", "(II)Z"⟩, prog_9_method_29_code, 3, (some .boolean), [], 1, 6, q_k77),
  (⟨"FadingTrumps$TextReader", "<init>", "(LFadingTrumps$Tokens;LFadingTrumps$Pack;)V"⟩, prog_10_method_1_code, 3, none, [], 2, 7, q_k78),
  (⟨"FadingTrumps$TextReader", "read", "(I)I"⟩, prog_10_method_2_code, 3, (some .int), [], 1, 7, q_k79)]
def q_m4 : List q_MT := [(⟨"FadingTrumps$TextReader", "readSizes", "()V"⟩, prog_10_method_3_code, 1, none, [], 1, 7, q_k80),
  (⟨"FadingTrumps$TextReader", "readTrump", "()V"⟩, prog_10_method_4_code, 1, none, [], 1, 7, q_k81),
  (⟨"FadingTrumps$TextReader", "readStart", "()V"⟩, prog_10_method_5_code, 1, none, [], 1, 7, q_k82),
  (⟨"FadingTrumps$TextReader", "readClause", "(I)V"⟩, prog_10_method_6_code, 2, none, [], 1, 7, q_k83),
  (⟨"FadingTrumps$TextReader", "readHand", "(I)V"⟩, prog_10_method_7_code, 4, none, [], 1, 7, q_k84),
  (⟨"FadingTrumps$TextReader", "readCard", "(I)V"⟩, prog_10_method_8_code, 3, none, [], 1, 7, q_k85),
  (⟨"FadingTrumps$TextReader", "readTell", "()V"⟩, prog_10_method_9_code, 3, none, [], 1, 7, q_k86),
  (⟨"FadingTrumps$TextReader", "handOut", "()V"⟩, prog_10_method_10_code, 1, none, [], 1, 7, q_k87),
  (⟨"FadingTrumps$Tokens", "<init>", "([B)V"⟩, prog_11_method_1_code, 2, none, [], 2, 8, q_k88),
  (⟨"FadingTrumps$Tokens", "open", "(I)V"⟩, prog_11_method_2_code, 2, none, [], 1, 8, q_k89),
  (⟨"FadingTrumps$Tokens", "next", "()V"⟩, prog_11_method_3_code, 1, none, [], 1, 8, q_k90),
  (⟨"FadingTrumps$Tokens", "kindAt", "(I)I"⟩, prog_11_method_4_code, 3, (some .int), [], 1, 8, q_k91),
  (⟨"FadingTrumps$Tokens", "byteAt", "(I)I"⟩, prog_11_method_5_code, 2, (some .int), [], 1, 8, q_k92),
  (⟨"FadingTrumps$Tokens", "hasFailed", "()Z"⟩, prog_11_method_6_code, 1, (some .boolean), [], 1, 8, q_k93),
  (⟨"FadingTrumps$Tokens", "fail", "(I)V"⟩, prog_11_method_7_code, 2, none, [], 1, 8, q_k94),
  (⟨"FadingTrumps$Tokens", "isAtEnd", "()Z"⟩, prog_11_method_8_code, 1, (some .boolean), [], 1, 8, q_k95),
  (⟨"FadingTrumps$Tokens", "isNumber", "()Z"⟩, prog_11_method_9_code, 1, (some .boolean), [], 1, 8, q_k96),
  (⟨"FadingTrumps$Tokens", "isSign", "(I)Z"⟩, prog_11_method_10_code, 2, (some .boolean), [], 1, 8, q_k97),
  (⟨"FadingTrumps$Tokens", "isWord", "(Ljava/lang/String;)Z"⟩, prog_11_method_11_code, 3, (some .boolean), [], 1, 8, q_k98),
  (⟨"FadingTrumps$Tokens", "takeWord", "(Ljava/lang/String;)Z"⟩, prog_11_method_12_code, 2, (some .boolean), [], 1, 8, q_k99)]
def q_m5 : List q_MT := [(⟨"FadingTrumps$Tokens", "takeSign", "(I)Z"⟩, prog_11_method_13_code, 2, (some .boolean), [], 1, 8, q_k100),
  (⟨"FadingTrumps$Tokens", "needWord", "(Ljava/lang/String;)V"⟩, prog_11_method_14_code, 2, none, [], 1, 8, q_k101),
  (⟨"FadingTrumps$Tokens", "needSign", "(I)V"⟩, prog_11_method_15_code, 2, none, [], 1, 8, q_k102),
  (⟨"FadingTrumps$Tokens", "peekNumber", "(II)I"⟩, prog_11_method_16_code, 3, (some .int), [], 1, 8, q_k103),
  (⟨"FadingTrumps$Tokens", "takeNumber", "(II)I"⟩, prog_11_method_17_code, 4, (some .int), [], 1, 8, q_k104),
  (⟨"FadingTrumps$Trick", "<init>", "()V"⟩, prog_12_method_1_code, 1, none, [], 2, 9, q_k105),
  (⟨"FadingTrumps$Trick", "copyFrom", "(LFadingTrumps$Trick;)V"⟩, prog_12_method_2_code, 2, none, [], 1, 9, q_k106),
  (⟨"FadingTrumps$Trick", "begin", "(I)V"⟩, prog_12_method_3_code, 2, none, [], 1, 9, q_k107),
  (⟨"FadingTrumps$Trick", "powerOf", "(LFadingTrumps$Setup;I)I"⟩, prog_12_method_4_code, 4, (some .int), [], 1, 9, q_k108),
  (⟨"FadingTrumps$Rows", "at", "([II)I"⟩, prog_6_method_2_code, 2, (some .int), [], 0, 12, q_k309),
  (⟨"FadingTrumps$Trick", "wouldBeBest", "(LFadingTrumps$Setup;I)Z"⟩, prog_12_method_6_code, 3, (some .boolean), [], 1, 9, q_k110),
  (⟨"FadingTrumps$Trick", "place", "(LFadingTrumps$Setup;I)V"⟩, prog_12_method_7_code, 4, none, [], 1, 9, q_k111),
  (⟨"FadingTrumps$Trick", "finish", "(LFadingTrumps$Setup;IZ)V"⟩, prog_12_method_8_code, 4, none, [], 1, 9, q_k112),
  (⟨"FadingTrumps$Trick", "dim", "(LFadingTrumps$Setup;IZ)V"⟩, prog_12_method_9_code, 4, none, [], 1, 9, q_k113),
  (⟨"FadingTrumps$Trick", "allowed", "(LFadingTrumps$Setup;JI)J"⟩, prog_12_method_10_code, 9, (some .long), [], 1, 9, q_k114),
  (⟨"FadingTrumps$Trick", "higherOf", "(LFadingTrumps$Setup;J)J"⟩, prog_12_method_11_code, 5, (some .long), [], 1, 9, q_k115),
  (⟨"FadingTrumps", "<init>", "()V"⟩, prog_1_method_1_code, 1, none, [], 2, 10, q_k116),
  (⟨"FadingTrumps", "feed", "(IIIII)I"⟩, prog_1_method_2_code, 6, (some .int), [], 1, 10, q_k117),
  (⟨"FadingTrumps", "append", "(I)V"⟩, prog_1_method_3_code, 3, none, [], 1, 10, q_k118),
  (⟨"FadingTrumps", "load", "(I)I"⟩, prog_1_method_4_code, 3, (some .int), [], 1, 10, q_k119)]
def q_m6 : List q_MT := [(⟨"FadingTrumps", "errorPosition", "()I"⟩, prog_1_method_5_code, 1, (some .int), [], 1, 10, q_k120),
  (⟨"FadingTrumps$Rows", "at", "([II)I"⟩, prog_6_method_2_code, 2, (some .int), [], 0, 12, q_k309),
  (⟨"FadingTrumps", "size", "(I)I"⟩, prog_1_method_7_code, 2, (some .int), [], 1, 10, q_k122),
  (⟨"FadingTrumps", "suit", "(I)I"⟩, prog_1_method_8_code, 2, (some .int), [], 1, 10, q_k123),
  (⟨"FadingTrumps", "rank", "(I)I"⟩, prog_1_method_9_code, 2, (some .int), [], 1, 10, q_k124),
  (⟨"FadingTrumps", "holder", "(I)I"⟩, prog_1_method_10_code, 2, (some .int), [], 1, 10, q_k125),
  (⟨"FadingTrumps", "held", "(I)I"⟩, prog_1_method_11_code, 2, (some .int), [], 1, 10, q_k126),
  (⟨"FadingTrumps", "inHand", "(II)I"⟩, prog_1_method_12_code, 7, (some .int), [], 1, 10, q_k127),
  (⟨"FadingTrumps", "ofSuit", "(II)I"⟩, prog_1_method_13_code, 3, (some .int), [], 1, 10, q_k128),
  (⟨"FadingTrumps", "isLegal", "(I)Z"⟩, prog_1_method_14_code, 2, (some .boolean), [], 1, 10, q_k129),
  (⟨"FadingTrumps", "legal", "()I"⟩, prog_1_method_15_code, 1, (some .int), [], 1, 10, q_k130),
  (⟨"FadingTrumps", "power", "(I)I"⟩, prog_1_method_16_code, 2, (some .int), [], 1, 10, q_k131),
  (⟨"FadingTrumps", "led", "()I"⟩, prog_1_method_17_code, 1, (some .int), [], 1, 10, q_k132),
  (⟨"FadingTrumps", "winning", "()I"⟩, prog_1_method_18_code, 1, (some .int), [], 1, 10, q_k133),
  (⟨"FadingTrumps", "wouldLead", "(I)Z"⟩, prog_1_method_19_code, 2, (some .boolean), [], 1, 10, q_k134),
  (⟨"FadingTrumps", "played", "(II)I"⟩, prog_1_method_20_code, 3, (some .int), [], 1, 10, q_k135),
  (⟨"FadingTrumps", "trick", "(II)I"⟩, prog_1_method_21_code, 3, (some .int), [], 1, 10, q_k136),
  (⟨"FadingTrumps", "tricks", "(I)I"⟩, prog_1_method_22_code, 2, (some .int), [], 1, 10, q_k137),
  (⟨"FadingTrumps$Rows", "at", "([II)I"⟩, prog_6_method_2_code, 2, (some .int), [], 0, 12, q_k309),
  (⟨"FadingTrumps$Rows", "at", "([II)I"⟩, prog_6_method_2_code, 2, (some .int), [], 0, 12, q_k309)]
def q_m7 : List q_MT := [(⟨"FadingTrumps$Rows", "at", "([II)I"⟩, prog_6_method_2_code, 2, (some .int), [], 0, 12, q_k309),
  (⟨"FadingTrumps$Rows", "at", "([II)I"⟩, prog_6_method_2_code, 2, (some .int), [], 0, 12, q_k309),
  (⟨"FadingTrumps$Rows", "at", "([II)I"⟩, prog_6_method_2_code, 2, (some .int), [], 0, 12, q_k309),
  (⟨"FadingTrumps$Rows", "at", "([II)I"⟩, prog_6_method_2_code, 2, (some .int), [], 0, 12, q_k309),
  (⟨"FadingTrumps$Rows", "at", "([II)I"⟩, prog_6_method_2_code, 2, (some .int), [], 0, 12, q_k309),
  (⟨"FadingTrumps$Rows", "at", "([II)I"⟩, prog_6_method_2_code, 2, (some .int), [], 0, 12, q_k309),
  (⟨"FadingTrumps$Rows", "at", "([II)I"⟩, prog_6_method_2_code, 2, (some .int), [], 0, 12, q_k309),
  (⟨"FadingTrumps$Rows", "at", "([II)I"⟩, prog_6_method_2_code, 2, (some .int), [], 0, 12, q_k309),
  (⟨"FadingTrumps$Rows", "at", "([II)I"⟩, prog_6_method_2_code, 2, (some .int), [], 0, 12, q_k309),
  (⟨"FadingTrumps$Rows", "at", "([II)I"⟩, prog_6_method_2_code, 2, (some .int), [], 0, 12, q_k309),
  (⟨"FadingTrumps$Rows", "at", "([II)I"⟩, prog_6_method_2_code, 2, (some .int), [], 0, 12, q_k309),
  (⟨"FadingTrumps", "share", "(I)F"⟩, prog_1_method_36_code, 2, (some .float), [], 1, 10, q_k151),
  (⟨"FadingTrumps", "play", "(I)I"⟩, prog_1_method_37_code, 2, (some .int), [], 1, 10, q_k152),
  (⟨"FadingTrumps", "auto", "(I)I"⟩, prog_1_method_38_code, 3, (some .int), [], 1, 10, q_k153),
  (⟨"FadingTrumps", "tell", "(II)I"⟩, prog_1_method_39_code, 4, (some .int), [], 1, 10, q_k154),
  (⟨"FadingTrumps", "deal", "(I)I"⟩, prog_1_method_40_code, 2, (some .int), [], 1, 10, q_k155),
  (⟨"FadingTrumps", "setTrump", "(I)I"⟩, prog_1_method_41_code, 3, (some .int), [], 1, 10, q_k156),
  (⟨"FadingTrumps", "setRule", "(I)I"⟩, prog_1_method_42_code, 3, (some .int), [], 1, 10, q_k157),
  (⟨"FadingTrumps", "setFade", "(I)I"⟩, prog_1_method_43_code, 3, (some .int), [], 1, 10, q_k158),
  (⟨"FadingTrumps", "setRevive", "(Z)I"⟩, prog_1_method_44_code, 3, (some .int), [], 1, 10, q_k159)]
def q_m8 : List q_MT := [(⟨"FadingTrumps$Rows", "at", "([II)I"⟩, prog_6_method_2_code, 2, (some .int), [], 0, 12, q_k309),
  (⟨"FadingTrumps$Rows", "at", "([II)I"⟩, prog_6_method_2_code, 2, (some .int), [], 0, 12, q_k309),
  (⟨"FadingTrumps$Rows", "at", "([II)I"⟩, prog_6_method_2_code, 2, (some .int), [], 0, 12, q_k309),
  (⟨"FadingTrumps", "undo", "()I"⟩, prog_1_method_48_code, 1, (some .int), [], 1, 10, q_k163),
  (⟨"FadingTrumps$Rows", "at", "([II)I"⟩, prog_6_method_2_code, 2, (some .int), [], 0, 12, q_k309),
  (⟨"FadingTrumps$Rows", "at", "([II)I"⟩, prog_6_method_2_code, 2, (some .int), [], 0, 12, q_k309),
  (⟨"FadingTrumps", "needCard", "(I)V"⟩, prog_1_method_51_code, 2, none, [], 1, 10, q_k166),
  (⟨"FadingTrumps", "needPlayer", "(I)V"⟩, prog_1_method_52_code, 2, none, [], 1, 10, q_k167),
  (⟨"FadingTrumps", "needSuit", "(I)V"⟩, prog_1_method_53_code, 2, none, [], 1, 10, q_k168),
  (⟨"FadingTrumps", "needRange", "(III)V"⟩, prog_1_method_54_code, 4, none, [], 1, 10, q_k169),
  (⟨"FadingTrumpsLaw", "<init>", "()V"⟩, method_1_code, 1, none, [], 2, 11, q_k170),
  (⟨"FadingTrumpsLaw", "writes", "(Ljava/lang/String;)V"⟩, method_2_code, 3, none, [], 1, 11, q_k171),
  (⟨"FadingTrumpsLaw", "spaced", "(I)V"⟩, method_3_code, 3, none, [], 1, 11, q_k172),
  (⟨"FadingTrumpsLaw", "cell", "([II)I"⟩, method_4_code, 2, (some .int), [], 0, 11, q_k173),
  (⟨"FadingTrumpsLaw", "feeds", "(LFadingTrumps;)I"⟩, method_5_code, 5, (some .int), [], 1, 11, q_k174),
  (⟨"FadingTrumpsLaw", "loads", "(LFadingTrumps;[I)Z"⟩, method_6_code, 14, (some .boolean), [], 1, 11, q_k175),
  (⟨"FadingTrumpsLaw", "areDealt", "(LFadingTrumps;IIII)Z"⟩, method_7_code, 9, (some .boolean), [], 0, 11, q_k176),
  (⟨"FadingTrumpsLaw", "acts", "(LFadingTrumps;I)I"⟩, method_8_code, 4, (some .int), [], 0, 11, q_k177),
  (⟨"FadingTrumpsLaw", "holds", "(LFadingTrumps;[I)Z"⟩, method_10_code, 4, (some .boolean), [], 0, 11, q_k178),
  (⟨"FadingTrumpsLaw", "isOnce", "(LFadingTrumps;)Z"⟩, method_11_code, 7, (some .boolean), [], 0, 11, q_k179)]
def q_m9 : List q_MT := [(⟨"FadingTrumpsLaw", "power", "(LFadingTrumps;IIII)I"⟩, method_12_code, 5, (some .int), [], 0, 11, q_k180),
  (⟨"FadingTrumpsLaw", "areLegal", "(LFadingTrumps;)Z"⟩, method_13_code, 12, (some .boolean), [], 0, 11, q_k181),
  (⟨"FadingTrumpsLaw", "areTricks", "(LFadingTrumps;)Z"⟩, method_14_code, 8, (some .boolean), [], 0, 11, q_k182),
  (⟨"FadingTrumpsLaw", "isPlayed", "(LFadingTrumps;I)Z"⟩, method_15_code, 18, (some .boolean), [], 0, 11, q_k183),
  (⟨"FadingTrumps$Rows", "at", "([II)I"⟩, prog_6_method_2_code, 2, (some .int), [], 0, 12, q_k309),
  (⟨"FadingTrumps$Rows", "at", "([II)I"⟩, prog_6_method_2_code, 2, (some .int), [], 0, 12, q_k309),
  (⟨"FadingTrumps$Rows", "at", "([II)I"⟩, prog_6_method_2_code, 2, (some .int), [], 0, 12, q_k309),
  (⟨"FadingTrumps$Rows", "at", "([II)I"⟩, prog_6_method_2_code, 2, (some .int), [], 0, 12, q_k309),
  (⟨"FadingTrumps$Rows", "at", "([II)I"⟩, prog_6_method_2_code, 2, (some .int), [], 0, 12, q_k309),
  (⟨"FadingTrumps$Rows", "at", "([II)I"⟩, prog_6_method_2_code, 2, (some .int), [], 0, 12, q_k309),
  (⟨"FadingTrumps$Rows", "at", "([II)I"⟩, prog_6_method_2_code, 2, (some .int), [], 0, 12, q_k309),
  (⟨"FadingTrumps$Rows", "at", "([II)I"⟩, prog_6_method_2_code, 2, (some .int), [], 0, 12, q_k309),
  (⟨"FadingTrumps$Rows", "at", "([II)I"⟩, prog_6_method_2_code, 2, (some .int), [], 0, 12, q_k309),
  (⟨"FadingTrumps$Rows", "at", "([II)I"⟩, prog_6_method_2_code, 2, (some .int), [], 0, 12, q_k309),
  (⟨"FadingTrumps$Rows", "at", "([II)I"⟩, prog_6_method_2_code, 2, (some .int), [], 0, 12, q_k309),
  (⟨"FadingTrumps$Rows", "at", "([II)I"⟩, prog_6_method_2_code, 2, (some .int), [], 0, 12, q_k309),
  (⟨"FadingTrumps$Rows", "at", "([II)I"⟩, prog_6_method_2_code, 2, (some .int), [], 0, 12, q_k309),
  (⟨"FadingTrumps$Rows", "at", "([II)I"⟩, prog_6_method_2_code, 2, (some .int), [], 0, 12, q_k309),
  (⟨"FadingTrumps$Rows", "at", "([II)I"⟩, prog_6_method_2_code, 2, (some .int), [], 0, 12, q_k309),
  (⟨"FadingTrumps$Rows", "at", "([II)I"⟩, prog_6_method_2_code, 2, (some .int), [], 0, 12, q_k309)]
def q_m10 : List q_MT := [(⟨"FadingTrumps$Rows", "at", "([II)I"⟩, prog_6_method_2_code, 2, (some .int), [], 0, 12, q_k309),
  (⟨"FadingTrumps$Rows", "at", "([II)I"⟩, prog_6_method_2_code, 2, (some .int), [], 0, 12, q_k309),
  (⟨"FadingTrumps$Rows", "at", "([II)I"⟩, prog_6_method_2_code, 2, (some .int), [], 0, 12, q_k309),
  (⟨"FadingTrumps$Rows", "at", "([II)I"⟩, prog_6_method_2_code, 2, (some .int), [], 0, 12, q_k309),
  (⟨"FadingTrumps$Rows", "at", "([II)I"⟩, prog_6_method_2_code, 2, (some .int), [], 0, 12, q_k309),
  (⟨"FadingTrumps$Rows", "at", "([II)I"⟩, prog_6_method_2_code, 2, (some .int), [], 0, 12, q_k309),
  (⟨"FadingTrumps$Rows", "at", "([II)I"⟩, prog_6_method_2_code, 2, (some .int), [], 0, 12, q_k309),
  (⟨"FadingTrumps$Rows", "at", "([II)I"⟩, prog_6_method_2_code, 2, (some .int), [], 0, 12, q_k309),
  (⟨"FadingTrumps$Rows", "at", "([II)I"⟩, prog_6_method_2_code, 2, (some .int), [], 0, 12, q_k309),
  (⟨"FadingTrumps$Rows", "at", "([II)I"⟩, prog_6_method_2_code, 2, (some .int), [], 0, 12, q_k309),
  (⟨"FadingTrumps$Rows", "at", "([II)I"⟩, prog_6_method_2_code, 2, (some .int), [], 0, 12, q_k309),
  (⟨"FadingTrumps$Rows", "at", "([II)I"⟩, prog_6_method_2_code, 2, (some .int), [], 0, 12, q_k309),
  (⟨"FadingTrumps$Rows", "at", "([II)I"⟩, prog_6_method_2_code, 2, (some .int), [], 0, 12, q_k309),
  (⟨"FadingTrumps$Rows", "at", "([II)I"⟩, prog_6_method_2_code, 2, (some .int), [], 0, 12, q_k309),
  (⟨"FadingTrumps$Rows", "at", "([II)I"⟩, prog_6_method_2_code, 2, (some .int), [], 0, 12, q_k309),
  (⟨"FadingTrumps$Rows", "at", "([II)I"⟩, prog_6_method_2_code, 2, (some .int), [], 0, 12, q_k309),
  (⟨"FadingTrumps$Rows", "at", "([II)I"⟩, prog_6_method_2_code, 2, (some .int), [], 0, 12, q_k309),
  (⟨"FadingTrumps$Rows", "at", "([II)I"⟩, prog_6_method_2_code, 2, (some .int), [], 0, 12, q_k309),
  (⟨"FadingTrumps$Rows", "at", "([II)I"⟩, prog_6_method_2_code, 2, (some .int), [], 0, 12, q_k309),
  (⟨"FadingTrumps$Rows", "at", "([II)I"⟩, prog_6_method_2_code, 2, (some .int), [], 0, 12, q_k309)]
def q_m11 : List q_MT := [(⟨"FadingTrumps$Rows", "at", "([II)I"⟩, prog_6_method_2_code, 2, (some .int), [], 0, 12, q_k309),
  (⟨"FadingTrumps$Rows", "at", "([II)I"⟩, prog_6_method_2_code, 2, (some .int), [], 0, 12, q_k309),
  (⟨"FadingTrumps$Rows", "at", "([II)I"⟩, prog_6_method_2_code, 2, (some .int), [], 0, 12, q_k309),
  (⟨"FadingTrumps$Rows", "at", "([II)I"⟩, prog_6_method_2_code, 2, (some .int), [], 0, 12, q_k309),
  (⟨"FadingTrumps$Rows", "at", "([II)I"⟩, prog_6_method_2_code, 2, (some .int), [], 0, 12, q_k309),
  (⟨"FadingTrumps$Rows", "at", "([II)I"⟩, prog_6_method_2_code, 2, (some .int), [], 0, 12, q_k309),
  (⟨"FadingTrumps$Rows", "at", "([II)I"⟩, prog_6_method_2_code, 2, (some .int), [], 0, 12, q_k309),
  (⟨"FadingTrumps$Rows", "at", "([II)I"⟩, prog_6_method_2_code, 2, (some .int), [], 0, 12, q_k309),
  (⟨"FadingTrumps$Rows", "at", "([II)I"⟩, prog_6_method_2_code, 2, (some .int), [], 0, 12, q_k309),
  (⟨"FadingTrumps$Rows", "at", "([II)I"⟩, prog_6_method_2_code, 2, (some .int), [], 0, 12, q_k309),
  (⟨"FadingTrumps$Rows", "at", "([II)I"⟩, prog_6_method_2_code, 2, (some .int), [], 0, 12, q_k309),
  (⟨"FadingTrumps$Rows", "at", "([II)I"⟩, prog_6_method_2_code, 2, (some .int), [], 0, 12, q_k309),
  (⟨"FadingTrumps$Rows", "at", "([II)I"⟩, prog_6_method_2_code, 2, (some .int), [], 0, 12, q_k309),
  (⟨"FadingTrumps$Rows", "at", "([II)I"⟩, prog_6_method_2_code, 2, (some .int), [], 0, 12, q_k309),
  (⟨"FadingTrumps$Rows", "at", "([II)I"⟩, prog_6_method_2_code, 2, (some .int), [], 0, 12, q_k309),
  (⟨"FadingTrumps$Rows", "at", "([II)I"⟩, prog_6_method_2_code, 2, (some .int), [], 0, 12, q_k309),
  (⟨"FadingTrumps$Rows", "at", "([II)I"⟩, prog_6_method_2_code, 2, (some .int), [], 0, 12, q_k309),
  (⟨"FadingTrumps$Rows", "at", "([II)I"⟩, prog_6_method_2_code, 2, (some .int), [], 0, 12, q_k309),
  (⟨"FadingTrumps$Rows", "at", "([II)I"⟩, prog_6_method_2_code, 2, (some .int), [], 0, 12, q_k309),
  (⟨"FadingTrumps$Rows", "at", "([II)I"⟩, prog_6_method_2_code, 2, (some .int), [], 0, 12, q_k309)]
def q_m12 : List q_MT := [(⟨"FadingTrumps$Rows", "at", "([II)I"⟩, prog_6_method_2_code, 2, (some .int), [], 0, 12, q_k309),
  (⟨"FadingTrumps$Rows", "at", "([II)I"⟩, prog_6_method_2_code, 2, (some .int), [], 0, 12, q_k309),
  (⟨"FadingTrumps$Rows", "at", "([II)I"⟩, prog_6_method_2_code, 2, (some .int), [], 0, 12, q_k309),
  (⟨"FadingTrumps$Rows", "at", "([II)I"⟩, prog_6_method_2_code, 2, (some .int), [], 0, 12, q_k309),
  (⟨"FadingTrumps$Rows", "at", "([II)I"⟩, prog_6_method_2_code, 2, (some .int), [], 0, 12, q_k309),
  (⟨"FadingTrumps$Rows", "at", "([II)I"⟩, prog_6_method_2_code, 2, (some .int), [], 0, 12, q_k309),
  (⟨"FadingTrumps$Rows", "at", "([II)I"⟩, prog_6_method_2_code, 2, (some .int), [], 0, 12, q_k309),
  (⟨"FadingTrumps$Rows", "at", "([II)I"⟩, prog_6_method_2_code, 2, (some .int), [], 0, 12, q_k309),
  (⟨"FadingTrumps$Rows", "at", "([II)I"⟩, prog_6_method_2_code, 2, (some .int), [], 0, 12, q_k309),
  (⟨"FadingTrumps$Rows", "at", "([II)I"⟩, prog_6_method_2_code, 2, (some .int), [], 0, 12, q_k309),
  (⟨"FadingTrumps$Rows", "at", "([II)I"⟩, prog_6_method_2_code, 2, (some .int), [], 0, 12, q_k309),
  (⟨"FadingTrumps$Rows", "at", "([II)I"⟩, prog_6_method_2_code, 2, (some .int), [], 0, 12, q_k309),
  (⟨"FadingTrumps$Rows", "at", "([II)I"⟩, prog_6_method_2_code, 2, (some .int), [], 0, 12, q_k309),
  (⟨"FadingTrumps$Rows", "at", "([II)I"⟩, prog_6_method_2_code, 2, (some .int), [], 0, 12, q_k309),
  (⟨"FadingTrumps$Rows", "at", "([II)I"⟩, prog_6_method_2_code, 2, (some .int), [], 0, 12, q_k309),
  (⟨"FadingTrumps$Rows", "at", "([II)I"⟩, prog_6_method_2_code, 2, (some .int), [], 0, 12, q_k309),
  (⟨"FadingTrumps$Rows", "at", "([II)I"⟩, prog_6_method_2_code, 2, (some .int), [], 0, 12, q_k309),
  (⟨"FadingTrumps$Rows", "at", "([II)I"⟩, prog_6_method_2_code, 2, (some .int), [], 0, 12, q_k309),
  (⟨"FadingTrumps$Rows", "at", "([II)I"⟩, prog_6_method_2_code, 2, (some .int), [], 0, 12, q_k309),
  (⟨"FadingTrumps$Rows", "at", "([II)I"⟩, prog_6_method_2_code, 2, (some .int), [], 0, 12, q_k309)]
def q_m13 : List q_MT := [(⟨"FadingTrumps$Rows", "at", "([II)I"⟩, prog_6_method_2_code, 2, (some .int), [], 0, 12, q_k309),
  (⟨"FadingTrumps$Rows", "at", "([II)I"⟩, prog_6_method_2_code, 2, (some .int), [], 0, 12, q_k309),
  (⟨"FadingTrumps$Rows", "at", "([II)I"⟩, prog_6_method_2_code, 2, (some .int), [], 0, 12, q_k309),
  (⟨"FadingTrumps$Rows", "at", "([II)I"⟩, prog_6_method_2_code, 2, (some .int), [], 0, 12, q_k309),
  (⟨"FadingTrumps$Rows", "at", "([II)I"⟩, prog_6_method_2_code, 2, (some .int), [], 0, 12, q_k309),
  (⟨"FadingTrumps$Rows", "at", "([II)I"⟩, prog_6_method_2_code, 2, (some .int), [], 0, 12, q_k309),
  (⟨"FadingTrumps$Rows", "at", "([II)I"⟩, prog_6_method_2_code, 2, (some .int), [], 0, 12, q_k309),
  (⟨"FadingTrumps$Rows", "at", "([II)I"⟩, prog_6_method_2_code, 2, (some .int), [], 0, 12, q_k309),
  (⟨"FadingTrumps$Rows", "at", "([II)I"⟩, prog_6_method_2_code, 2, (some .int), [], 0, 12, q_k309),
  (⟨"FadingTrumps$Rows", "at", "([II)I"⟩, prog_6_method_2_code, 2, (some .int), [], 0, 12, q_k309),
  (⟨"FadingTrumps$Rows", "at", "([II)I"⟩, prog_6_method_2_code, 2, (some .int), [], 0, 12, q_k309),
  (⟨"FadingTrumps$Rows", "at", "([II)I"⟩, prog_6_method_2_code, 2, (some .int), [], 0, 12, q_k309),
  (⟨"FadingTrumps$Rows", "at", "([II)I"⟩, prog_6_method_2_code, 2, (some .int), [], 0, 12, q_k309),
  (⟨"FadingTrumps$Rows", "at", "([II)I"⟩, prog_6_method_2_code, 2, (some .int), [], 0, 12, q_k309),
  (⟨"FadingTrumps$Rows", "at", "([II)I"⟩, prog_6_method_2_code, 2, (some .int), [], 0, 12, q_k309),
  (⟨"FadingTrumps$Rows", "at", "([II)I"⟩, prog_6_method_2_code, 2, (some .int), [], 0, 12, q_k309),
  (⟨"FadingTrumps$Rows", "at", "([II)I"⟩, prog_6_method_2_code, 2, (some .int), [], 0, 12, q_k309),
  (⟨"FadingTrumps$Rows", "at", "([II)I"⟩, prog_6_method_2_code, 2, (some .int), [], 0, 12, q_k309),
  (⟨"FadingTrumps$Rows", "at", "([II)I"⟩, prog_6_method_2_code, 2, (some .int), [], 0, 12, q_k309),
  (⟨"FadingTrumps$Rows", "at", "([II)I"⟩, prog_6_method_2_code, 2, (some .int), [], 0, 12, q_k309)]
def q_m14 : List q_MT := [(⟨"FadingTrumps$Rows", "at", "([II)I"⟩, prog_6_method_2_code, 2, (some .int), [], 0, 12, q_k309),
  (⟨"FadingTrumps$Rows", "at", "([II)I"⟩, prog_6_method_2_code, 2, (some .int), [], 0, 12, q_k309),
  (⟨"FadingTrumps$Rows", "at", "([II)I"⟩, prog_6_method_2_code, 2, (some .int), [], 0, 12, q_k309),
  (⟨"FadingTrumps$Rows", "at", "([II)I"⟩, prog_6_method_2_code, 2, (some .int), [], 0, 12, q_k309),
  (⟨"FadingTrumps$Rows", "at", "([II)I"⟩, prog_6_method_2_code, 2, (some .int), [], 0, 12, q_k309),
  (⟨"FadingTrumps$Rows", "at", "([II)I"⟩, prog_6_method_2_code, 2, (some .int), [], 0, 12, q_k309),
  (⟨"FadingTrumps$Rows", "at", "([II)I"⟩, prog_6_method_2_code, 2, (some .int), [], 0, 12, q_k309),
  (⟨"FadingTrumps$Rows", "at", "([II)I"⟩, prog_6_method_2_code, 2, (some .int), [], 0, 12, q_k309),
  (⟨"FadingTrumps$Rows", "at", "([II)I"⟩, prog_6_method_2_code, 2, (some .int), [], 0, 12, q_k309),
  (⟨"FadingTrumps$Rows", "at", "([II)I"⟩, prog_6_method_2_code, 2, (some .int), [], 0, 12, q_k309),
  (⟨"FadingTrumps$Rows", "at", "([II)I"⟩, prog_6_method_2_code, 2, (some .int), [], 0, 12, q_k309),
  (⟨"FadingTrumps$Rows", "at", "([II)I"⟩, prog_6_method_2_code, 2, (some .int), [], 0, 12, q_k309),
  (⟨"FadingTrumps$Rows", "at", "([II)I"⟩, prog_6_method_2_code, 2, (some .int), [], 0, 12, q_k309),
  (⟨"FadingTrumps$Rows", "at", "([II)I"⟩, prog_6_method_2_code, 2, (some .int), [], 0, 12, q_k309),
  (⟨"FadingTrumps$Rows", "at", "([II)I"⟩, prog_6_method_2_code, 2, (some .int), [], 0, 12, q_k309),
  (⟨"FadingTrumps$Rows", "at", "([II)I"⟩, prog_6_method_2_code, 2, (some .int), [], 0, 12, q_k309),
  (⟨"FadingTrumps$Rows", "at", "([II)I"⟩, prog_6_method_2_code, 2, (some .int), [], 0, 12, q_k309),
  (⟨"FadingTrumps$Rows", "at", "([II)I"⟩, prog_6_method_2_code, 2, (some .int), [], 0, 12, q_k309),
  (⟨"FadingTrumps$Rows", "at", "([II)I"⟩, prog_6_method_2_code, 2, (some .int), [], 0, 12, q_k309),
  (⟨"FadingTrumps$Rows", "at", "([II)I"⟩, prog_6_method_2_code, 2, (some .int), [], 0, 12, q_k309)]
def q_m15 : List q_MT := [(⟨"FadingTrumps$Rows", "at", "([II)I"⟩, prog_6_method_2_code, 2, (some .int), [], 0, 12, q_k309),
  (⟨"FadingTrumps$Rows", "at", "([II)I"⟩, prog_6_method_2_code, 2, (some .int), [], 0, 12, q_k309),
  (⟨"FadingTrumps$Rows", "at", "([II)I"⟩, prog_6_method_2_code, 2, (some .int), [], 0, 12, q_k309),
  (⟨"FadingTrumps$Rows", "at", "([II)I"⟩, prog_6_method_2_code, 2, (some .int), [], 0, 12, q_k309),
  (⟨"FadingTrumps$Rows", "at", "([II)I"⟩, prog_6_method_2_code, 2, (some .int), [], 0, 12, q_k309),
  (⟨"FadingTrumps$Rows", "at", "([II)I"⟩, prog_6_method_2_code, 2, (some .int), [], 0, 12, q_k309),
  (⟨"FadingTrumps$Rows", "at", "([II)I"⟩, prog_6_method_2_code, 2, (some .int), [], 0, 12, q_k309),
  (⟨"FadingTrumps$Rows", "at", "([II)I"⟩, prog_6_method_2_code, 2, (some .int), [], 0, 12, q_k309),
  (⟨"FadingTrumps$Rows", "at", "([II)I"⟩, prog_6_method_2_code, 2, (some .int), [], 0, 12, q_k309),
  (⟨"FadingTrumps$Rows", "at", "([II)I"⟩, prog_6_method_2_code, 2, (some .int), [], 0, 12, q_k309),
  (⟨"FadingTrumps$Rows", "set", "([III)V"⟩, prog_6_method_3_code, 3, none, [], 0, 12, q_k310),
  (⟨"FadingTrumps$Rows", "fill", "([II)V"⟩, prog_6_method_4_code, 3, none, [], 0, 12, q_k311),
  (⟨"FadingTrumps$Rows", "copy", "([I[I)V"⟩, prog_6_method_5_code, 2, none, [], 0, 12, q_k312),
  (⟨"FadingTrumps$Rows", "copySets", "([J[J)V"⟩, prog_6_method_6_code, 2, none, [], 0, 12, q_k313),
  (⟨"FadingTrumps$Rows", "has", "(JI)Z"⟩, prog_6_method_7_code, 3, (some .boolean), [], 0, 12, q_k314),
  (⟨"FadingTrumps$Rows", "with", "(JI)J"⟩, prog_6_method_8_code, 3, (some .long), [], 0, 12, q_k315),
  (⟨"FadingTrumps$Rows", "without", "(JI)J"⟩, prog_6_method_9_code, 3, (some .long), [], 0, 12, q_k316),
  (⟨"FadingTrumps$Rows", "at", "([II)I"⟩, prog_6_method_2_code, 2, (some .int), [], 0, 12, q_k309),
  (⟨"FadingTrumps$Rows", "at", "([II)I"⟩, prog_6_method_2_code, 2, (some .int), [], 0, 12, q_k309),
  (⟨"FadingTrumps$Rows", "at", "([II)I"⟩, prog_6_method_2_code, 2, (some .int), [], 0, 12, q_k309)]
def q_m16 : List q_MT := [(⟨"FadingTrumps$Rows", "at", "([II)I"⟩, prog_6_method_2_code, 2, (some .int), [], 0, 12, q_k309),
  (⟨"FadingTrumps$Rows", "at", "([II)I"⟩, prog_6_method_2_code, 2, (some .int), [], 0, 12, q_k309),
  (⟨"FadingTrumps$Rows", "at", "([II)I"⟩, prog_6_method_2_code, 2, (some .int), [], 0, 12, q_k309),
  (⟨"FadingTrumps$Rows", "at", "([II)I"⟩, prog_6_method_2_code, 2, (some .int), [], 0, 12, q_k309),
  (⟨"FadingTrumps$Rows", "at", "([II)I"⟩, prog_6_method_2_code, 2, (some .int), [], 0, 12, q_k309),
  (⟨"FadingTrumps$Rows", "at", "([II)I"⟩, prog_6_method_2_code, 2, (some .int), [], 0, 12, q_k309),
  (⟨"FadingTrumps$Rows", "at", "([II)I"⟩, prog_6_method_2_code, 2, (some .int), [], 0, 12, q_k309),
  (⟨"FadingTrumps$Rows", "at", "([II)I"⟩, prog_6_method_2_code, 2, (some .int), [], 0, 12, q_k309),
  (⟨"FadingTrumps$Rows", "at", "([II)I"⟩, prog_6_method_2_code, 2, (some .int), [], 0, 12, q_k309),
  (⟨"FadingTrumps$Rows", "at", "([II)I"⟩, prog_6_method_2_code, 2, (some .int), [], 0, 12, q_k309),
  (⟨"FadingTrumps$Rows", "at", "([II)I"⟩, prog_6_method_2_code, 2, (some .int), [], 0, 12, q_k309),
  (⟨"FadingTrumps$Rows", "at", "([II)I"⟩, prog_6_method_2_code, 2, (some .int), [], 0, 12, q_k309),
  (⟨"FadingTrumps$Rows", "at", "([II)I"⟩, prog_6_method_2_code, 2, (some .int), [], 0, 12, q_k309),
  (⟨"FadingTrumps$Rows", "at", "([II)I"⟩, prog_6_method_2_code, 2, (some .int), [], 0, 12, q_k309),
  (⟨"FadingTrumps$Rows", "at", "([II)I"⟩, prog_6_method_2_code, 2, (some .int), [], 0, 12, q_k309),
  (⟨"FadingTrumps$Rows", "at", "([II)I"⟩, prog_6_method_2_code, 2, (some .int), [], 0, 12, q_k309),
  (⟨"FadingTrumps$Rows", "at", "([II)I"⟩, prog_6_method_2_code, 2, (some .int), [], 0, 12, q_k309),
  (⟨"FadingTrumps$Rows", "at", "([II)I"⟩, prog_6_method_2_code, 2, (some .int), [], 0, 12, q_k309),
  (⟨"FadingTrumps$Rows", "at", "([II)I"⟩, prog_6_method_2_code, 2, (some .int), [], 0, 12, q_k309),
  (⟨"FadingTrumps$Rows", "at", "([II)I"⟩, prog_6_method_2_code, 2, (some .int), [], 0, 12, q_k309)]
def q_m17 : List q_MT := [(⟨"FadingTrumps$Rows", "at", "([II)I"⟩, prog_6_method_2_code, 2, (some .int), [], 0, 12, q_k309),
  (⟨"FadingTrumps$Rows", "at", "([II)I"⟩, prog_6_method_2_code, 2, (some .int), [], 0, 12, q_k309),
  (⟨"FadingTrumps$Rows", "at", "([II)I"⟩, prog_6_method_2_code, 2, (some .int), [], 0, 12, q_k309),
  (⟨"FadingTrumps$Rows", "at", "([II)I"⟩, prog_6_method_2_code, 2, (some .int), [], 0, 12, q_k309),
  (⟨"FadingTrumps$Rows", "at", "([II)I"⟩, prog_6_method_2_code, 2, (some .int), [], 0, 12, q_k309),
  (⟨"FadingTrumps$Rows", "at", "([II)I"⟩, prog_6_method_2_code, 2, (some .int), [], 0, 12, q_k309),
  (⟨"FadingTrumps$Rows", "at", "([II)I"⟩, prog_6_method_2_code, 2, (some .int), [], 0, 12, q_k309),
  (⟨"FadingTrumps$Rows", "at", "([II)I"⟩, prog_6_method_2_code, 2, (some .int), [], 0, 12, q_k309),
  (⟨"FadingTrumps$Rows", "at", "([II)I"⟩, prog_6_method_2_code, 2, (some .int), [], 0, 12, q_k309),
  (⟨"FadingTrumps$Rows", "at", "([II)I"⟩, prog_6_method_2_code, 2, (some .int), [], 0, 12, q_k309),
  (⟨"FadingTrumps$Rows", "at", "([II)I"⟩, prog_6_method_2_code, 2, (some .int), [], 0, 12, q_k309),
  (x, code, maxLocals, ret, [], 0, 11, q_k351),
  (⟨"java/lang/Long", "bitCount", "(J)I"⟩, prog_20_method_50_code, 2, (some .int), [], 0, 14, q_k352)]
def q_mt : List q_MT := q_m0 ++ (q_m1 ++ (q_m2 ++ (q_m3 ++ (q_m4 ++ (q_m5 ++ (q_m6 ++ (q_m7 ++ (q_m8 ++ (q_m9 ++ (q_m10 ++ (q_m11 ++ (q_m12 ++ (q_m13 ++ (q_m14 ++ (q_m15 ++ (q_m16 ++ (q_m17)))))))))))))))))
def q_law : Nat := 351
end
section
/-! ===== BEGIN words of one list among another's, by their places ===== -/
theorem goodIn_r {big : List Cond} (ws : List Cond) (ps : List Nat) (hp : ws = ps.filterMap (fun i => big[i]?)) (h : ws.all goodWord = true) : GoodIn big ws := by
  intro w hw
  have h1 := List.all_eq_true.mp h w hw
  rw [hp] at hw
  obtain ⟨i, -, hi⟩ := List.mem_filterMap.mp hw
  have hm : w ∈ big := by first | exact List.mem_of_getElem? hi | exact List.getElem?_mem hi
  exact ⟨hm, good_of_word h1⟩
theorem goodIn_app {big a b : List Cond} (ha : GoodIn big a) (hb : GoodIn big b) : GoodIn big (a ++ b) := fun w h => (List.mem_append.mp h).elim (ha w) (hb w)
theorem goodIn_ca {big a b : List Cond} {c : Cond} (ha : GoodIn big (c :: a)) (hb : GoodIn big b) : GoodIn big (c :: (a ++ b)) := fun w h => (List.mem_cons.mp h).elim (fun e => ha w (List.mem_cons.mpr (Or.inl e))) (fun h => (List.mem_append.mp h).elim (fun h => ha w (List.mem_cons.mpr (Or.inr h))) (hb w))
theorem goodIn_sub {big ws : List Cond} (hm : ∀ w ∈ ws, w ∈ big) (h : ws.all goodWord = true) : GoodIn big ws := fun w hw => ⟨hm w hw, good_of_word (List.all_eq_true.mp h w hw)⟩
/-! ===== END ===== -/
/-! ===== BEGIN exceptions that leave a method, and their catching by the caller (launches without stack traces) ===== -/
section VXA
/-! The laws vx_back, vx_callV, vx_callS, vx_callSW, vx_throw0, vx_throwS follow proofs of the library, with one case more: JvmDerived/Free/Laws.lean (Back.of_free), Shelf42/LK1.lean (callV, callS), Shelf/KitTraced.lean (throwNew0V, throwNewS). -/
/-- where a method has thrown q: the class by its name, the cell, what was written, the world -/
def vx_T (XC : String → State → State → Prop) (st : State) (q : Addr) (t : State) (mc ms : Nat) (free : Addr → Prop) : Prop :=
  ∃ (E : String) (ce : Cell) (L : List Loc), XC E st t ∧ t.heap[q]? = some ce ∧ ce.vm = .none ∧ st.vm.findClass E = some ce.cls ∧ st.WarmedH t.vm ∧ st.sameButNew ({ t with vm := st.vm } : State) L mc ms ∧ ∀ z ∈ L, free z.base
def vx_Q (Qc : Array Value → State → Outcome → State → Prop) (XC : String → State → State → Prop) (mc ms : Nat) (free : Addr → Prop) : Array Value → State → Outcome → State → Prop := fun a st o t =>
  (Qc a st o t ∧ ∃ L, FrameEnd st o t L mc ms ∧ ∀ q ∈ L, free q.base) ∨ ∃ q, o = .threw q ∧ vx_T XC st q t mc ms free
/-- a callee that returns or throws -/
def vx_Met (l : Launch) (y : MethodName) (ws : List Cond) (rm : Room) (Pc : Array Value → State → Prop) (Qc : Array Value → State → Outcome → State → Prop) (XC : String → State → State → Prop) (mc ms : Nat) (free : Addr → Prop) : Prop :=
  MetFree l y (headSpec ws rm) Pc (fun _ _ _ _ _ => True) (vx_Q Qc XC mc ms free)
def vx_Post (XC : String → State → State → Prop) (mc ms : Nat) (free : Addr → Prop) : Pt → Array Value → Addr → Pt → Prop := fun A a q B =>
  ∃ (g : JFrame) (mk : MethodId) (t : State) (L : List Loc) (E : String) (ce : Cell), B.U.heap = t.heap ∧ B.U.vm = t.vm ∧ XC E (A.U.calling g mk a) t ∧ t.heap[q]? = some ce ∧ ce.vm = .none ∧ A.U.vm.findClass E = some ce.cls ∧ B.locs = A.locs ++ L ∧ (∀ z ∈ L, free z.base) ∧ B.cells = A.cells + mc ∧ B.slots = A.slots + ms
def vx_Back (l : Launch) (R : Room) (p : Program) (e : Env) (below : List Frame) (s : State) (sargs : Array Value) (y : MethodName) (len W9 : Nat)
    (Pre : Pt → Array Value → Prop) (Post : Pt → Array Value → Option Value → Pt → Prop) (PostX : Pt → Array Value → Addr → Pt → Prop) : Prop :=
  ∀ (m : MethodId) (meth : Method) (c : Code) (A : Pt) (g : JFrame) (ig : Instr) (mk : MethodId) (a : Array Value),
    Stand p l e R s m sargs below meth c A.U A.locs A.cells A.slots → g.method = m → g.locals.size = c.maxLocals → decode c.code g.pc = .ok (ig, len) →
    2 * g.monitorRoom + (g.stack.map fun v => v.category).sum ≤ W9 → A.U.methodNamed? y = some mk → Pre A a →
    (∃ (v : Option Value) (B : Pt), Stand p l e R s m sargs below meth c B.U B.locs B.cells B.slots ∧ Post A a v B ∧
      Steps p.tables e below (doInvoke e (A.U.setTop g) [] mk a).1 (B.U.setTop { g with pc := g.pc + len, stack := v.toList ++ g.stack })) ∨
    (∃ (q : Addr) (B : Pt), Stand p l e R s m sargs below meth c B.U B.locs B.cells B.slots ∧ PostX A a q B ∧
      Steps p.tables e below (doInvoke e (A.U.setTop g) [] mk a).1 ((B.U.setTop g).pushFrame (.throwing q)))
section Payer
variable {l : Launch} {R : Room} {p : Program} {e : Env} {below : List Frame} {s : State} {sargs : Array Value} {y : MethodName} {len W9 : Nat}
theorem vx_back {ws : List Cond} {rm : Room} {Pc : Array Value → State → Prop} {Qc : Array Value → State → Outcome → State → Prop} {XC : String → State → State → Prop} {mc ms : Nat} {free : Addr → Prop} {bytes : ByteArray} {maxL : Nat} {ret : Option FieldType}
    (hM : vx_Met l y ws rm Pc Qc XC mc ms free) (hblind : FrameBlind Pc) (hrc : rm.cells = mc) (hrs : rm.slots = ms)
    (hframes : rm.frames + 1 ≤ R.frames) (hlocals : W9 + (maxL + 11) + rm.locals ≤ R.locals)
    (hws : ∀ w ∈ ws, ∀ a' U, s.WarmedH U.vm → w.before a' U = true) (hcode : Cond.code y bytes maxL ret ∈ ws) (hinit : ∀ a' U, s.WarmedH U.vm → (Cond.initialized y.cls).before a' U = true) :
    vx_Back l R p e below s sargs y len W9 (PreOf R mc ms Pc) (PostOf Qc mc ms free) (vx_Post XC mc ms free) := by
  intro m meth c A g ig mk a X hg hsize hdg hW hn hp
  have h1 : (headSpec ws rm).pre.before a A.U = true := atoms_intro fun w hw => hws w hw _ _ X.warmed
  have h2 : (Cond.code y bytes maxL ret).before a A.U = true := hws _ hcode _ _ X.warmed
  have h3 : (Cond.initialized y.cls).before a A.U = true := hinit _ _ X.warmed
  have h4 : A.cells + (headSpec ws rm).room.cells ≤ R.cells := by rw [show (headSpec ws rm).room.cells = mc from hrc]; exact hp.1
  have h5 : A.slots + (headSpec ws rm).room.slots ≤ R.slots := by rw [show (headSpec ws rm).room.slots = ms from hrs]; exact hp.2.1
  have hPc : Pc a (A.U.calling g mk a) := hblind _ _ _ _ hp.2.2
  obtain ⟨U, Ls, c0, s0⟩ := A
  dsimp only [Pt.U, Pt.locs, Pt.cells, Pt.slots] at h1 h2 h3 h4 h5 X hn hPc ⊢
  obtain ⟨methY, cY, hmY, hcY, -, hlY, -, -, -, -⟩ := Cond.code_spec hn h2
  obtain ⟨kY, hkY, -⟩ := className_of_methodNamed hn
  have hinitY : kY.init = .initialized := Cond.initialized_spec (findClass_of_methodNamed hn) hkY h3
  have h : At U g.method c below := by rw [hg]; exact X.here
  have hlocals9 : W9 + (maxL + 11) + (headSpec ws rm).room.locals ≤ R.locals := hlocals
  have happ : (headSpec ws rm).appliesLoose y e.platform (U.calling g mk a) = true :=
    Spec.appliesLoose_calling (g := g) h hdg hn hkY hinitY
      (X.room_calling (g := g) (R' := (headSpec ws rm).room) hsize hmY hcY hframes (by rw [hlY]; omega) h4 h5) h1
  obtain ⟨mid, hmid⟩ := h.above
  have hfr : (U.setTop g).frames = (.java g :: mid) ++ below := by rw [State.frames_setTop' g h.top, hmid]; rfl
  obtain ⟨o, s₂, hsteps, -, hend, hq⟩ := Steps.callFree hM p X.admits X.cas X.clock (acts := []) hfr happ hPc trivial
  have hq' : vx_Q Qc XC mc ms free a (U.calling g mk a) o s₂ := hq
  rw [State.frames_setTop' g h.top] at hend
  obtain ⟨g₀, hg0⟩ := Option.isSome_iff_exists.mp h.top
  obtain ⟨r, hr⟩ := State.topJava?_eq_some.mp hg0
  have hr' : (({ U with heap := s₂.heap, slotsUsed := s₂.slotsUsed } : State).setVm s₂.vm).frames = .java g₀ :: r := hr
  rcases hq' with ⟨hqc, L, hfe, hL⟩ | ⟨q, rfl, E, ce, L, hx, hce, hcv, hcl, hW₂, hsm, hL⟩
  · obtain ⟨⟨v, rfl⟩, hW₂, e2, q2, q3, q4, q5, q6⟩ := id hfe
    have e3 : s₂ = ({ (U.calling g mk a).setFrames s₂.frames with heap := s₂.heap, slotsUsed := s₂.slotsUsed } : State).setVm s₂.vm := by
      have : s₂ = ({ s₂ with vm := (U.calling g mk a).vm } : State).setVm s₂.vm := rfl
      rw [e2] at this
      exact this
    obtain ⟨c₂, i₂, len₂, hc₂, hd₂, hf₂⟩ := hend
    have hW' : U.WarmedH s₂.vm := hW₂
    have hcc : c₂ = c := by
      have h1 : s₂.code? g.method = U.code? g.method := by
        rw [State.code?_eq, State.code?_eq, hW'.alike.method?]
      exact Option.some.inj (hc₂.symm.trans (h1.trans h.code))
    subst hcc
    have hlen : len₂ = len := by rw [hdg] at hd₂; cases hd₂; rfl
    subst hlen
    have hs₂ : s₂ = (({ U with heap := s₂.heap, slotsUsed := s₂.slotsUsed } : State).setVm s₂.vm).setTop { g with pc := g.pc + len₂, stack := v.toList ++ g.stack } := by
      refine e3.trans ?_
      rw [hf₂, State.calling_eq h.top, State.setFrames_setFrames, State.setTop_of_frames _ hr', hr]
      rfl
    have hsame : U.sameButNew ({ U with heap := s₂.heap, slotsUsed := s₂.slotsUsed } : State) L mc ms := by
      refine ⟨?_, q2, q3, q4, q5, q6⟩
      obtain ⟨t, ht, -⟩ := State.frames_cons hr
      show ({ U with heap := s₂.heap, slotsUsed := s₂.slotsUsed } : State) = { U.setFrames U.frames with heap := s₂.heap, slotsUsed := s₂.slotsUsed }
      rw [State.setFrames_self ht]
    subst hg
    refine Or.inl ⟨v, ⟨(({ U with heap := s₂.heap, slotsUsed := s₂.slotsUsed } : State).setVm s₂.vm), Ls ++ L, c0 + mc, s0 + ms⟩,
      ⟨X.admits, X.cas, X.clock, X.frames, X.room, X.hears, X.method, X.code, (X.here.setHeapUsed s₂.heap s₂.slotsUsed).setVm hW'.alike, X.tail, State.WarmedH.trans X.warmed hW', X.limits, X.bytes, X.same.trans (hsame.setVm s.vm)⟩,
      ⟨g, mk, s₂, L, rfl, rfl, hqc, rfl, hL, rfl, rfl⟩, ?_⟩
    show Steps p.tables e below _ ((({ U with heap := s₂.heap, slotsUsed := s₂.slotsUsed } : State).setVm s₂.vm).setTop { g with pc := g.pc + len₂, stack := v.toList ++ g.stack })
    rw [← hs₂]
    exact hsteps
  · obtain ⟨e2, q2, q3, q4, q5, q6⟩ := id hsm
    have e3 : s₂ = ({ (U.calling g mk a).setFrames s₂.frames with heap := s₂.heap, slotsUsed := s₂.slotsUsed } : State).setVm s₂.vm := by
      have : s₂ = ({ s₂ with vm := (U.calling g mk a).vm } : State).setVm s₂.vm := rfl
      rw [e2] at this
      exact this
    have hf₂ : s₂.frames = .throwing q :: .java g :: U.frames.tail := hend
    have hW' : U.WarmedH s₂.vm := hW₂
    have hs₂ : s₂ = ((({ U with heap := s₂.heap, slotsUsed := s₂.slotsUsed } : State).setVm s₂.vm).setTop g).pushFrame (.throwing q) := by
      refine e3.trans ?_
      rw [hf₂, State.calling_eq h.top, State.setFrames_setFrames, State.pushFrame, State.frames_setTop _ hr', State.setTop_of_frames _ hr', State.setFrames_setFrames, hr]
      rfl
    have hsame : U.sameButNew ({ U with heap := s₂.heap, slotsUsed := s₂.slotsUsed } : State) L mc ms := by
      refine ⟨?_, q2, q3, q4, q5, q6⟩
      obtain ⟨t, ht, -⟩ := State.frames_cons hr
      show ({ U with heap := s₂.heap, slotsUsed := s₂.slotsUsed } : State) = { U.setFrames U.frames with heap := s₂.heap, slotsUsed := s₂.slotsUsed }
      rw [State.setFrames_self ht]
    subst hg
    refine Or.inr ⟨q, ⟨(({ U with heap := s₂.heap, slotsUsed := s₂.slotsUsed } : State).setVm s₂.vm), Ls ++ L, c0 + mc, s0 + ms⟩,
      ⟨X.admits, X.cas, X.clock, X.frames, X.room, X.hears, X.method, X.code, (X.here.setHeapUsed s₂.heap s₂.slotsUsed).setVm hW'.alike, X.tail, State.WarmedH.trans X.warmed hW', X.limits, X.bytes, X.same.trans (hsame.setVm s.vm)⟩,
      ⟨g, mk, s₂, L, E, ce, rfl, rfl, hx, hce, hcv, hcl, rfl, hL, rfl, rfl⟩, ?_⟩
    show Steps p.tables e below _ (((({ U with heap := s₂.heap, slotsUsed := s₂.slotsUsed } : State).setVm s₂.vm).setTop g).pushFrame (.throwing q))
    rw [← hs₂]
    exact hsteps
end Payer
section Calls
variable {p : Program} {l : Launch} {e : Env} {R : Room} {s : State} {m : MethodId} {args : Array Value} {below : List Frame} {meth : Method} {c : Code} {T : State} {locs : List Loc} {cells slots : Nat}
theorem vx_callV (X : Stand p l e R s m args below meth c T locs cells slots) (hexec : p.tables.exec = Jvm.exec) {own C : String} {index : Nat} {y : MethodName} {bytes : ByteArray} {maxL : Nat} {ret : Option FieldType}
    (hown : s.vm.findClass own = some m.cls) (hlink : (Cond.methodLink own index y).before args s = true) (hinst : (Cond.instanceMethod y).before args s = true) (hsel : (Cond.selects C y y).before args s = true)
    (hcode : (Cond.code y bytes maxL ret).before args s = true) (hy : y.cls ≠ "java/lang/invoke/MethodHandle" ∧ y.cls ≠ "java/lang/invoke/VarHandle")
    {W9 : Nat} {Pre : Pt → Array Value → Prop} {Post : Pt → Array Value → Option Value → Pt → Prop} {PostX : Pt → Array Value → Addr → Pt → Prop} (hK : vx_Back l R p e below s args y 3 W9 Pre Post PostX)
    {b : Addr} {cellB : Cell} (hcell : T.heap[b]? = some cellB) (hobj : cellB.vm.isStatics = false) (hcls : s.vm.findClass C = some cellB.cls)
    {g : JFrame} (hg : g.method = m) (hsize : g.locals.size = c.maxLocals) {argsL rest : List Value} (hlen : ∀ sig, parseMethodDescriptor y.desc = some sig → argsL.length = sig.parameters.length)
    (hstack : g.stack = argsL.reverse ++ .ref b :: rest) (hW : 2 * g.monitorRoom + (rest.map fun v => v.category).sum ≤ W9) (hdg : decode c.code g.pc = .ok (.invokevirtual index, 3))
    (hpre : ∀ vm₁, s.WarmedH vm₁ → Pre ⟨T.setVm vm₁, locs, cells, slots⟩ (Value.ref b :: argsL).toArray) :
    (∃ (v : Option Value) (vm₁ : Vm) (B : Pt), s.WarmedH vm₁ ∧ Stand p l e R s m args below meth c B.U B.locs B.cells B.slots ∧ Post ⟨T.setVm vm₁, locs, cells, slots⟩ (Value.ref b :: argsL).toArray v B ∧
      ∀ target, Steps p.tables e below (B.U.setTop { g with pc := g.pc + 3, stack := v.toList ++ rest }) target → Steps p.tables e below (T.setTop g) target) ∨
    (∃ (q : Addr) (vm₁ : Vm) (B : Pt), s.WarmedH vm₁ ∧ Stand p l e R s m args below meth c B.U B.locs B.cells B.slots ∧ PostX ⟨T.setVm vm₁, locs, cells, slots⟩ (Value.ref b :: argsL).toArray q B ∧
      Steps p.tables e below (T.setTop g) ((B.U.setTop { g with stack := rest }).pushFrame (.throwing q))) := by
  obtain ⟨mk, methM, hnamed, hmethM, hstM, habM⟩ := Cond.instanceMethod_spec hinst
  obtain ⟨methM', cM, hmethM', -, -, -, -, -, -, hsigM⟩ := Cond.code_spec hnamed hcode
  cases hmethM.symm.trans hmethM'
  obtain ⟨c2, r2, m2, q1, q2, q3, q4, kP, hkP, hkPi⟩ := Cond.selects_spec hsel
  cases hcls.symm.trans q1
  cases (State.methodFound?_of_named hnamed hy).symm.trans q2
  cases hnamed.symm.trans q3
  have hselP : selectMethod e.platform s.vm cellB.cls mk = .method mk := by rw [Launch.admits_selectMethod X.admits]; exact q4
  obtain ⟨vm₁, X₁, hstep₁⟩ := X.invokevirtual hexec hown hlink hnamed hmethM hstM hkP hkPi hy (a := b) (cell := cellB) hcell
    (fun z h => by rw [h] at hobj; cases hobj) hselP hmethM habM hkP hkPi (g := g) hg (argsL := argsL) (rest := rest) (hlen _ hsigM) hstack hdg
  rcases hK m meth c ⟨T.setVm vm₁, locs, cells, slots⟩ { g with stack := rest } (.invokevirtual index) mk (Value.ref b :: argsL).toArray X₁ hg hsize hdg hW (X₁.named hnamed) (hpre vm₁ X₁.warmed) with ⟨v, B, X', hpost, hsteps⟩ | ⟨q, B, X', hpost, hsteps⟩
  · exact Or.inl ⟨v, vm₁, B, X₁.warmed, X', hpost, fun target h => hstep₁ _ fun acts => by rw [doInvoke_state]; exact hsteps.trans h⟩
  · exact Or.inr ⟨q, vm₁, B, X₁.warmed, X', hpost, hstep₁ _ fun acts => by rw [doInvoke_state]; exact hsteps⟩
theorem vx_callS (X : Stand p l e R s m args below meth c T locs cells slots) (hexec : p.tables.exec = Jvm.exec) {own : String} {index : Nat} {y : MethodName} {bytes : ByteArray} {maxL : Nat} {ret : Option FieldType}
    (hown : s.vm.findClass own = some m.cls) (hlink : (Cond.methodLink own index y).before args s = true) (hstat : (Cond.static y).before args s = true) (hinit : (Cond.initialized y.cls).before args s = true)
    (hcode : (Cond.code y bytes maxL ret).before args s = true) (hy : y.cls ≠ "java/lang/invoke/MethodHandle" ∧ y.cls ≠ "java/lang/invoke/VarHandle")
    {W9 : Nat} {Pre : Pt → Array Value → Prop} {Post : Pt → Array Value → Option Value → Pt → Prop} {PostX : Pt → Array Value → Addr → Pt → Prop} (hK : vx_Back l R p e below s args y 3 W9 Pre Post PostX)
    {g : JFrame} (hg : g.method = m) (hsize : g.locals.size = c.maxLocals) {argsL rest : List Value} (hlen : ∀ sig, parseMethodDescriptor y.desc = some sig → argsL.length = sig.parameters.length)
    (hstack : g.stack = argsL.reverse ++ rest) (hW : 2 * g.monitorRoom + (rest.map fun v => v.category).sum ≤ W9) (hdg : decode c.code g.pc = .ok (.invokestatic index, 3))
    (hpre : ∀ vm₁, s.WarmedH vm₁ → Pre ⟨T.setVm vm₁, locs, cells, slots⟩ argsL.toArray) :
    (∃ (v : Option Value) (vm₁ : Vm) (B : Pt), s.WarmedH vm₁ ∧ Stand p l e R s m args below meth c B.U B.locs B.cells B.slots ∧ Post ⟨T.setVm vm₁, locs, cells, slots⟩ argsL.toArray v B ∧
      ∀ target, Steps p.tables e below (B.U.setTop { g with pc := g.pc + 3, stack := v.toList ++ rest }) target → Steps p.tables e below (T.setTop g) target) ∨
    (∃ (q : Addr) (vm₁ : Vm) (B : Pt), s.WarmedH vm₁ ∧ Stand p l e R s m args below meth c B.U B.locs B.cells B.slots ∧ PostX ⟨T.setVm vm₁, locs, cells, slots⟩ argsL.toArray q B ∧
      Steps p.tables e below (T.setTop g) ((B.U.setTop { g with stack := rest }).pushFrame (.throwing q))) := by
  obtain ⟨mk, hnamed⟩ := Cond.code_named hcode
  obtain ⟨methM, cM, hmethM, -, -, -, -, -, -, hsigM⟩ := Cond.code_spec hnamed hcode
  have hstatic : methM.isStatic = true := Cond.static_spec hnamed hmethM hstat
  obtain ⟨kP, hkP, -⟩ := className_of_methodNamed hnamed
  have hinitP : kP.init = .initialized := Cond.initialized_spec (findClass_of_methodNamed hnamed) hkP hinit
  obtain ⟨vm₁, X₁, hstep₁⟩ := X.invokestatic hexec hown hlink hnamed hmethM hstatic hkP hinitP hy (g := g) hg (argsL := argsL) (rest := rest) (hlen _ hsigM) hstack hdg
  rcases hK m meth c ⟨T.setVm vm₁, locs, cells, slots⟩ { g with stack := rest } (.invokestatic index) mk argsL.toArray X₁ hg hsize hdg hW (X₁.named hnamed) (hpre vm₁ X₁.warmed) with ⟨v, B, X', hpost, hsteps⟩ | ⟨q, B, X', hpost, hsteps⟩
  · exact Or.inl ⟨v, vm₁, B, X₁.warmed, X', hpost, fun target h => hstep₁ _ fun acts => by rw [doInvoke_state]; exact hsteps.trans h⟩
  · exact Or.inr ⟨q, vm₁, B, X₁.warmed, X', hpost, hstep₁ _ fun acts => by rw [doInvoke_state]; exact hsteps⟩
end Calls
theorem vx_cls {s : State} {T : State} {vm₁ : Vm} {E : String} {k : ClassId} (hW : s.WarmedH vm₁) (h : (T.setVm vm₁).vm.findClass E = some k) : s.vm.findClass E = some k := by
  have h1 : vm₁.findClass E = some k := h
  rw [hW.alike.findClass] at h1
  exact h1
/-- the method's frame g, with q thrown over it -/
def vx_W (p : Program) (l : Launch) (e : Env) (R : Room) (s : State) (m : MethodId) (args : Array Value) (below : List Frame) (meth : Method) (c : Code) (H : Heap) (locs : List Loc) (cells slots : Nat) (Q : State → Prop) (g : JFrame) (q : Addr) : Prop :=
  ∀ T : State, T.heap = H → Stand p l e R s m args below meth c T locs cells slots → ∃ t, Steps p.tables e below ((T.setTop g).pushFrame (.throwing q)) t ∧ Q t
def vx_Run (p : Program) (l : Launch) (e : Env) (R : Room) (s : State) (m : MethodId) (args : Array Value) (below : List Frame) (meth : Method) (c : Code) (H : Heap) (locs : List Loc) (cells slots mc ms : Nat) (g : JFrame) (rest : List Value) (Qa : State → Outcome → State → Prop) (XC : String → State → State → Prop) (free : Addr → Prop) : Prop :=
  ∀ T : State, T.heap = H → Stand p l e R s m args below meth c T locs cells slots →
    (∃ (v : Option Value) (st₀ t T' : State) (L : List Loc), st₀.heap = H ∧ Stand p l e R s m args below meth c T' (locs ++ L) (cells + mc) (slots + ms) ∧ (∀ q ∈ L, free q.base) ∧ T'.heap = t.heap ∧ T'.vm = t.vm ∧ Qa st₀ (.returned v) t ∧
      Goes p e below T g T' { g with pc := g.pc + 3, stack := v.toList ++ rest }) ∨
    (∃ (q : Addr) (st₀ t T' : State) (L : List Loc) (E : String) (ce : Cell), st₀.heap = H ∧ Stand p l e R s m args below meth c T' (locs ++ L) (cells + mc) (slots + ms) ∧ (∀ z ∈ L, free z.base) ∧ T'.heap = t.heap ∧ T'.vm = t.vm ∧ XC E st₀ t ∧ t.heap[q]? = some ce ∧ ce.vm = .none ∧ s.vm.findClass E = some ce.cls ∧
      Steps p.tables e below (T.setTop g) ((T'.setTop { g with stack := rest }).pushFrame (.throwing q)))
def vx_X {S : Type} (px : S → Prop) (B : String → S → State → Prop) (A : Nat → Prop) : String → State → State → Prop := fun E st t => ∃ u : S, px u ∧ B E u t ∧ va_F A st t
section Runs
variable {p : Program} {l : Launch} {e : Env} {R : Room} {s : State} {m : MethodId} {args : Array Value} {below : List Frame} {meth : Method} {c : Code} {H : Heap} {locs : List Loc} {cells slots : Nat}
variable {y : MethodName} {bytes cc : ByteArray} {maxL nL mc ms n index : Nat} {ret : Option FieldType} {ws : List Cond} {rm : Room} {Pc : Array Value → State → Prop} {Qc : Array Value → State → Outcome → State → Prop} {XC : String → State → State → Prop} {free : Addr → Prop} {Ts : List Cond} {own C : String} {b : Addr} {As rest : List Value} {g : JFrame}
theorem vx_callBack (cb : CallB R s args own index y bytes maxL ret ws rm mc ms n) (hM : vx_Met l y ws rm Pc Qc XC mc ms free) (hbl : FrameBlind Pc) : vx_Back l R p e below s args y 3 8 (PreOf R mc ms Pc) (PostOf Qc mc ms free) (vx_Post XC mc ms free) := by
  obtain ⟨hrc, hrs, hfr, hlo, hws, hcw, -, hini, -⟩ := cb
  exact vx_back (bytes := bytes) (maxL := maxL) (ret := ret) hM hbl hrc hrs hfr hlo hws hcw (fun a' U hW => word_at hW (Or.inl (by first | rfl | simp [Cond.onTables, Cond.keeps, Cond.steady])) hini)
theorem vx_runV (S : CallFix p m c cc nL s args Ts own) (hM : vx_Met l y ws rm Pc Qc XC mc ms free) (cw : CallW R s args own C index y bytes maxL ret ws rm mc ms n) (hp : PreV s H C b Pc As)
    (hg : g.method = m) (hn : As.length = n) (hsize : g.locals.size = nL) (hstack : g.stack = As.reverse ++ .ref b :: rest) (hW : 2 * g.monitorRoom + (rest.map fun v => v.category).sum ≤ 8) (hdg : decode cc g.pc = .ok (.invokevirtual index, 3)) (hf : cells + mc ≤ R.cells ∧ slots + ms ≤ R.slots) :
    vx_Run p l e R s m args below meth c H locs cells slots mc ms g rest (Qc (Value.ref b :: As).toArray) XC free := by
  have hK : vx_Back l R p e below s args y 3 8 (PreOf R mc ms Pc) (PostOf Qc mc ms free) (vx_Post XC mc ms free) := vx_callBack cw.1 hM hp.1
  obtain ⟨⟨-, -, -, -, -, -, hcode, -, hy, hlen, hl⟩, hin, hse⟩ := cw
  obtain ⟨hx, hb, hml, ho, -⟩ := S
  obtain ⟨-, ⟨cellB, hcB, hoB, hclB⟩, hPc⟩ := hp
  intro T hT X
  rcases vx_callV X hx (C := C) (bytes := bytes) (maxL := maxL) (ret := ret) ho hl hin hse hcode hy hK (by rw [hT]; exact hcB) hoB hclB hg (hsize.trans hml.symm) (argsL := As) (rest := rest) (fun sig h => hn.trans (hlen sig h)) hstack hW (by rw [hb]; exact hdg)
    (fun vm₁ hW₁ => ⟨hf.1, hf.2, hPc (T.setVm vm₁) hT hW₁⟩) with ⟨v, vm₁, ⟨U', l2, c2, s2⟩, hW₁, X', ⟨g', mk, t, L, e1, e2, hq, h1, hL, h2, h3⟩, st⟩ | ⟨q, vm₁, ⟨U', l2, c2, s2⟩, hW₁, X', ⟨g', mk, t, L, E, ce, e1, e2, hq, hce, hcv, hcl, h1, hL, h2, h3⟩, st⟩
  · dsimp only [Pt.U, Pt.locs, Pt.cells, Pt.slots] at X' e1 e2 h1 h2 h3 st
    subst h1; subst h2; subst h3
    exact Or.inl ⟨v, (T.setVm vm₁).calling g' mk (Value.ref b :: As).toArray, t, U', L, hT, X', hL, e1, e2, hq, st⟩
  · dsimp only [Pt.U, Pt.locs, Pt.cells, Pt.slots] at X' e1 e2 h1 h2 h3 st hcl
    subst h1; subst h2; subst h3
    exact Or.inr ⟨q, (T.setVm vm₁).calling g' mk (Value.ref b :: As).toArray, t, U', L, E, ce, hT, X', hL, e1, e2, hq, hce, hcv, vx_cls hW₁ hcl, st⟩
theorem vx_runS (S : CallFix p m c cc nL s args Ts own) (hM : vx_Met l y ws rm Pc Qc XC mc ms free) (cw : CallB R s args own index y bytes maxL ret ws rm mc ms n ∧ (Cond.static y).before args s = true) (hp : PreS s H Pc As)
    (hg : g.method = m) (hn : As.length = n) (hsize : g.locals.size = nL) (hstack : g.stack = As.reverse ++ rest) (hW : 2 * g.monitorRoom + (rest.map fun v => v.category).sum ≤ 8) (hdg : decode cc g.pc = .ok (.invokestatic index, 3)) (hf : cells + mc ≤ R.cells ∧ slots + ms ≤ R.slots) :
    vx_Run p l e R s m args below meth c H locs cells slots mc ms g rest (Qc As.toArray) XC free := by
  have hK : vx_Back l R p e below s args y 3 8 (PreOf R mc ms Pc) (PostOf Qc mc ms free) (vx_Post XC mc ms free) := vx_callBack cw.1 hM hp.1
  obtain ⟨⟨-, -, -, -, -, -, hcode, hini, hy, hlen, hl⟩, hstt⟩ := cw
  obtain ⟨hx, hb, hml, ho, -⟩ := S
  intro T hT X
  rcases vx_callS X hx (bytes := bytes) (maxL := maxL) (ret := ret) ho hl hstt hini hcode hy hK hg (hsize.trans hml.symm) (argsL := As) (rest := rest) (fun sig h => hn.trans (hlen sig h)) hstack hW (by rw [hb]; exact hdg)
    (fun vm₁ hW₁ => ⟨hf.1, hf.2, hp.2 (T.setVm vm₁) hT hW₁⟩) with ⟨v, vm₁, ⟨U', l2, c2, s2⟩, hW₁, X', ⟨g', mk, t, L, e1, e2, hq, h1, hL, h2, h3⟩, st⟩ | ⟨q, vm₁, ⟨U', l2, c2, s2⟩, hW₁, X', ⟨g', mk, t, L, E, ce, e1, e2, hq, hce, hcv, hcl, h1, hL, h2, h3⟩, st⟩
  · dsimp only [Pt.U, Pt.locs, Pt.cells, Pt.slots] at X' e1 e2 h1 h2 h3 st
    subst h1; subst h2; subst h3
    exact Or.inl ⟨v, (T.setVm vm₁).calling g' mk As.toArray, t, U', L, hT, X', hL, e1, e2, hq, st⟩
  · dsimp only [Pt.U, Pt.locs, Pt.cells, Pt.slots] at X' e1 e2 h1 h2 h3 st hcl
    subst h1; subst h2; subst h3
    exact Or.inr ⟨q, (T.setVm vm₁).calling g' mk As.toArray, t, U', L, E, ce, hT, X', hL, e1, e2, hq, hce, hcv, vx_cls hW₁ hcl, st⟩
end Runs
section Rows
variable {p : Program} {l : Launch} {e : Env} {R : Room} {s : State} {m : MethodId} {args : Array Value} {below : List Frame} {meth : Method} {c : Code} {H : Heap} {locs : List Loc} {cells slots : Nat} {Q : State → Prop}
variable {mc ms : Nat} {free : Addr → Prop} {A0 A1 : Nat → Prop} {H0 : Heap} {a : Array Value} {pc : Nat} {ls : Array Slot} {st0 rest : List Value}
theorem vx_keep {st₀ t T' : State} {L : List Loc} (h0 : st₀.heap = H) (e1 : T'.heap = t.heap) (hS : va_S A0 H0 H locs) (hA : ∀ q, q < H.size → A1 q → A0 q) (hf : ∀ q, free q → A0 q) (hL : ∀ q ∈ L, free q.base) (hF : va_F A1 st₀ t) :
    H.size ≤ T'.heap.size ∧ (∀ q : Nat, q < H.size → ¬ A1 q → T'.heap[q]? = H[q]?) ∧ va_S A0 H0 T'.heap (locs ++ L) := by
  obtain ⟨hz, hk⟩ := hF
  rw [h0] at hz hk
  exact ⟨by rw [e1]; exact hz, fun q h1 h2 => by rw [e1]; exact hk q h1 h2,
    ⟨Nat.le_trans hS.1 (by rw [e1]; exact hz), fun q h1 h2 => by rw [e1, hk q (Nat.lt_of_lt_of_le h1 hS.1) (fun z => h2 (hA q (Nat.lt_of_lt_of_le h1 hS.1) z))]; exact hS.2.1 q h1 h2, fun q hq => by
      rcases List.mem_append.mp hq with h | h
      · exact hS.2.2 q h
      · exact hf _ (hL q h)⟩⟩
theorem vx_calli {S SX : Type} {post : Int32 → S → Prop} {px : SX → Prop} {B : S → State → Prop} {BX : String → SX → State → Prop} {AX : Nat → Prop} (hr : vx_Run p l e R s m args below meth c H locs cells slots mc ms (F0 m pc ls st0) rest (va_Qi post B A1 a) (vx_X px BX AX) free) (hS : va_S A0 H0 H locs) (hA : ∀ q, q < H.size → A1 q → A0 q) (hf : ∀ q, free q → A0 q) (hAX : ∀ q, q < H.size → AX q → A0 q)
    (kx : ∀ (E : String) (ce : Cell) (q9 : Addr) (u : SX) (t : State) (H1 : Heap) (locs1 : List Loc), t.heap = H1 → s.vm.Alike t.vm → px u → BX E u t → H.size ≤ H1.size → (∀ q : Nat, q < H.size → ¬ AX q → H1[q]? = H[q]?) → va_S A0 H0 H1 locs1 → H1[q9]? = some ce → ce.vm = .none → s.vm.findClass E = some ce.cls → vx_W p l e R s m args below meth c H1 locs1 (cells + mc) (slots + ms) Q (F0 m pc ls rest) q9)
    (kk : ∀ (r : Int32) (u : S) (t : State) (H1 : Heap) (locs1 : List Loc), t.heap = H1 → s.vm.Alike t.vm → post r u → B u t → H.size ≤ H1.size → (∀ q : Nat, q < H.size → ¬ A1 q → H1[q]? = H[q]?) → va_S A0 H0 H1 locs1 → W p l e R s m args below meth c H1 locs1 (cells + mc) (slots + ms) Q (F0 m (pc + 3) ls (.int r :: rest))) : W p l e R s m args below meth c H locs cells slots Q (F0 m pc ls st0) := by
  intro T hT X
  rcases hr T hT X with ⟨v, st₀, t, T', L, h0, X', hL, e1, e2, ⟨⟨r, u, hv, hp, hb⟩, hF⟩, st⟩ | ⟨q, st₀, t, T', L, E, ce, h0, X', hL, e1, e2, ⟨u, hp, hb, hF⟩, hce, hcv, hcl, st⟩
  · cases hv
    obtain ⟨k1, k2, k3⟩ := vx_keep h0 e1 hS hA hf hL hF
    obtain ⟨t2, a1, b1⟩ := kk r u t T'.heap (locs ++ L) e1.symm (by rw [← e2]; exact X'.warmed.alike) hp hb k1 k2 k3 T' rfl X'
    exact ⟨t2, st t2 a1, b1⟩
  · obtain ⟨k1, k2, k3⟩ := vx_keep h0 e1 hS hAX hf hL hF
    obtain ⟨t2, a1, b1⟩ := kx E ce q u t T'.heap (locs ++ L) e1.symm (by rw [← e2]; exact X'.warmed.alike) hp hb k1 k2 k3 (by rw [e1]; exact hce) hcv hcl T' rfl X'
    exact ⟨t2, st.trans a1, b1⟩
theorem vx_calll {S SX : Type} {post : Int64 → S → Prop} {px : SX → Prop} {B : S → State → Prop} {BX : String → SX → State → Prop} {AX : Nat → Prop} (hr : vx_Run p l e R s m args below meth c H locs cells slots mc ms (F0 m pc ls st0) rest (va_Ql post B A1 a) (vx_X px BX AX) free) (hS : va_S A0 H0 H locs) (hA : ∀ q, q < H.size → A1 q → A0 q) (hf : ∀ q, free q → A0 q) (hAX : ∀ q, q < H.size → AX q → A0 q)
    (kx : ∀ (E : String) (ce : Cell) (q9 : Addr) (u : SX) (t : State) (H1 : Heap) (locs1 : List Loc), t.heap = H1 → s.vm.Alike t.vm → px u → BX E u t → H.size ≤ H1.size → (∀ q : Nat, q < H.size → ¬ AX q → H1[q]? = H[q]?) → va_S A0 H0 H1 locs1 → H1[q9]? = some ce → ce.vm = .none → s.vm.findClass E = some ce.cls → vx_W p l e R s m args below meth c H1 locs1 (cells + mc) (slots + ms) Q (F0 m pc ls rest) q9)
    (kk : ∀ (r : Int64) (u : S) (t : State) (H1 : Heap) (locs1 : List Loc), t.heap = H1 → s.vm.Alike t.vm → post r u → B u t → H.size ≤ H1.size → (∀ q : Nat, q < H.size → ¬ A1 q → H1[q]? = H[q]?) → va_S A0 H0 H1 locs1 → W p l e R s m args below meth c H1 locs1 (cells + mc) (slots + ms) Q (F0 m (pc + 3) ls (.long r :: rest))) : W p l e R s m args below meth c H locs cells slots Q (F0 m pc ls st0) := by
  intro T hT X
  rcases hr T hT X with ⟨v, st₀, t, T', L, h0, X', hL, e1, e2, ⟨⟨r, u, hv, hp, hb⟩, hF⟩, st⟩ | ⟨q, st₀, t, T', L, E, ce, h0, X', hL, e1, e2, ⟨u, hp, hb, hF⟩, hce, hcv, hcl, st⟩
  · cases hv
    obtain ⟨k1, k2, k3⟩ := vx_keep h0 e1 hS hA hf hL hF
    obtain ⟨t2, a1, b1⟩ := kk r u t T'.heap (locs ++ L) e1.symm (by rw [← e2]; exact X'.warmed.alike) hp hb k1 k2 k3 T' rfl X'
    exact ⟨t2, st t2 a1, b1⟩
  · obtain ⟨k1, k2, k3⟩ := vx_keep h0 e1 hS hAX hf hL hF
    obtain ⟨t2, a1, b1⟩ := kx E ce q u t T'.heap (locs ++ L) e1.symm (by rw [← e2]; exact X'.warmed.alike) hp hb k1 k2 k3 (by rw [e1]; exact hce) hcv hcl T' rfl X'
    exact ⟨t2, st.trans a1, b1⟩
theorem vx_callf {S SX : Type} {post : UInt32 → S → Prop} {px : SX → Prop} {B : S → State → Prop} {BX : String → SX → State → Prop} {AX : Nat → Prop} (hr : vx_Run p l e R s m args below meth c H locs cells slots mc ms (F0 m pc ls st0) rest (va_Qf post B A1 a) (vx_X px BX AX) free) (hS : va_S A0 H0 H locs) (hA : ∀ q, q < H.size → A1 q → A0 q) (hf : ∀ q, free q → A0 q) (hAX : ∀ q, q < H.size → AX q → A0 q)
    (kx : ∀ (E : String) (ce : Cell) (q9 : Addr) (u : SX) (t : State) (H1 : Heap) (locs1 : List Loc), t.heap = H1 → s.vm.Alike t.vm → px u → BX E u t → H.size ≤ H1.size → (∀ q : Nat, q < H.size → ¬ AX q → H1[q]? = H[q]?) → va_S A0 H0 H1 locs1 → H1[q9]? = some ce → ce.vm = .none → s.vm.findClass E = some ce.cls → vx_W p l e R s m args below meth c H1 locs1 (cells + mc) (slots + ms) Q (F0 m pc ls rest) q9)
    (kk : ∀ (r : UInt32) (u : S) (t : State) (H1 : Heap) (locs1 : List Loc), t.heap = H1 → s.vm.Alike t.vm → post r u → B u t → H.size ≤ H1.size → (∀ q : Nat, q < H.size → ¬ A1 q → H1[q]? = H[q]?) → va_S A0 H0 H1 locs1 → W p l e R s m args below meth c H1 locs1 (cells + mc) (slots + ms) Q (F0 m (pc + 3) ls (.float r :: rest))) : W p l e R s m args below meth c H locs cells slots Q (F0 m pc ls st0) := by
  intro T hT X
  rcases hr T hT X with ⟨v, st₀, t, T', L, h0, X', hL, e1, e2, ⟨⟨r, u, hv, hp, hb⟩, hF⟩, st⟩ | ⟨q, st₀, t, T', L, E, ce, h0, X', hL, e1, e2, ⟨u, hp, hb, hF⟩, hce, hcv, hcl, st⟩
  · cases hv
    obtain ⟨k1, k2, k3⟩ := vx_keep h0 e1 hS hA hf hL hF
    obtain ⟨t2, a1, b1⟩ := kk r u t T'.heap (locs ++ L) e1.symm (by rw [← e2]; exact X'.warmed.alike) hp hb k1 k2 k3 T' rfl X'
    exact ⟨t2, st t2 a1, b1⟩
  · obtain ⟨k1, k2, k3⟩ := vx_keep h0 e1 hS hAX hf hL hF
    obtain ⟨t2, a1, b1⟩ := kx E ce q u t T'.heap (locs ++ L) e1.symm (by rw [← e2]; exact X'.warmed.alike) hp hb k1 k2 k3 (by rw [e1]; exact hce) hcv hcl T' rfl X'
    exact ⟨t2, st.trans a1, b1⟩
theorem vx_calld {S SX : Type} {post : UInt64 → S → Prop} {px : SX → Prop} {B : S → State → Prop} {BX : String → SX → State → Prop} {AX : Nat → Prop} (hr : vx_Run p l e R s m args below meth c H locs cells slots mc ms (F0 m pc ls st0) rest (va_Qd post B A1 a) (vx_X px BX AX) free) (hS : va_S A0 H0 H locs) (hA : ∀ q, q < H.size → A1 q → A0 q) (hf : ∀ q, free q → A0 q) (hAX : ∀ q, q < H.size → AX q → A0 q)
    (kx : ∀ (E : String) (ce : Cell) (q9 : Addr) (u : SX) (t : State) (H1 : Heap) (locs1 : List Loc), t.heap = H1 → s.vm.Alike t.vm → px u → BX E u t → H.size ≤ H1.size → (∀ q : Nat, q < H.size → ¬ AX q → H1[q]? = H[q]?) → va_S A0 H0 H1 locs1 → H1[q9]? = some ce → ce.vm = .none → s.vm.findClass E = some ce.cls → vx_W p l e R s m args below meth c H1 locs1 (cells + mc) (slots + ms) Q (F0 m pc ls rest) q9)
    (kk : ∀ (r : UInt64) (u : S) (t : State) (H1 : Heap) (locs1 : List Loc), t.heap = H1 → s.vm.Alike t.vm → post r u → B u t → H.size ≤ H1.size → (∀ q : Nat, q < H.size → ¬ A1 q → H1[q]? = H[q]?) → va_S A0 H0 H1 locs1 → W p l e R s m args below meth c H1 locs1 (cells + mc) (slots + ms) Q (F0 m (pc + 3) ls (.double r :: rest))) : W p l e R s m args below meth c H locs cells slots Q (F0 m pc ls st0) := by
  intro T hT X
  rcases hr T hT X with ⟨v, st₀, t, T', L, h0, X', hL, e1, e2, ⟨⟨r, u, hv, hp, hb⟩, hF⟩, st⟩ | ⟨q, st₀, t, T', L, E, ce, h0, X', hL, e1, e2, ⟨u, hp, hb, hF⟩, hce, hcv, hcl, st⟩
  · cases hv
    obtain ⟨k1, k2, k3⟩ := vx_keep h0 e1 hS hA hf hL hF
    obtain ⟨t2, a1, b1⟩ := kk r u t T'.heap (locs ++ L) e1.symm (by rw [← e2]; exact X'.warmed.alike) hp hb k1 k2 k3 T' rfl X'
    exact ⟨t2, st t2 a1, b1⟩
  · obtain ⟨k1, k2, k3⟩ := vx_keep h0 e1 hS hAX hf hL hF
    obtain ⟨t2, a1, b1⟩ := kx E ce q u t T'.heap (locs ++ L) e1.symm (by rw [← e2]; exact X'.warmed.alike) hp hb k1 k2 k3 (by rw [e1]; exact hce) hcv hcl T' rfl X'
    exact ⟨t2, st.trans a1, b1⟩
theorem vx_callv {S SX : Type} {post : S → Prop} {px : SX → Prop} {B : S → State → Prop} {BX : String → SX → State → Prop} {AX : Nat → Prop} (hr : vx_Run p l e R s m args below meth c H locs cells slots mc ms (F0 m pc ls st0) rest (va_Qv post B A1 a) (vx_X px BX AX) free) (hS : va_S A0 H0 H locs) (hA : ∀ q, q < H.size → A1 q → A0 q) (hf : ∀ q, free q → A0 q) (hAX : ∀ q, q < H.size → AX q → A0 q)
    (kx : ∀ (E : String) (ce : Cell) (q9 : Addr) (u : SX) (t : State) (H1 : Heap) (locs1 : List Loc), t.heap = H1 → s.vm.Alike t.vm → px u → BX E u t → H.size ≤ H1.size → (∀ q : Nat, q < H.size → ¬ AX q → H1[q]? = H[q]?) → va_S A0 H0 H1 locs1 → H1[q9]? = some ce → ce.vm = .none → s.vm.findClass E = some ce.cls → vx_W p l e R s m args below meth c H1 locs1 (cells + mc) (slots + ms) Q (F0 m pc ls rest) q9)
    (kk : ∀ (u : S) (t : State) (H1 : Heap) (locs1 : List Loc), t.heap = H1 → s.vm.Alike t.vm → post u → B u t → H.size ≤ H1.size → (∀ q : Nat, q < H.size → ¬ A1 q → H1[q]? = H[q]?) → va_S A0 H0 H1 locs1 → W p l e R s m args below meth c H1 locs1 (cells + mc) (slots + ms) Q (F0 m (pc + 3) ls (rest))) : W p l e R s m args below meth c H locs cells slots Q (F0 m pc ls st0) := by
  intro T hT X
  rcases hr T hT X with ⟨v, st₀, t, T', L, h0, X', hL, e1, e2, ⟨⟨u, hv, hp, hb⟩, hF⟩, st⟩ | ⟨q, st₀, t, T', L, E, ce, h0, X', hL, e1, e2, ⟨u, hp, hb, hF⟩, hce, hcv, hcl, st⟩
  · cases hv
    obtain ⟨k1, k2, k3⟩ := vx_keep h0 e1 hS hA hf hL hF
    obtain ⟨t2, a1, b1⟩ := kk u t T'.heap (locs ++ L) e1.symm (by rw [← e2]; exact X'.warmed.alike) hp hb k1 k2 k3 T' rfl X'
    exact ⟨t2, st t2 a1, b1⟩
  · obtain ⟨k1, k2, k3⟩ := vx_keep h0 e1 hS hAX hf hL hF
    obtain ⟨t2, a1, b1⟩ := kx E ce q u t T'.heap (locs ++ L) e1.symm (by rw [← e2]; exact X'.warmed.alike) hp hb k1 k2 k3 (by rw [e1]; exact hce) hcv hcl T' rfl X'
    exact ⟨t2, st.trans a1, b1⟩
/-- caught by the row x of this method's table; the rows ahead don't take it -/
theorem vx_catch {own name : String} {E : String} {ce : Cell} {q : Addr} (hown : s.vm.findClass own = some m.cls) (pre : List ExceptionTableEntry) (x : ExceptionTableEntry) (suf : List ExceptionTableEntry) (hsplit : c.exceptionTable.toList = pre ++ x :: suf)
    (hpass : ∀ z ∈ pre, covers z pc = false ∨ (z.catchType ≠ 0 ∧ ∃ nm : String, (Cond.classLink own z.catchType nm).before args s = true ∧ va_Nc E nm s)) (hx : covers x pc = true) (h0 : x.catchType ≠ 0)
    (hlink : (Cond.classLink own x.catchType name).before args s = true) (hcast : (Cond.castable E name).before args s = true) (hcell : H[q]? = some ce) (hv : ce.vm = .none) (hcl : s.vm.findClass E = some ce.cls)
    (kk : W p l e R s m args below meth c H locs cells slots Q (F0 m x.handlerPc ls [.ref q])) : vx_W p l e R s m args below meth c H locs cells slots Q (F0 m pc ls rest) q := by
  intro T hT X
  have hpl : e.platform.magicAccessors = ({} : Platform).magicAccessors := by rw [X.admits.platform]
  obtain ⟨c3, c4, hc3, hc4, hasg⟩ := Cond.castable_spec hcast
  cases Option.some.inj (hc3.symm.trans hcl)
  obtain ⟨c5, hc5, hcl5⟩ := Cond.classLink_spec hown hlink e.platform hpl
  cases Option.some.inj (hc4.symm.trans hc5)
  obtain ⟨vm', X', st⟩ := X.thenCaughtThrough q (g := F0 m pc ls rest) rfl (Steps.refl _) (by rw [hT]; exact hcell) (by rw [hv]; rfl) (by obtain ⟨k9, h9, -⟩ := Vm.findClass_spec hcl; exact ⟨k9, h9⟩) pre x suf hsplit
    (fun z hz => by
      rcases hpass z hz with h | ⟨hz0, nm, hl1, hn1⟩
      · exact Or.inl h
      · obtain ⟨c6, hc6, hcl6⟩ := Cond.classLink_spec hown hl1 e.platform hpl
        obtain ⟨a8, b8, h1, h2, h3⟩ := hn1
        cases Option.some.inj (h1.symm.trans hcl)
        cases Option.some.inj (h2.symm.trans hc6)
        exact Or.inr ⟨hz0, _, hcl6, h3⟩) hx (Or.inr ⟨h0, c4, hcl5, hasg⟩)
  obtain ⟨t, a1, b1⟩ := kk (T.setVm vm') hT X'
  exact ⟨t, st.trans a1, b1⟩
end Rows
section Ends
variable {p : Program} {l : Launch} {e : Env} {R : Room} {s : State} {m : MethodId} {args : Array Value} {below : List Frame} {meth : Method} {c : Code} {H : Heap} {locs : List Loc} {cells slots : Nat} {Q : State → Prop}
variable {mc ms : Nat} {free : Addr → Prop} {A0 A1 : Nat → Prop} {H0 : Heap} {a : Array Value} {ls : Array Slot} {st0 rest : List Value}
variable {Qc : Array Value → State → Outcome → State → Prop} {XC : String → State → State → Prop}
/-- what a body that may throw owes at its end -/
def vx_MQ (below : List Frame) (Qc : Array Value → State → Outcome → State → Prop) (XC : String → State → State → Prop) (a : Array Value) (s : State) (mc ms : Nat) (free : Addr → Prop) : State → Prop := fun t =>
  ∃ o, t.status = .running ∧ Ended t below o ∧ vx_Q Qc XC mc ms free a s o t
theorem vx_ret {g : JFrame} {mc ms : Nat} (k : W p l e R s m args below meth c H locs cells slots (MQ below Qc args s mc ms free) g) : W p l e R s m args below meth c H locs cells slots (vx_MQ below Qc XC args s mc ms free) g := by
  intro T hT X
  obtain ⟨t, a1, o, b1, b2, b3, b4⟩ := k T hT X
  exact ⟨t, a1, o, b1, b2, Or.inl ⟨b3, b4⟩⟩
/-- not caught here: it goes on to the caller -/
theorem vx_widen {g : JFrame} {q : Addr} {k n : Nat} (h1 : cells ≤ k) (h2 : slots ≤ n) (kk : vx_W p l e R s m args below meth c H locs k n Q g q) : vx_W p l e R s m args below meth c H locs cells slots Q g q := fun T hT X => kk T hT (stand_widen X h1 h2)
theorem vx_out {pc : Nat} {E : String} {ce : Cell} {q : Addr} {mc ms : Nat} (hout : ∀ x ∈ c.exceptionTable.toList, covers x pc = false) (hlocks : meth.locks = false) (hcell : H[q]? = some ce) (hv : ce.vm = .none) (hcl : s.vm.findClass E = some ce.cls)
    (hx : ∀ t : State, t.heap = H → s.vm.Alike t.vm → XC E s t) (hf : ∀ z ∈ locs, free z.base) (hc : cells ≤ mc) (hs : slots ≤ ms) :
    vx_W p l e R s m args below meth c H locs cells slots (vx_MQ below Qc XC args s mc ms free) (F0 m pc ls rest) q := by
  intro T hT X
  obtain ⟨st1, hrun, hend, hW, hsm⟩ := X.leaveThrown q (g := F0 m pc ls rest) rfl rfl rfl hout hlocks
  have hcell9 : (T.setFrames (.throwing q :: below)).heap[q]? = some ce := by
    show T.heap[q]? = some ce
    rw [hT]; exact hcell
  exact ⟨_, st1, .threw q, hrun, hend, Or.inr ⟨q, rfl, E, ce, locs, hx _ hT hW.alike, hcell9, hv, hcl, hW, hsm.mono hc hs, hf⟩⟩
theorem vx_frame {U : State} {k n : Nat} (h : s.sameButNew ({ U with vm := s.vm } : State) locs k n) : s.heap.size ≤ U.heap.size ∧ ∀ q : Nat, q < s.heap.size → (∀ z ∈ locs, z.base ≠ q) → U.heap[q]? = s.heap[q]? := by
  obtain ⟨-, h2, -, -, -, h6⟩ := h
  refine ⟨h2, fun q hq hz => ?_⟩
  obtain ⟨c9, e1, e2, e3, e4⟩ := h6 q _ (Array.getElem?_eq_getElem hq)
  have hs : c9.slots = (s.heap[q]).slots := Array.ext_getElem? fun i => e4 i fun hm => hz _ hm rfl
  have h9 : c9 = s.heap[q] := by
    rw [hs] at e2
    exact e2
  have e5 : U.heap[q]? = some c9 := e1
  rw [e5, h9, Array.getElem?_eq_getElem hq]
/-- the words of a throw but the four that speak of the heap -/
def vx_no (w : Cond) : Bool := decide (w ≠ .isRef (.static Bundle.tN "UNASSIGNED_STACK" Bundle.steD)) && decide (w ≠ .isRef (.static Bundle.tN "SUPPRESSED_SENTINEL" Bundle.listD)) && decide (w ≠ .laysStatic Bundle.tN "UNASSIGNED_STACK" Bundle.steD) && decide (w ≠ .laysStatic Bundle.tN "SUPPRESSED_SENTINEL" Bundle.listD)
def vx_at0 (own : String) (ic : Nat) (X : String) (names : List String) : List Cond := (Bundle.ownAtoms0 own ic X names).filter vx_no
def vx_atS (own : String) (ic : Nat) (X : String) (names : List String) : List Cond := (Bundle.ownAtoms own ic X names).filter vx_no
/-- a word that the tables alone decide, or a good one -/
def vx_ot (w : Cond) : Bool := w.onTables || goodWord w
theorem vx_ot_at {args a' : Array Value} {s U : State} {w : Cond} (hW : s.WarmedH U.vm) (hvm : s.vm = U.vm) (hg : vx_ot w = true) (h : w.before args s = true) : w.before a' U = true := by
  simp only [vx_ot, Bool.or_eq_true] at hg
  rcases hg with hg | hg
  · exact va_tabs hg hvm h
  · exact word_at hW (good_of_word hg) h
/-- a list's words: the good ones out of the method's own list, the others by premises of their own -/
theorem vx_hat {args : Array Value} {s : State} {L B : List Cond} (h1 : ∀ w ∈ L.filter goodWord, w.before args s = true) (h2 : ∀ w ∈ L.filter (fun w => !goodWord w), w ∈ B) (h3 : ∀ w ∈ B, w.before args s = true) : ∀ w ∈ L, w.before args s = true := by
  intro w hw
  by_cases g : goodWord w = true
  · exact h1 w (List.mem_filter.mpr ⟨hw, g⟩)
  · refine h3 w (h2 w (List.mem_filter.mpr ⟨hw, ?_⟩))
    show (!goodWord w) = true
    cases hgw : goodWord w
    · rfl
    · exact absurd hgw g
theorem vx_c {args : Array Value} {s : State} {w : Cond} {B : List Cond} (h : w.before args s = true) (t : ∀ w ∈ B, w.before args s = true) : ∀ w' ∈ w :: B, w'.before args s = true := fun w' h' => (List.mem_cons.mp h').elim (fun e => by rw [e]; exact h) (t w')
theorem vx_n {args : Array Value} {s : State} : ∀ w ∈ ([] : List Cond), w.before args s = true := fun _ h => nomatch h
theorem vx_own {args : Array Value} {s : State} {L : List Cond} (h1 : ∀ w ∈ L.filter vx_no, w.before args s = true)
    (hU : (Cond.isRef (.static Bundle.tN "UNASSIGNED_STACK" Bundle.steD)).before args s = true) (hN : (Cond.isRef (.static Bundle.tN "SUPPRESSED_SENTINEL" Bundle.listD)).before args s = true)
    (lU : (Cond.laysStatic Bundle.tN "UNASSIGNED_STACK" Bundle.steD).before args s = true) (lN : (Cond.laysStatic Bundle.tN "SUPPRESSED_SENTINEL" Bundle.listD).before args s = true) : ∀ w ∈ L, w.before args s = true := by
  intro w hw
  by_cases e1 : w = .isRef (.static Bundle.tN "UNASSIGNED_STACK" Bundle.steD)
  · rw [e1]; exact hU
  · by_cases e2 : w = .isRef (.static Bundle.tN "SUPPRESSED_SENTINEL" Bundle.listD)
    · rw [e2]; exact hN
    · by_cases e3 : w = .laysStatic Bundle.tN "UNASSIGNED_STACK" Bundle.steD
      · rw [e3]; exact lU
      · by_cases e4 : w = .laysStatic Bundle.tN "SUPPRESSED_SENTINEL" Bundle.listD
        · rw [e4]; exact lN
        · exact h1 w (List.mem_filter.mpr ⟨hw, by unfold vx_no; rw [decide_eq_true e1, decide_eq_true e2, decide_eq_true e3, decide_eq_true e4]; rfl⟩)
/-- where a static field lies, its class's statics cell in H -/
def vx_L (C n d : String) (A : Nat → Prop) (U : State) (H : Heap) : Prop := ∃ (c : ClassId) (k : Class) (i : Nat) (f : Field) (a : Nat) (cell : Cell), U.vm.findClass C = some c ∧ U.fieldFound? C n d = some (c, k, i, f) ∧ f.isStatic = true ∧ k.statics = some a ∧ H[a]? = some cell ∧ cell.vm.isStatics = true ∧ cell.cls = c ∧ f.slot < cell.slots.size ∧ k.staticTypes[f.slot]? = some f.type ∧ ¬ A a
theorem vx_L.moved {C n d : String} {A : Nat → Prop} {u U : State} {H : Heap} (hvm : u.vm.Alike U.vm) (h : vx_L C n d A u H) : vx_L C n d A U H := by
  obtain ⟨c, k, i, f, a, cell, h1, h2, h3, h4, h5, h6, h7, h8, h9, h10⟩ := h
  obtain ⟨k', hi', he⟩ := State.fieldFound?_setVm hvm h2
  exact ⟨c, k', i, f, a, cell, by rw [hvm.findClass]; exact h1, hi', h3, by rw [he]; exact h4, h5, h6, h7, h8, by rw [he]; exact h9, h10⟩
theorem vx_L.kept {C n d : String} {A : Nat → Prop} {U : State} {H H1 : Heap} (h : vx_L C n d A U H) (hq : ∀ a : Nat, a < H.size → ¬ A a → H1[a]? = H[a]?) : vx_L C n d A U H1 := by
  obtain ⟨c, k, i, f, a, cell, h1, h2, h3, h4, h5, h6, h7, h8, h9, h10⟩ := h
  exact ⟨c, k, i, f, a, cell, h1, h2, h3, h4, by rw [hq a (Array.getElem?_eq_some_iff.mp h5).1 h10]; exact h5, h6, h7, h8, h9, h10⟩
theorem vx_L.narrow {C n d : String} {A B : Nat → Prop} {U : State} {H : Heap} (h : vx_L C n d A U H) (hAB : ∀ q, B q → A q) : vx_L C n d B U H := by
  obtain ⟨c, k, i, f, a, cell, h1, h2, h3, h4, h5, h6, h7, h8, h9, h10⟩ := h
  exact ⟨c, k, i, f, a, cell, h1, h2, h3, h4, h5, h6, h7, h8, h9, fun z => h10 (hAB _ z)⟩
theorem vx_L.word {C n d : String} {A : Nat → Prop} {s : State} {args : Array Value} (h : vx_L C n d A s s.heap) : (Cond.laysStatic C n d).before args s = true := by
  obtain ⟨c, k, i, f, a, cell, h1, h2, h3, h4, h5, h6, h7, h8, h9, -⟩ := h
  show (Cond.laysStatic C n d).holds args s none s [] = true
  exact Cond.laysStatic_of h1 h2 h3 h4 h5 h6 h7 h8 h9
/-- .. and what it holds: null or some reference -/
def vx_Zq (C n d : String) (A : Nat → Prop) (U : State) (H : Heap) : Prop := va_Zq C n d A U H ∧ vx_L C n d A U H
theorem vx_Zq.moved {C n d : String} {A : Nat → Prop} {u U : State} {H : Heap} (hvm : u.vm.Alike U.vm) (h : vx_Zq C n d A u H) : vx_Zq C n d A U H := ⟨va_Zq.moved hvm h.1, vx_L.moved hvm h.2⟩
theorem vx_Zq.kept {C n d : String} {A : Nat → Prop} {U : State} {H H1 : Heap} (h : vx_Zq C n d A U H) (hq : ∀ a : Nat, a < H.size → ¬ A a → H1[a]? = H[a]?) : vx_Zq C n d A U H1 := ⟨va_Zq.kept h.1 hq, vx_L.kept h.2 hq⟩
theorem vx_Zq.narrow {C n d : String} {A B : Nat → Prop} {U : State} {H : Heap} (h : vx_Zq C n d A U H) (hAB : ∀ q, B q → A q) : vx_Zq C n d B U H := ⟨va_Zq.narrow h.1 hAB, vx_L.narrow h.2 hAB⟩
theorem vx_Zqof {args : Array Value} {s : State} {C n d : String} {A : Nat → Prop} (hl : (Cond.laysStatic C n d).before args s = true) (hini : (Cond.initialized C).before args s = true) (h : (Cond.isRef (.static C n d)).before args s = true) (hA : ∀ a : Nat, a < s.heap.size → ¬ A a) : vx_Zq C n d A s s.heap := by
  refine ⟨va_Zqof hl hini h hA, ?_⟩
  obtain ⟨c, k, i, f, a, cell, h1, h2, h3, h4, h5, h6, h7, h8, h9⟩ := Cond.laysStatic_spec hl
  exact ⟨c, k, i, f, a, cell, h1, h2, h3, h4, h5, h6, h7, h8, h9, hA a (Array.getElem?_eq_some_iff.mp h5).1⟩
theorem vx_isRef {C n d : String} {v : Value} {A : Nat → Prop} {s : State} {args : Array Value} (h : va_Z C n d v A s s.heap) (hv : v.isRef = true) : (Cond.isRef (.static C n d)).before args s = true := by
  obtain ⟨cf, kf, fi, f, a, cell, h1, h2, h3, h4, h5, h6, h7, -⟩ := h
  have he : (Term.static C n d).eval args s none [] s = some v := by
    simp [Term.eval, State.fieldNamed?, h1, h2, h4, h5, h6, h7]
  simp only [Cond.before, Cond.holds, Cond.value, he]
  cases v <;> simp_all [Value.isRef]
theorem vx_isRefq {C n d : String} {A : Nat → Prop} {s : State} {args : Array Value} (h : va_Zq C n d A s s.heap) : (Cond.isRef (.static C n d)).before args s = true := by
  rcases h with h | ⟨t, h⟩
  · exact vx_isRef h rfl
  · exact vx_isRef h rfl
/-- the same frame, seen from here: as if the method were called anew in this heap -/
theorem vx_rebase {T : State} (X : Stand p l e R s m args below meth c T locs cells slots) {R' : Room} (hf : R'.frames ≤ R.frames) (hl : R'.locals ≤ R.locals) (hc : cells + R'.cells ≤ R.cells) (hs : slots + R'.slots ≤ R.slots) :
    Stand p l e R' ((T.setVm s.vm).setFrames (.invoking m args :: below)) m args below meth c T [] 0 0 := by
  have htop : (T.setVm s.vm).topJava?.isSome := X.here.top
  have hF : ((T.setVm s.vm).setFrames (.invoking m args :: below)).frames = .invoking m args :: below := State.frames_setFrames _ (State.cur_lt_of_top htop)
  obtain ⟨g₀, hg0⟩ := Option.isSome_iff_exists.mp htop
  obtain ⟨r, hr⟩ := State.topJava?_eq_some.mp hg0
  have hl9 : e.platform.stackLimits (T.setVm s.vm).me = e.platform.stackLimits s.me := X.limits
  have hb9 : (T.setVm s.vm).me.stackBytes = s.me.stackBytes := X.bytes
  refine ⟨X.admits, X.cas, X.clock, hF, ?_, X.hears, X.method, X.code, X.here, X.tail, X.warmed, ?_, ?_, ?_⟩
  · have h := X.room
    have hU : ((T.setVm s.vm).setFrames (.invoking m args :: below)).localsInUse = s.localsInUse := by
      rw [State.localsInUse_invoking hF (meth := meth) (c := c) X.method X.code, State.localsInUse_invoking X.frames X.method X.code]
    simp only [State.hasRoom, Bool.and_eq_true, decide_eq_true_eq] at h ⊢
    obtain ⟨⟨⟨⟨h1, h2, h3, h4, h5, h6⟩, h7⟩, h8⟩, h9⟩ := h
    rw [X.frames, List.length_cons] at h2 h3
    have q1 := X.heapSize
    have q2 := X.used
    simp only [hF, hU, List.length_cons, State.stackLimits_setFrames, State.stackBytes_setFrames, hl9, hb9]
    refine ⟨⟨⟨⟨by omega, by omega, by omega, by omega, by omega, h6⟩, ?_⟩, ?_⟩, X.book⟩
    · show T.heap.size + R'.cells ≤ e.platform.maxCells
      omega
    · show T.slotsUsed + R'.slots ≤ e.platform.maxSlots
      omega
  · rw [State.stackLimits_setFrames]; rfl
  · rw [State.stackBytes_setFrames]; rfl
  · refine ⟨?_, Nat.le_refl _, Nat.le_refl _, ?_, ?_, fun a c9 h9 => ⟨c9, h9, rfl, rfl, fun _ _ => rfl⟩⟩
    · obtain ⟨t, ht, -⟩ := State.frames_cons hr
      show T.setVm s.vm = { ((T.setVm s.vm).setFrames (.invoking m args :: below)).setFrames (T.setVm s.vm).frames with heap := T.heap, slotsUsed := T.slotsUsed }
      rw [State.setFrames_setFrames, State.setFrames_self ht]
      rfl
    · show T.slotsUsed = T.slotsUsed + ((T.heap.toList.drop T.heap.size).map (·.slots.size)).sum
      rw [List.drop_eq_nil_of_le (Nat.le_of_eq Array.length_toList)]
      rfl
    · show ((T.heap.toList.drop T.heap.size).map (·.slots.size)).sum ≤ 0
      rw [List.drop_eq_nil_of_le (Nat.le_of_eq Array.length_toList)]
      exact Nat.le_refl _
/-- 'throw new E()': new; dup; invokespecial; athrow -/
theorem vx_throw0 {cc : ByteArray} {pc : Nat} (hexec : p.tables.exec = Jvm.exec) (hb : c.code = cc) (hl : l.stackTraces = false) {own cls : String} {names : List String} {ik ic mc ms : Nat} {A : Nat → Prop}
    (hown : s.vm.findClass own = some m.cls) (hcls : Bundle.fit cls = true) (hnames : ∀ n ∈ names, Bundle.fit n = true)
    (hk : (Cond.classLink own ik cls).before args s = true) (hini : (Cond.initialized cls).before args s = true) (hat : ∀ w ∈ vx_at0 own ic cls names, w.before args s = true)
    (hgood : ∀ w ∈ Cond.classLink own ik cls :: Cond.initialized cls :: vx_at0 own ic cls names, vx_ot w = true)
    (hU : vx_Zq Bundle.tN "UNASSIGNED_STACK" Bundle.steD A s s.heap) (hN : vx_Zq Bundle.tN "SUPPRESSED_SENTINEL" Bundle.listD A s s.heap) (hS : va_S A s.heap H locs) (hsize : ls.size = c.maxLocals)
    (d0 : decode cc pc = .ok (.new ik, 3)) (d3 : decode cc (pc + 3) = .ok (.dup, 1)) (d4 : decode cc (pc + 4) = .ok (.invokespecial ic, 3)) (d7 : decode cc (pc + 7) = .ok (.athrow, 1))
    (hout : ∀ x ∈ c.exceptionTable.toList, covers x (pc + 7) = false)
    (hRframes : names.length + 3 < R.frames) (hRlocals : (rest.map fun v => v.category).sum + (13 * (names.length + 1) + 42) ≤ R.locals) (hRcells : cells + 1 ≤ R.cells) (hRslots : slots + 6 ≤ R.slots) (hlocks : meth.locks = false)
    (hx : ∀ t : State, s.vm.Alike t.vm → H.size ≤ t.heap.size → (∀ q : Nat, q < H.size → t.heap[q]? = H[q]?) → XC cls s t)
    (hf : ∀ z ∈ locs, free z.base) (hc : cells + 1 ≤ mc) (hs : slots + 6 ≤ ms) :
    W p l e R s m args below meth c H locs cells slots (vx_MQ below Qc XC args s mc ms free) (F0 m pc ls rest) := by
  intro T hT X
  have htr : e.platform.stackTraces = false := (show e.platform.stackTraces = l.stackTraces by rw [X.admits.platform]).trans hl
  have Y := vx_rebase X (R' := { frames := R.frames, locals := R.locals, cells := 1, slots := 6 }) (Nat.le_refl _) (Nat.le_refl _) hRcells hRslots
  obtain ⟨s', hA⟩ : ∃ z, z = (T.setVm s.vm).setFrames (.invoking m args :: below) := ⟨_, rfl⟩
  rw [← hA] at Y
  have hvm : s'.vm = s.vm := by rw [hA]; rfl
  have hhp : s'.heap = H := by rw [hA]; exact hT
  have hW0 : s.WarmedH s'.vm := by rw [hvm]; exact State.WarmedH.refl s
  have hat' : ∀ w ∈ vx_at0 own ic cls names, w.before args s' = true := fun w hw => vx_ot_at hW0 hvm.symm (hgood w (List.mem_cons_of_mem _ (List.mem_cons_of_mem _ hw))) (hat w hw)
  have hk' : (Cond.classLink own ik cls).before args s' = true := vx_ot_at hW0 hvm.symm (hgood _ List.mem_cons_self) hk
  have hini' : (Cond.initialized cls).before args s' = true := vx_ot_at hW0 hvm.symm (hgood _ (List.mem_cons_of_mem _ List.mem_cons_self)) hini
  have hU' : vx_Zq Bundle.tN "UNASSIGNED_STACK" Bundle.steD A s' s'.heap := by rw [hhp]; exact vx_Zq.moved hW0.alike (hU.kept hS.2.1)
  have hN' : vx_Zq Bundle.tN "SUPPRESSED_SENTINEL" Bundle.listD A s' s'.heap := by rw [hhp]; exact vx_Zq.moved hW0.alike (hN.kept hS.2.1)
  have h : ∀ w ∈ Bundle.ownAtoms0 own ic cls names, w.before args s' = true := vx_own hat' (vx_isRefq hU'.1) (vx_isRefq hN'.1) hU'.2.word hN'.2.word
  have hown' : s'.vm.findClass own = some m.cls := by rw [hvm]; exact hown
  have hins : (Cond.instantiable cls 6).before args s' = true := h _ (by simp [Bundle.ownAtoms0])
  obtain ⟨vm₁, cX, kX, hfX, hkX, -, -, X₁, st1⟩ := Y.newCold hexec (own := own) (C := cls) (index := ik) (n := 6) hown' hk' hins hini'
    (g := F0 m pc ls rest) rfl (by rw [hb]; exact d0) (Nat.le_refl _) (Nat.le_refl _)
  generalize hT1 : (T.setVm vm₁).pushCell { cls := cX, slots := kX.instanceTypes.map defaultValue, vm := .none } = T1 at X₁ st1
  have hcat : (Value.ref T.heap.size).category = 1 := rfl
  have hcellA : T1.heap[T.heap.size]? = some (freshCell cX kX) := by rw [← hT1]; exact State.heap_pushCell_size _ _
  have d3' : decode c.code (pc + 3) = .ok (.dup, 1) := by rw [hb]; exact d3
  obtain ⟨U, hsteps, hrun, hend, hW, hsame, ce, hce, hO⟩ := X₁.ctorThrow0 hexec htr (own := own) (cls := cls) (names := names) (ic := ic) hown' hcls hnames h (fun x hx => nomatch hx) hfX hkX hcellA (by rw [hhp, hT]; exact Nat.le_refl _)
    (g := { method := m, pc := pc + 4, locals := ls, stack := .ref T.heap.size :: .ref T.heap.size :: rest, locked := none }) rfl hsize rfl rfl (rest := rest) rfl
    (by rw [hb]; exact d4) (by rw [hb]; exact d7) hout hRframes (by simp only [List.map_cons, List.sum_cons, hcat]; omega) hlocks
  obtain ⟨f1, f2⟩ := vx_frame hsame
  rw [hhp] at f1 f2
  have hWs : s.WarmedH U.vm := State.WarmedH.trans hW0 hW
  have hcl : s.vm.findClass cls = some ce.cls := by
    have h9 := hO.cls
    rw [hvm] at h9
    exact h9
  have hall : s.sameButNew ({ U with vm := s.vm } : State) locs mc ms := by
    subst hA
    obtain ⟨e1, e2⟩ := hsame
    rw [State.setFrames_setFrames] at e1
    have h2 : (T.setVm s.vm).sameButNew ({ U with vm := s.vm } : State) [] (0 + 1) (0 + 6) := ⟨e1, e2⟩
    have h3 := X.same.trans h2
    rw [List.append_nil] at h3
    exact h3.mono hc hs
  refine ⟨U, ?_, .threw T.heap.size, hrun, hend, Or.inr ⟨T.heap.size, rfl, cls, ce, locs, hx U hWs.alike f1 (fun q hq => f2 q hq (fun z hz => nomatch hz)), hce, hO.vm, hcl, hWs, hall, hf⟩⟩
  refine st1 _ ?_
  show Steps p.tables e below (T1.setTop { method := m, pc := pc + 3, locals := ls, stack := .ref T.heap.size :: rest, locked := none }) _
  jvm_step X₁.here [X₁.here.top, hexec, d3', Value.category]
  exact hsteps
/-- 'throw new E("text")': new; dup; ldc; invokespecial; athrow -/
theorem vx_throwS {cc : ByteArray} {pc : Nat} (hexec : p.tables.exec = Jvm.exec) (hb : c.code = cc) (hl : l.stackTraces = false) {own cls text : String} {names : List String} {ik is ic mc ms sa : Nat} {A : Nat → Prop}
    (hown : s.vm.findClass own = some m.cls) (hcls : Bundle.fit cls = true) (hnames : ∀ n ∈ names, Bundle.fit n = true)
    (hk : (Cond.classLink own ik cls).before args s = true) (hini : (Cond.initialized cls).before args s = true) (hstr : vk_R own is text sa s) (hat : ∀ w ∈ vx_atS own ic cls names, w.before args s = true)
    (hgood : ∀ w ∈ Cond.classLink own ik cls :: Cond.initialized cls :: vx_atS own ic cls names, vx_ot w = true)
    (hU : vx_Zq Bundle.tN "UNASSIGNED_STACK" Bundle.steD A s s.heap) (hN : vx_Zq Bundle.tN "SUPPRESSED_SENTINEL" Bundle.listD A s s.heap) (hS : va_S A s.heap H locs) (hsize : ls.size = c.maxLocals)
    (d0 : decode cc pc = .ok (.new ik, 3)) (d3 : decode cc (pc + 3) = .ok (.dup, 1)) (d4 : decode cc (pc + 4) = .ok (.ldc is, 2)) (d6 : decode cc (pc + 6) = .ok (.invokespecial ic, 3)) (d9 : decode cc (pc + 9) = .ok (.athrow, 1))
    (hout : ∀ x ∈ c.exceptionTable.toList, covers x (pc + 9) = false)
    (hRframes : names.length + 3 < R.frames) (hRlocals : (rest.map fun v => v.category).sum + (13 * (names.length + 1) + 43) ≤ R.locals) (hRcells : cells + 1 ≤ R.cells) (hRslots : slots + 6 ≤ R.slots) (hlocks : meth.locks = false)
    (hx : ∀ t : State, s.vm.Alike t.vm → H.size ≤ t.heap.size → (∀ q : Nat, q < H.size → t.heap[q]? = H[q]?) → XC cls s t)
    (hf : ∀ z ∈ locs, free z.base) (hc : cells + 1 ≤ mc) (hs : slots + 6 ≤ ms) :
    W p l e R s m args below meth c H locs cells slots (vx_MQ below Qc XC args s mc ms free) (F0 m pc ls rest) := by
  intro T hT X
  have htr : e.platform.stackTraces = false := (show e.platform.stackTraces = l.stackTraces by rw [X.admits.platform]).trans hl
  have Y := vx_rebase X (R' := { frames := R.frames, locals := R.locals, cells := 1, slots := 6 }) (Nat.le_refl _) (Nat.le_refl _) hRcells hRslots
  obtain ⟨s', hA⟩ : ∃ z, z = (T.setVm s.vm).setFrames (.invoking m args :: below) := ⟨_, rfl⟩
  rw [← hA] at Y
  have hvm : s'.vm = s.vm := by rw [hA]; rfl
  have hhp : s'.heap = H := by rw [hA]; exact hT
  have hW0 : s.WarmedH s'.vm := by rw [hvm]; exact State.WarmedH.refl s
  have hat' : ∀ w ∈ vx_atS own ic cls names, w.before args s' = true := fun w hw => vx_ot_at hW0 hvm.symm (hgood w (List.mem_cons_of_mem _ (List.mem_cons_of_mem _ hw))) (hat w hw)
  have hk' : (Cond.classLink own ik cls).before args s' = true := vx_ot_at hW0 hvm.symm (hgood _ List.mem_cons_self) hk
  have hini' : (Cond.initialized cls).before args s' = true := vx_ot_at hW0 hvm.symm (hgood _ (List.mem_cons_of_mem _ List.mem_cons_self)) hini
  have hU' : vx_Zq Bundle.tN "UNASSIGNED_STACK" Bundle.steD A s' s'.heap := by rw [hhp]; exact vx_Zq.moved hW0.alike (hU.kept hS.2.1)
  have hN' : vx_Zq Bundle.tN "SUPPRESSED_SENTINEL" Bundle.listD A s' s'.heap := by rw [hhp]; exact vx_Zq.moved hW0.alike (hN.kept hS.2.1)
  have h : ∀ w ∈ Bundle.ownAtoms own ic cls names, w.before args s' = true := vx_own hat' (vx_isRefq hU'.1) (vx_isRefq hN'.1) hU'.2.word hN'.2.word
  have hown' : s'.vm.findClass own = some m.cls := by rw [hvm]; exact hown
  have hins : (Cond.instantiable cls 6).before args s' = true := h _ (by simp [Bundle.ownAtoms])
  obtain ⟨vm₁, cX, kX, hfX, hkX, -, -, X₁, st1⟩ := Y.newCold hexec (own := own) (C := cls) (index := ik) (n := 6) hown' hk' hins hini'
    (g := F0 m pc ls rest) rfl (by rw [hb]; exact d0) (Nat.le_refl _) (Nat.le_refl _)
  generalize hT1 : (T.setVm vm₁).pushCell { cls := cX, slots := kX.instanceTypes.map defaultValue, vm := .none } = T1 at X₁ st1
  have hcat : (Value.ref T.heap.size).category = 1 := rfl
  have hcellA : T1.heap[T.heap.size]? = some (freshCell cX kX) := by rw [← hT1]; exact State.heap_pushCell_size _ _
  have d3' : decode c.code (pc + 3) = .ok (.dup, 1) := by rw [hb]; exact d3
  have d4' : decode c.code (pc + 4) = .ok (.ldc is, 2) := by rw [hb]; exact d4
  have hstr' : vk_R own is text sa s' := vk_R.warm hW0 hstr
  obtain ⟨U, hsteps, hrun, hend, hW, hsame, ce, hce, hO⟩ := X₁.ctorThrowS hexec htr (own := own) (cls := cls) (names := names) (ic := ic) hown' hcls hnames h (fun x hx => nomatch hx) hfX hkX hcellA (by rw [hhp, hT]; exact Nat.le_refl _) (msg := .ref sa) rfl
    (g := { method := m, pc := pc + 6, locals := ls, stack := .ref sa :: .ref T.heap.size :: .ref T.heap.size :: rest, locked := none }) rfl hsize rfl rfl (rest := rest) rfl
    (by rw [hb]; exact d6) (by rw [hb]; exact d9) hout hRframes (by simp only [List.map_cons, List.sum_cons, hcat]; omega) hlocks
  obtain ⟨f1, f2⟩ := vx_frame hsame
  rw [hhp] at f1 f2
  have hWs : s.WarmedH U.vm := State.WarmedH.trans hW0 hW
  have hcl : s.vm.findClass cls = some ce.cls := by
    have h9 := hO.cls
    rw [hvm] at h9
    exact h9
  have hall : s.sameButNew ({ U with vm := s.vm } : State) locs mc ms := by
    subst hA
    obtain ⟨e1, e2⟩ := hsame
    rw [State.setFrames_setFrames] at e1
    have h2 : (T.setVm s.vm).sameButNew ({ U with vm := s.vm } : State) [] (0 + 1) (0 + 6) := ⟨e1, e2⟩
    have h3 := X.same.trans h2
    rw [List.append_nil] at h3
    exact h3.mono hc hs
  refine ⟨U, ?_, .threw T.heap.size, hrun, hend, Or.inr ⟨T.heap.size, rfl, cls, ce, locs, hx U hWs.alike f1 (fun q hq => f2 q hq (fun z hz => nomatch hz)), hce, hO.vm, hcl, hWs, hall, hf⟩⟩
  refine st1 _ ?_
  show Steps p.tables e below (T1.setTop { method := m, pc := pc + 3, locals := ls, stack := .ref T.heap.size :: rest, locked := none }) _
  jvm_step X₁.here [X₁.here.top, hexec, d3', Value.category]
  exact X₁.ldcString hexec (own := own) (text := text) (index := is) (a := sa) hown' hstr'.1 hstr'.2
    (g := { method := m, pc := pc + 4, locals := ls, stack := .ref T.heap.size :: .ref T.heap.size :: rest, locked := none }) rfl d4' _ hsteps
/-- 'throw new E("text")', the text by a wide index -/
theorem vx_throwSW {cc : ByteArray} {pc : Nat} (hexec : p.tables.exec = Jvm.exec) (hb : c.code = cc) (hl : l.stackTraces = false) {own cls text : String} {names : List String} {ik is ic mc ms sa : Nat} {A : Nat → Prop}
    (hown : s.vm.findClass own = some m.cls) (hcls : Bundle.fit cls = true) (hnames : ∀ n ∈ names, Bundle.fit n = true)
    (hk : (Cond.classLink own ik cls).before args s = true) (hini : (Cond.initialized cls).before args s = true) (hstr : vk_R own is text sa s) (hat : ∀ w ∈ vx_atS own ic cls names, w.before args s = true)
    (hgood : ∀ w ∈ Cond.classLink own ik cls :: Cond.initialized cls :: vx_atS own ic cls names, vx_ot w = true)
    (hU : vx_Zq Bundle.tN "UNASSIGNED_STACK" Bundle.steD A s s.heap) (hN : vx_Zq Bundle.tN "SUPPRESSED_SENTINEL" Bundle.listD A s s.heap) (hS : va_S A s.heap H locs) (hsize : ls.size = c.maxLocals)
    (d0 : decode cc pc = .ok (.new ik, 3)) (d3 : decode cc (pc + 3) = .ok (.dup, 1)) (d4 : decode cc (pc + 4) = .ok (.ldc_w is, 3)) (d7 : decode cc (pc + 7) = .ok (.invokespecial ic, 3)) (d10 : decode cc (pc + 10) = .ok (.athrow, 1))
    (hout : ∀ x ∈ c.exceptionTable.toList, covers x (pc + 10) = false)
    (hRframes : names.length + 3 < R.frames) (hRlocals : (rest.map fun v => v.category).sum + (13 * (names.length + 1) + 43) ≤ R.locals) (hRcells : cells + 1 ≤ R.cells) (hRslots : slots + 6 ≤ R.slots) (hlocks : meth.locks = false)
    (hx : ∀ t : State, s.vm.Alike t.vm → H.size ≤ t.heap.size → (∀ q : Nat, q < H.size → t.heap[q]? = H[q]?) → XC cls s t)
    (hf : ∀ z ∈ locs, free z.base) (hc : cells + 1 ≤ mc) (hs : slots + 6 ≤ ms) :
    W p l e R s m args below meth c H locs cells slots (vx_MQ below Qc XC args s mc ms free) (F0 m pc ls rest) := by
  intro T hT X
  have htr : e.platform.stackTraces = false := (show e.platform.stackTraces = l.stackTraces by rw [X.admits.platform]).trans hl
  have Y := vx_rebase X (R' := { frames := R.frames, locals := R.locals, cells := 1, slots := 6 }) (Nat.le_refl _) (Nat.le_refl _) hRcells hRslots
  obtain ⟨s', hA⟩ : ∃ z, z = (T.setVm s.vm).setFrames (.invoking m args :: below) := ⟨_, rfl⟩
  rw [← hA] at Y
  have hvm : s'.vm = s.vm := by rw [hA]; rfl
  have hhp : s'.heap = H := by rw [hA]; exact hT
  have hW0 : s.WarmedH s'.vm := by rw [hvm]; exact State.WarmedH.refl s
  have hat' : ∀ w ∈ vx_atS own ic cls names, w.before args s' = true := fun w hw => vx_ot_at hW0 hvm.symm (hgood w (List.mem_cons_of_mem _ (List.mem_cons_of_mem _ hw))) (hat w hw)
  have hk' : (Cond.classLink own ik cls).before args s' = true := vx_ot_at hW0 hvm.symm (hgood _ List.mem_cons_self) hk
  have hini' : (Cond.initialized cls).before args s' = true := vx_ot_at hW0 hvm.symm (hgood _ (List.mem_cons_of_mem _ List.mem_cons_self)) hini
  have hU' : vx_Zq Bundle.tN "UNASSIGNED_STACK" Bundle.steD A s' s'.heap := by rw [hhp]; exact vx_Zq.moved hW0.alike (hU.kept hS.2.1)
  have hN' : vx_Zq Bundle.tN "SUPPRESSED_SENTINEL" Bundle.listD A s' s'.heap := by rw [hhp]; exact vx_Zq.moved hW0.alike (hN.kept hS.2.1)
  have h : ∀ w ∈ Bundle.ownAtoms own ic cls names, w.before args s' = true := vx_own hat' (vx_isRefq hU'.1) (vx_isRefq hN'.1) hU'.2.word hN'.2.word
  have hown' : s'.vm.findClass own = some m.cls := by rw [hvm]; exact hown
  have hins : (Cond.instantiable cls 6).before args s' = true := h _ (by simp [Bundle.ownAtoms])
  obtain ⟨vm₁, cX, kX, hfX, hkX, -, -, X₁, st1⟩ := Y.newCold hexec (own := own) (C := cls) (index := ik) (n := 6) hown' hk' hins hini'
    (g := F0 m pc ls rest) rfl (by rw [hb]; exact d0) (Nat.le_refl _) (Nat.le_refl _)
  generalize hT1 : (T.setVm vm₁).pushCell { cls := cX, slots := kX.instanceTypes.map defaultValue, vm := .none } = T1 at X₁ st1
  have hcat : (Value.ref T.heap.size).category = 1 := rfl
  have hcellA : T1.heap[T.heap.size]? = some (freshCell cX kX) := by rw [← hT1]; exact State.heap_pushCell_size _ _
  have d3' : decode c.code (pc + 3) = .ok (.dup, 1) := by rw [hb]; exact d3
  have d4' : decode c.code (pc + 4) = .ok (.ldc_w is, 3) := by rw [hb]; exact d4
  have hstr' : vk_R own is text sa s' := vk_R.warm hW0 hstr
  obtain ⟨U, hsteps, hrun, hend, hW, hsame, ce, hce, hO⟩ := X₁.ctorThrowS hexec htr (own := own) (cls := cls) (names := names) (ic := ic) hown' hcls hnames h (fun x hx => nomatch hx) hfX hkX hcellA (by rw [hhp, hT]; exact Nat.le_refl _) (msg := .ref sa) rfl
    (g := { method := m, pc := pc + 7, locals := ls, stack := .ref sa :: .ref T.heap.size :: .ref T.heap.size :: rest, locked := none }) rfl hsize rfl rfl (rest := rest) rfl
    (by rw [hb]; exact d7) (by rw [hb]; exact d10) hout hRframes (by simp only [List.map_cons, List.sum_cons, hcat]; omega) hlocks
  obtain ⟨f1, f2⟩ := vx_frame hsame
  rw [hhp] at f1 f2
  have hWs : s.WarmedH U.vm := State.WarmedH.trans hW0 hW
  have hcl : s.vm.findClass cls = some ce.cls := by
    have h9 := hO.cls
    rw [hvm] at h9
    exact h9
  have hall : s.sameButNew ({ U with vm := s.vm } : State) locs mc ms := by
    subst hA
    obtain ⟨e1, e2⟩ := hsame
    rw [State.setFrames_setFrames] at e1
    have h2 : (T.setVm s.vm).sameButNew ({ U with vm := s.vm } : State) [] (0 + 1) (0 + 6) := ⟨e1, e2⟩
    have h3 := X.same.trans h2
    rw [List.append_nil] at h3
    exact h3.mono hc hs
  refine ⟨U, ?_, .threw T.heap.size, hrun, hend, Or.inr ⟨T.heap.size, rfl, cls, ce, locs, hx U hWs.alike f1 (fun q hq => f2 q hq (fun z hz => nomatch hz)), hce, hO.vm, hcl, hWs, hall, hf⟩⟩
  refine st1 _ ?_
  show Steps p.tables e below (T1.setTop { method := m, pc := pc + 3, locals := ls, stack := .ref T.heap.size :: rest, locked := none }) _
  jvm_step X₁.here [X₁.here.top, hexec, d3', Value.category]
  exact X₁.ldcStringW hexec (own := own) (text := text) (index := is) (a := sa) hown' hstr'.1 hstr'.2
    (g := { method := m, pc := pc + 4, locals := ls, stack := .ref T.heap.size :: .ref T.heap.size :: rest, locked := none }) rfl d4' _ hsteps
end Ends
section Bodies
variable {l : Launch}
theorem vx_ofW {y : MethodName} {ws ws' : List Cond} {rm : Room} {Pc : Array Value → State → Prop} {Qc : Array Value → State → Outcome → State → Prop} {XC : String → State → State → Prop} {mc ms : Nat} {free : Addr → Prop} {cc : ByteArray} {maxL : Nat} {ret : Option FieldType}
    (hy : plainName y.cls = true) (hw : ws = Cond.code y cc maxL ret :: ws')
    (body : ∀ p e s m args below meth c s₁, BodyLoose p l y (headSpec ws rm) cc maxL ret e s m args below meth c s₁ → c.maxLocals = maxL → (∀ x ∈ c.exceptionTable.toList, False) → Pc args s →
      W p l e (headSpec ws rm).room s m args below meth c s.heap [] 0 0 (vx_MQ below Qc XC args s mc ms free) (entryFrame m args maxL)) : vx_Met l y ws rm Pc Qc XC mc ms free := by
  refine MetFree.of_bodyS (code := cc) (maxLocals := maxL) (ret := ret) hy ?_ ?_
  · intro args s m h hn
    obtain ⟨meth, c, h1, h2, h3, h4, h5, h6, -, -⟩ := Cond.code_spec hn (atoms_spec (ws := ws) h _ (by rw [hw]; exact List.mem_cons_self))
    exact ⟨meth, c, h1, h2, h3, h4, h5, h6⟩
  · intro p e s m args below meth c s₁ B hml hP _
    have hh0 : s₁.heap = s.heap := by rw [B.state]; rfl
    have ht : ∀ x ∈ c.exceptionTable.toList, False := by
      obtain ⟨meth9, c9, h1, h2, -, -, -, -, h7, -⟩ := Cond.code_spec B.named (atoms_spec (ws := ws) B.pre _ (by rw [hw]; exact List.mem_cons_self))
      cases Option.some.inj (h1.symm.trans B.method)
      cases Option.some.inj (h2.symm.trans (Stand.of_body B).code)
      intro x hx
      rw [Array.isEmpty_iff.mp h7] at hx
      cases hx
    obtain ⟨t, a1, o, b1, b2, b3⟩ := body p e s m args below meth c s₁ B hml ht hP s₁ hh0 (Stand.of_body B)
    exact ⟨t, o, a1, b1, b2, b3⟩
/-- the table of a body with handlers -/
theorem vx_table {p : Program} {x y : MethodName} {S : Spec} {cc bytes : ByteArray} {maxL maxL' : Nat} {ret ret' : Option FieldType} {e : Env} {s s₁ : State} {m : MethodId} {args : Array Value} {below : List Frame} {meth : Method} {c : Code} {hh : List (Nat × Nat × Nat × Nat)}
    (B : BodyLoose p l y S cc maxL ret e s m args below meth c s₁) (h : (Cond.codeWith y bytes maxL' ret' hh).before args s = true) : c.exceptionTable.toList = tableOf hh := by
  obtain ⟨m9, meth9, c9, hn9, h1, h2, -, -, h6, -⟩ := Cond.codeWith_spec h
  cases Option.some.inj (hn9.symm.trans B.named)
  cases Option.some.inj (h1.symm.trans B.method)
  cases Option.some.inj (h2.symm.trans (Stand.of_body B).code)
  rw [← h6, table_eq]
end Bodies
end VXA
/-! ===== END ===== -/
/-! ===== BEGIN a static call of a method with an exception table ===== -/
section VXS
variable {p : Program} {l : Launch} {e : Env} {R : Room} {s : State} {m : MethodId} {args : Array Value} {below : List Frame} {meth : Method} {c : Code} {T : State} {H : Heap} {locs : List Loc} {cells slots : Nat}
abbrev vx_CSW (R : Room) (s : State) (args : Array Value) (own : String) (index : Nat) (y : MethodName) (bytes : ByteArray) (maxL : Nat) (ret : Option FieldType) (hh : List (Nat × Nat × Nat × Nat)) (ws : List Cond) (rm : Room) (mc ms n : Nat) : Prop :=
  (rm.cells = mc ∧ rm.slots = ms ∧ rm.frames + 1 ≤ R.frames ∧ 8 + (maxL + 11) + rm.locals ≤ R.locals ∧ (∀ w ∈ ws, ∀ (a' : Array Value) (U : State), s.WarmedH U.vm → w.before a' U = true) ∧ Cond.codeWith y bytes maxL ret hh ∈ ws) ∧
  (Cond.codeWith y bytes maxL ret hh).before args s = true ∧ (Cond.initialized y.cls).before args s = true ∧ (y.cls ≠ "java/lang/invoke/MethodHandle" ∧ y.cls ≠ "java/lang/invoke/VarHandle") ∧
  (∀ sig, parseMethodDescriptor y.desc = some sig → n = sig.parameters.length) ∧ (Cond.methodLink own index y).before args s = true ∧ (Cond.static y).before args s = true
theorem vx_cwSW {own : String} {index maxL mc ms : Nat} {y : MethodName} {bytes : ByteArray} {ret : Option FieldType} {hh : List (Nat × Nat × Nat × Nat)} {Ts ws ws' : List Cond} {rm : Room} (n : Nat) (ht : ∀ w ∈ Ts, w.before args s = true) (hT : GoodIn Ts (va_wsS own index y ws)) (hw : ws = Cond.codeWith y bytes maxL ret hh :: ws') (hrc : rm.cells = mc) (hrs : rm.slots = ms)
    (hd : y.cls ≠ "java/lang/invoke/MethodHandle" ∧ y.cls ≠ "java/lang/invoke/VarHandle" ∧ (parseMethodDescriptor y.desc).map (fun d => d.parameters.length) = some n) (hR : rm.frames + 1 ≤ R.frames ∧ 8 + (maxL + 11) + rm.locals ≤ R.locals) :
    vx_CSW R s args own index y bytes maxL ret hh ws rm mc ms n := by
  have ok : ∀ w ∈ va_wsS own index y ws, w.before args s = true := fun w h => ht w (hT w h).1
  have hG : GoodIn Ts ws := fun w h => hT w (by unfold va_wsS; exact List.mem_append_right _ h)
  have hc : Cond.codeWith y bytes maxL ret hh ∈ ws := by rw [hw]; exact List.mem_cons_self
  refine ⟨⟨hrc, hrs, hR.1, hR.2, pay_in ht hG, hc⟩, ht _ (hG _ hc).1, ok _ (by simp [va_wsS]), ⟨hd.1, hd.2.1⟩, fun sig h => ?_, ok _ (by simp [va_wsS]), ok _ (by simp [va_wsS])⟩
  have h2 := hd.2.2
  rw [h] at h2
  exact (Option.some.inj h2).symm
theorem vx_callSW (X : Stand p l e R s m args below meth c T locs cells slots) (hexec : p.tables.exec = Jvm.exec) {own : String} {index : Nat} {y : MethodName} {bytes : ByteArray} {maxL : Nat} {ret : Option FieldType} {hh : List (Nat × Nat × Nat × Nat)}
    (hown : s.vm.findClass own = some m.cls) (hlink : (Cond.methodLink own index y).before args s = true) (hstat : (Cond.static y).before args s = true) (hinit : (Cond.initialized y.cls).before args s = true)
    (hcode : (Cond.codeWith y bytes maxL ret hh).before args s = true) (hy : y.cls ≠ "java/lang/invoke/MethodHandle" ∧ y.cls ≠ "java/lang/invoke/VarHandle")
    {W9 : Nat} {Pre : Pt → Array Value → Prop} {Post : Pt → Array Value → Option Value → Pt → Prop} (hK : Back l R p e below s args y 3 W9 Pre Post)
    {g : JFrame} (hg : g.method = m) (hsize : g.locals.size = c.maxLocals) {argsL rest : List Value} (hlen : ∀ sig, parseMethodDescriptor y.desc = some sig → argsL.length = sig.parameters.length)
    (hstack : g.stack = argsL.reverse ++ rest) (hW : 2 * g.monitorRoom + (rest.map fun v => v.category).sum ≤ W9) (hdg : decode c.code g.pc = .ok (.invokestatic index, 3))
    (hpre : ∀ vm₁, s.WarmedH vm₁ → Pre ⟨T.setVm vm₁, locs, cells, slots⟩ argsL.toArray) :
    ∃ (v : Option Value) (vm₁ : Vm) (B : Pt), s.WarmedH vm₁ ∧ Stand p l e R s m args below meth c B.U B.locs B.cells B.slots ∧ Post ⟨T.setVm vm₁, locs, cells, slots⟩ argsL.toArray v B ∧
      ∀ target, Steps p.tables e below (B.U.setTop { g with pc := g.pc + 3, stack := v.toList ++ rest }) target → Steps p.tables e below (T.setTop g) target := by
  obtain ⟨mk, methM, cM, hnamed, hmethM, -, -, -, -, -, -, hsigM⟩ := Cond.codeWith_spec hcode
  have hstatic : methM.isStatic = true := Cond.static_spec hnamed hmethM hstat
  obtain ⟨kP, hkP, -⟩ := className_of_methodNamed hnamed
  have hinitP : kP.init = .initialized := Cond.initialized_spec (findClass_of_methodNamed hnamed) hkP hinit
  obtain ⟨vm₁, X₁, hstep₁⟩ := X.invokestatic hexec hown hlink hnamed hmethM hstatic hkP hinitP hy (g := g) hg (argsL := argsL) (rest := rest) (hlen _ hsigM) hstack hdg
  obtain ⟨v, B, X', hpost, hsteps⟩ := hK m meth c ⟨T.setVm vm₁, locs, cells, slots⟩ { g with stack := rest } (.invokestatic index) mk argsL.toArray X₁ hg hsize hdg hW (X₁.named hnamed) (hpre vm₁ X₁.warmed)
  exact ⟨v, vm₁, B, X₁.warmed, X', hpost, fun target h => hstep₁ _ fun acts => by rw [doInvoke_state]; exact hsteps.trans h⟩
theorem vx_runSW {y : MethodName} {bytes cc : ByteArray} {maxL nL mc ms n index : Nat} {ret : Option FieldType} {hh : List (Nat × Nat × Nat × Nat)} {ws : List Cond} {rm : Room} {Pc : Array Value → State → Prop} {Qc : Array Value → State → Outcome → State → Prop} {free : Addr → Prop} {Ts : List Cond} {own : String} {As rest : List Value} {g : JFrame}
    (S : CallFix p m c cc nL s args Ts own) (hM : Met l y ws rm Pc Qc mc ms free) (cw : vx_CSW R s args own index y bytes maxL ret hh ws rm mc ms n) (hp : PreS s H Pc As)
    (hg : g.method = m) (hn : As.length = n) (hsize : g.locals.size = nL) (hstack : g.stack = As.reverse ++ rest) (hW : 2 * g.monitorRoom + (rest.map fun v => v.category).sum ≤ 8) (hdg : decode cc g.pc = .ok (.invokestatic index, 3)) (hf : cells + mc ≤ R.cells ∧ slots + ms ≤ R.slots) :
    va_Run p l e R s m args below meth c H locs cells slots mc ms g rest (Qc As.toArray) (free) := by
  obtain ⟨⟨hrc, hrs, hfr, hlo, hws, hcw⟩, hcode, hini, hy, hlen, hl, hstt⟩ := cw
  have hK : Back l R p e below s args y 3 8 (PreOf R mc ms Pc) (PostOf Qc mc ms free) := va_backW (hh := hh) (bytes := bytes) (maxL := maxL) (ret := ret) hM hp.1 hrc hrs hfr hlo hws hcw (fun a' U hW => word_at hW (Or.inl (by first | rfl | simp [Cond.onTables, Cond.keeps, Cond.steady])) hini)
  obtain ⟨hx, hb, hml, ho, -⟩ := S
  intro T hT X
  obtain ⟨v, vm₁, ⟨U', l2, c2, s2⟩, hW₁, X', ⟨g', mk, t, L, e1, e2, hq, h1, hL, h2, h3⟩, st⟩ := vx_callSW X hx (hh := hh) (bytes := bytes) (maxL := maxL) (ret := ret) ho hl hstt hini hcode hy hK hg (hsize.trans hml.symm) (argsL := As) (rest := rest) (fun sig h => hn.trans (hlen sig h)) hstack hW (by rw [hb]; exact hdg)
    (fun vm₁ hW₁ => ⟨hf.1, hf.2, hp.2 (T.setVm vm₁) hT hW₁⟩)
  dsimp only [Pt.U, Pt.locs, Pt.cells, Pt.slots] at X' e1 e2 h1 h2 h3 st
  subst h1; subst h2; subst h3
  exact ⟨v, (T.setVm vm₁).calling g' mk As.toArray, t, U', L, hT, X', hL, e1, e2, hq, st⟩
/-- not caught here, past rows that name other classes: it goes on to the caller -/
theorem vx_outP {p : Program} {l : Launch} {e : Env} {R : Room} {s : State} {m : MethodId} {args : Array Value} {below : List Frame} {meth : Method} {c : Code} {H : Heap} {locs : List Loc} {cells slots : Nat} {free : Addr → Prop} {ls : Array Slot} {rest : List Value} {Qc : Array Value → State → Outcome → State → Prop} {XC : String → State → State → Prop}
    {pc : Nat} {own E : String} {ce : Cell} {q : Addr} {mc ms : Nat} (hown : s.vm.findClass own = some m.cls) (hlocks : meth.locks = false)
    (hpass : ∀ z ∈ c.exceptionTable.toList, covers z pc = false ∨ (z.catchType ≠ 0 ∧ ∃ nm : String, (Cond.classLink own z.catchType nm).before args s = true ∧ va_Nc E nm s)) (hcell : H[q]? = some ce) (hv : ce.vm = .none) (hcl : s.vm.findClass E = some ce.cls)
    (hx : ∀ t : State, t.heap = H → s.vm.Alike t.vm → XC E s t) (hf : ∀ z ∈ locs, free z.base) (hc : cells ≤ mc) (hs : slots ≤ ms) :
    vx_W p l e R s m args below meth c H locs cells slots (vx_MQ below Qc XC args s mc ms free) (F0 m pc ls rest) q := by
  intro T hT X
  have hpl : e.platform.magicAccessors = ({} : Platform).magicAccessors := by rw [X.admits.platform]
  obtain ⟨vm', hW', X', st⟩ := X.outThrough hlocks q (g := F0 m pc ls rest) rfl rfl rfl (cell := ce) (by rw [hT]; exact hcell) (by rw [hv]; rfl)
    (by obtain ⟨k9, h9, -⟩ := Vm.findClass_spec hcl; exact ⟨k9, h9⟩) (fun z hz => by
      rcases hpass z hz with h | ⟨hz0, nm, hl1, hn1⟩
      · exact Or.inl h
      · obtain ⟨c6, hc6, hcl6⟩ := Cond.classLink_spec hown hl1 e.platform hpl
        obtain ⟨a8, b8, h1, h2, h3⟩ := hn1
        cases Option.some.inj (h1.symm.trans hcl)
        cases Option.some.inj (h2.symm.trans hc6)
        exact Or.inr ⟨hz0, _, hcl6, h3⟩)
  obtain ⟨g₀, hfr⟩ := X'.frames_eq
  have hcell9 : ((T.setVm vm').setFrames (.throwing q :: below)).heap[q]? = some ce := by
    show T.heap[q]? = some ce
    rw [hT]; exact hcell
  have hend : Ended ((T.setVm vm').setFrames (.throwing q :: below)) below (.threw q) := State.frames_setFrames _ (State.cur_lt_of_frames hfr)
  refine ⟨(T.setVm vm').setFrames (.throwing q :: below), ?_, .threw q, X'.here.running, hend, Or.inr ⟨q, rfl, E, ce, locs, hx _ hT (X'.ends _).1.alike, hcell9, hv, hcl, (X'.ends _).1, (X'.ends _).2.mono hc hs, hf⟩⟩
  rw [X.pushThrowing_eq]
  exact st
/-- a thing of a world lies in the heap -/
theorem vx_lt {D : va_G} {cl : List vw_C} {ws : va_W} {H1 : Heap} (h : va_P D cl ws H1) {k : Nat} {q : Nat × va_E} (hk : ws[k]? = some q) : q.1 < H1.size := (h k q hk).lt
end VXS
/-! ===== END ===== -/
/-! ===== BEGIN methods with a table of their own: called by a name, returning or throwing ===== -/
section VXH
/-! vx_backW, vx_callVX, vx_callSX, vx_callVW, vx_runVW, vx_runVX, vx_runSX, vx_ofWH follow the same proofs as their sisters above (Free/Laws.lean, Shelf42/LK1.lean); vx_outP calls Shelf42/NT130.lean (outThrough). -/
section
variable {l : Launch} {R : Room} {p : Program} {e : Env} {below : List Frame} {s : State} {sargs : Array Value} {y : MethodName} {len W9 : Nat}
theorem vx_backW {ws : List Cond} {rm : Room} {Pc : Array Value → State → Prop} {Qc : Array Value → State → Outcome → State → Prop} {XC : String → State → State → Prop} {mc ms : Nat} {free : Addr → Prop} {bytes : ByteArray} {maxL : Nat} {ret : Option FieldType} {hh : List (Nat × Nat × Nat × Nat)}
    (hM : vx_Met l y ws rm Pc Qc XC mc ms free) (hblind : FrameBlind Pc) (hrc : rm.cells = mc) (hrs : rm.slots = ms)
    (hframes : rm.frames + 1 ≤ R.frames) (hlocals : W9 + (maxL + 11) + rm.locals ≤ R.locals)
    (hws : ∀ w ∈ ws, ∀ a' U, s.WarmedH U.vm → w.before a' U = true) (hcode : Cond.codeWith y bytes maxL ret hh ∈ ws) (hinit : ∀ a' U, s.WarmedH U.vm → (Cond.initialized y.cls).before a' U = true) :
    vx_Back l R p e below s sargs y len W9 (PreOf R mc ms Pc) (PostOf Qc mc ms free) (vx_Post XC mc ms free) := by
  intro m meth c A g ig mk a X hg hsize hdg hW hn hp
  have h1 : (headSpec ws rm).pre.before a A.U = true := atoms_intro fun w hw => hws w hw _ _ X.warmed
  have h2 : (Cond.codeWith y bytes maxL ret hh).before a A.U = true := hws _ hcode _ _ X.warmed
  have h3 : (Cond.initialized y.cls).before a A.U = true := hinit _ _ X.warmed
  have h4 : A.cells + (headSpec ws rm).room.cells ≤ R.cells := by rw [show (headSpec ws rm).room.cells = mc from hrc]; exact hp.1
  have h5 : A.slots + (headSpec ws rm).room.slots ≤ R.slots := by rw [show (headSpec ws rm).room.slots = ms from hrs]; exact hp.2.1
  have hPc : Pc a (A.U.calling g mk a) := hblind _ _ _ _ hp.2.2
  obtain ⟨U, Ls, c0, s0⟩ := A
  dsimp only [Pt.U, Pt.locs, Pt.cells, Pt.slots] at h1 h2 h3 h4 h5 X hn hPc ⊢
  obtain ⟨m9, methY, cY, hn9, hmY, hcY, -, hlY, -⟩ := Cond.codeWith_spec h2
  cases Option.some.inj (hn9.symm.trans hn)
  obtain ⟨kY, hkY, -⟩ := className_of_methodNamed hn
  have hinitY : kY.init = .initialized := Cond.initialized_spec (findClass_of_methodNamed hn) hkY h3
  have h : At U g.method c below := by rw [hg]; exact X.here
  have hlocals9 : W9 + (maxL + 11) + (headSpec ws rm).room.locals ≤ R.locals := hlocals
  have happ : (headSpec ws rm).appliesLoose y e.platform (U.calling g mk a) = true :=
    Spec.appliesLoose_calling (g := g) h hdg hn hkY hinitY
      (X.room_calling (g := g) (R' := (headSpec ws rm).room) hsize hmY hcY hframes (by rw [hlY]; omega) h4 h5) h1
  obtain ⟨mid, hmid⟩ := h.above
  have hfr : (U.setTop g).frames = (.java g :: mid) ++ below := by rw [State.frames_setTop' g h.top, hmid]; rfl
  obtain ⟨o, s₂, hsteps, -, hend, hq⟩ := Steps.callFree hM p X.admits X.cas X.clock (acts := []) hfr happ hPc trivial
  have hq' : vx_Q Qc XC mc ms free a (U.calling g mk a) o s₂ := hq
  rw [State.frames_setTop' g h.top] at hend
  obtain ⟨g₀, hg0⟩ := Option.isSome_iff_exists.mp h.top
  obtain ⟨r, hr⟩ := State.topJava?_eq_some.mp hg0
  have hr' : (({ U with heap := s₂.heap, slotsUsed := s₂.slotsUsed } : State).setVm s₂.vm).frames = .java g₀ :: r := hr
  rcases hq' with ⟨hqc, L, hfe, hL⟩ | ⟨q, rfl, E, ce, L, hx, hce, hcv, hcl, hW₂, hsm, hL⟩
  · obtain ⟨⟨v, rfl⟩, hW₂, e2, q2, q3, q4, q5, q6⟩ := id hfe
    have e3 : s₂ = ({ (U.calling g mk a).setFrames s₂.frames with heap := s₂.heap, slotsUsed := s₂.slotsUsed } : State).setVm s₂.vm := by
      have : s₂ = ({ s₂ with vm := (U.calling g mk a).vm } : State).setVm s₂.vm := rfl
      rw [e2] at this
      exact this
    obtain ⟨c₂, i₂, len₂, hc₂, hd₂, hf₂⟩ := hend
    have hW' : U.WarmedH s₂.vm := hW₂
    have hcc : c₂ = c := by
      have h1 : s₂.code? g.method = U.code? g.method := by
        rw [State.code?_eq, State.code?_eq, hW'.alike.method?]
      exact Option.some.inj (hc₂.symm.trans (h1.trans h.code))
    subst hcc
    have hlen : len₂ = len := by rw [hdg] at hd₂; cases hd₂; rfl
    subst hlen
    have hs₂ : s₂ = (({ U with heap := s₂.heap, slotsUsed := s₂.slotsUsed } : State).setVm s₂.vm).setTop { g with pc := g.pc + len₂, stack := v.toList ++ g.stack } := by
      refine e3.trans ?_
      rw [hf₂, State.calling_eq h.top, State.setFrames_setFrames, State.setTop_of_frames _ hr', hr]
      rfl
    have hsame : U.sameButNew ({ U with heap := s₂.heap, slotsUsed := s₂.slotsUsed } : State) L mc ms := by
      refine ⟨?_, q2, q3, q4, q5, q6⟩
      obtain ⟨t, ht, -⟩ := State.frames_cons hr
      show ({ U with heap := s₂.heap, slotsUsed := s₂.slotsUsed } : State) = { U.setFrames U.frames with heap := s₂.heap, slotsUsed := s₂.slotsUsed }
      rw [State.setFrames_self ht]
    subst hg
    refine Or.inl ⟨v, ⟨(({ U with heap := s₂.heap, slotsUsed := s₂.slotsUsed } : State).setVm s₂.vm), Ls ++ L, c0 + mc, s0 + ms⟩,
      ⟨X.admits, X.cas, X.clock, X.frames, X.room, X.hears, X.method, X.code, (X.here.setHeapUsed s₂.heap s₂.slotsUsed).setVm hW'.alike, X.tail, State.WarmedH.trans X.warmed hW', X.limits, X.bytes, X.same.trans (hsame.setVm s.vm)⟩,
      ⟨g, mk, s₂, L, rfl, rfl, hqc, rfl, hL, rfl, rfl⟩, ?_⟩
    show Steps p.tables e below _ ((({ U with heap := s₂.heap, slotsUsed := s₂.slotsUsed } : State).setVm s₂.vm).setTop { g with pc := g.pc + len₂, stack := v.toList ++ g.stack })
    rw [← hs₂]
    exact hsteps
  · obtain ⟨e2, q2, q3, q4, q5, q6⟩ := id hsm
    have e3 : s₂ = ({ (U.calling g mk a).setFrames s₂.frames with heap := s₂.heap, slotsUsed := s₂.slotsUsed } : State).setVm s₂.vm := by
      have : s₂ = ({ s₂ with vm := (U.calling g mk a).vm } : State).setVm s₂.vm := rfl
      rw [e2] at this
      exact this
    have hf₂ : s₂.frames = .throwing q :: .java g :: U.frames.tail := hend
    have hW' : U.WarmedH s₂.vm := hW₂
    have hs₂ : s₂ = ((({ U with heap := s₂.heap, slotsUsed := s₂.slotsUsed } : State).setVm s₂.vm).setTop g).pushFrame (.throwing q) := by
      refine e3.trans ?_
      rw [hf₂, State.calling_eq h.top, State.setFrames_setFrames, State.pushFrame, State.frames_setTop _ hr', State.setTop_of_frames _ hr', State.setFrames_setFrames, hr]
      rfl
    have hsame : U.sameButNew ({ U with heap := s₂.heap, slotsUsed := s₂.slotsUsed } : State) L mc ms := by
      refine ⟨?_, q2, q3, q4, q5, q6⟩
      obtain ⟨t, ht, -⟩ := State.frames_cons hr
      show ({ U with heap := s₂.heap, slotsUsed := s₂.slotsUsed } : State) = { U.setFrames U.frames with heap := s₂.heap, slotsUsed := s₂.slotsUsed }
      rw [State.setFrames_self ht]
    subst hg
    refine Or.inr ⟨q, ⟨(({ U with heap := s₂.heap, slotsUsed := s₂.slotsUsed } : State).setVm s₂.vm), Ls ++ L, c0 + mc, s0 + ms⟩,
      ⟨X.admits, X.cas, X.clock, X.frames, X.room, X.hears, X.method, X.code, (X.here.setHeapUsed s₂.heap s₂.slotsUsed).setVm hW'.alike, X.tail, State.WarmedH.trans X.warmed hW', X.limits, X.bytes, X.same.trans (hsame.setVm s.vm)⟩,
      ⟨g, mk, s₂, L, E, ce, rfl, rfl, hx, hce, hcv, hcl, rfl, hL, rfl, rfl⟩, ?_⟩
    show Steps p.tables e below _ (((({ U with heap := s₂.heap, slotsUsed := s₂.slotsUsed } : State).setVm s₂.vm).setTop g).pushFrame (.throwing q))
    rw [← hs₂]
    exact hsteps
end
variable {p : Program} {l : Launch} {e : Env} {R : Room} {s : State} {m : MethodId} {args : Array Value} {below : List Frame} {meth : Method} {c : Code} {T : State} {H : Heap} {locs : List Loc} {cells slots : Nat}
theorem vx_callVX (X : Stand p l e R s m args below meth c T locs cells slots) (hexec : p.tables.exec = Jvm.exec) {own C : String} {index : Nat} {y : MethodName} {bytes : ByteArray} {maxL : Nat} {ret : Option FieldType} {hh : List (Nat × Nat × Nat × Nat)}
    (hown : s.vm.findClass own = some m.cls) (hlink : (Cond.methodLink own index y).before args s = true) (hinst : (Cond.instanceMethod y).before args s = true) (hsel : (Cond.selects C y y).before args s = true)
    (hcode : (Cond.codeWith y bytes maxL ret hh).before args s = true) (hy : y.cls ≠ "java/lang/invoke/MethodHandle" ∧ y.cls ≠ "java/lang/invoke/VarHandle")
    {W9 : Nat} {Pre : Pt → Array Value → Prop} {Post : Pt → Array Value → Option Value → Pt → Prop} {PostX : Pt → Array Value → Addr → Pt → Prop} (hK : vx_Back l R p e below s args y 3 W9 Pre Post PostX)
    {b : Addr} {cellB : Cell} (hcell : T.heap[b]? = some cellB) (hobj : cellB.vm.isStatics = false) (hcls : s.vm.findClass C = some cellB.cls)
    {g : JFrame} (hg : g.method = m) (hsize : g.locals.size = c.maxLocals) {argsL rest : List Value} (hlen : ∀ sig, parseMethodDescriptor y.desc = some sig → argsL.length = sig.parameters.length)
    (hstack : g.stack = argsL.reverse ++ .ref b :: rest) (hW : 2 * g.monitorRoom + (rest.map fun v => v.category).sum ≤ W9) (hdg : decode c.code g.pc = .ok (.invokevirtual index, 3))
    (hpre : ∀ vm₁, s.WarmedH vm₁ → Pre ⟨T.setVm vm₁, locs, cells, slots⟩ (Value.ref b :: argsL).toArray) :
    (∃ (v : Option Value) (vm₁ : Vm) (B : Pt), s.WarmedH vm₁ ∧ Stand p l e R s m args below meth c B.U B.locs B.cells B.slots ∧ Post ⟨T.setVm vm₁, locs, cells, slots⟩ (Value.ref b :: argsL).toArray v B ∧
      ∀ target, Steps p.tables e below (B.U.setTop { g with pc := g.pc + 3, stack := v.toList ++ rest }) target → Steps p.tables e below (T.setTop g) target) ∨
    (∃ (q : Addr) (vm₁ : Vm) (B : Pt), s.WarmedH vm₁ ∧ Stand p l e R s m args below meth c B.U B.locs B.cells B.slots ∧ PostX ⟨T.setVm vm₁, locs, cells, slots⟩ (Value.ref b :: argsL).toArray q B ∧
      Steps p.tables e below (T.setTop g) ((B.U.setTop { g with stack := rest }).pushFrame (.throwing q))) := by
  obtain ⟨mk, methM, hnamed, hmethM, hstM, habM⟩ := Cond.instanceMethod_spec hinst
  obtain ⟨m8, methM', cM, hn8, hmethM', -, -, -, -, -, -, hsigM⟩ := Cond.codeWith_spec hcode
  cases Option.some.inj (hn8.symm.trans hnamed)
  cases hmethM.symm.trans hmethM'
  obtain ⟨c2, r2, m2, q1, q2, q3, q4, kP, hkP, hkPi⟩ := Cond.selects_spec hsel
  cases hcls.symm.trans q1
  cases (State.methodFound?_of_named hnamed hy).symm.trans q2
  cases hnamed.symm.trans q3
  have hselP : selectMethod e.platform s.vm cellB.cls mk = .method mk := by rw [Launch.admits_selectMethod X.admits]; exact q4
  obtain ⟨vm₁, X₁, hstep₁⟩ := X.invokevirtual hexec hown hlink hnamed hmethM hstM hkP hkPi hy (a := b) (cell := cellB) hcell
    (fun z h => by rw [h] at hobj; cases hobj) hselP hmethM habM hkP hkPi (g := g) hg (argsL := argsL) (rest := rest) (hlen _ hsigM) hstack hdg
  rcases hK m meth c ⟨T.setVm vm₁, locs, cells, slots⟩ { g with stack := rest } (.invokevirtual index) mk (Value.ref b :: argsL).toArray X₁ hg hsize hdg hW (X₁.named hnamed) (hpre vm₁ X₁.warmed) with ⟨v, B, X', hpost, hsteps⟩ | ⟨q, B, X', hpost, hsteps⟩
  · exact Or.inl ⟨v, vm₁, B, X₁.warmed, X', hpost, fun target h => hstep₁ _ fun acts => by rw [doInvoke_state]; exact hsteps.trans h⟩
  · exact Or.inr ⟨q, vm₁, B, X₁.warmed, X', hpost, hstep₁ _ fun acts => by rw [doInvoke_state]; exact hsteps⟩
theorem vx_callSX (X : Stand p l e R s m args below meth c T locs cells slots) (hexec : p.tables.exec = Jvm.exec) {own : String} {index : Nat} {y : MethodName} {bytes : ByteArray} {maxL : Nat} {ret : Option FieldType} {hh : List (Nat × Nat × Nat × Nat)}
    (hown : s.vm.findClass own = some m.cls) (hlink : (Cond.methodLink own index y).before args s = true) (hstat : (Cond.static y).before args s = true) (hinit : (Cond.initialized y.cls).before args s = true)
    (hcode : (Cond.codeWith y bytes maxL ret hh).before args s = true) (hy : y.cls ≠ "java/lang/invoke/MethodHandle" ∧ y.cls ≠ "java/lang/invoke/VarHandle")
    {W9 : Nat} {Pre : Pt → Array Value → Prop} {Post : Pt → Array Value → Option Value → Pt → Prop} {PostX : Pt → Array Value → Addr → Pt → Prop} (hK : vx_Back l R p e below s args y 3 W9 Pre Post PostX)
    {g : JFrame} (hg : g.method = m) (hsize : g.locals.size = c.maxLocals) {argsL rest : List Value} (hlen : ∀ sig, parseMethodDescriptor y.desc = some sig → argsL.length = sig.parameters.length)
    (hstack : g.stack = argsL.reverse ++ rest) (hW : 2 * g.monitorRoom + (rest.map fun v => v.category).sum ≤ W9) (hdg : decode c.code g.pc = .ok (.invokestatic index, 3))
    (hpre : ∀ vm₁, s.WarmedH vm₁ → Pre ⟨T.setVm vm₁, locs, cells, slots⟩ argsL.toArray) :
    (∃ (v : Option Value) (vm₁ : Vm) (B : Pt), s.WarmedH vm₁ ∧ Stand p l e R s m args below meth c B.U B.locs B.cells B.slots ∧ Post ⟨T.setVm vm₁, locs, cells, slots⟩ argsL.toArray v B ∧
      ∀ target, Steps p.tables e below (B.U.setTop { g with pc := g.pc + 3, stack := v.toList ++ rest }) target → Steps p.tables e below (T.setTop g) target) ∨
    (∃ (q : Addr) (vm₁ : Vm) (B : Pt), s.WarmedH vm₁ ∧ Stand p l e R s m args below meth c B.U B.locs B.cells B.slots ∧ PostX ⟨T.setVm vm₁, locs, cells, slots⟩ argsL.toArray q B ∧
      Steps p.tables e below (T.setTop g) ((B.U.setTop { g with stack := rest }).pushFrame (.throwing q))) := by
  obtain ⟨mk, methM, cM, hnamed, hmethM, -, -, -, -, -, -, hsigM⟩ := Cond.codeWith_spec hcode
  have hstatic : methM.isStatic = true := Cond.static_spec hnamed hmethM hstat
  obtain ⟨kP, hkP, -⟩ := className_of_methodNamed hnamed
  have hinitP : kP.init = .initialized := Cond.initialized_spec (findClass_of_methodNamed hnamed) hkP hinit
  obtain ⟨vm₁, X₁, hstep₁⟩ := X.invokestatic hexec hown hlink hnamed hmethM hstatic hkP hinitP hy (g := g) hg (argsL := argsL) (rest := rest) (hlen _ hsigM) hstack hdg
  rcases hK m meth c ⟨T.setVm vm₁, locs, cells, slots⟩ { g with stack := rest } (.invokestatic index) mk argsL.toArray X₁ hg hsize hdg hW (X₁.named hnamed) (hpre vm₁ X₁.warmed) with ⟨v, B, X', hpost, hsteps⟩ | ⟨q, B, X', hpost, hsteps⟩
  · exact Or.inl ⟨v, vm₁, B, X₁.warmed, X', hpost, fun target h => hstep₁ _ fun acts => by rw [doInvoke_state]; exact hsteps.trans h⟩
  · exact Or.inr ⟨q, vm₁, B, X₁.warmed, X', hpost, hstep₁ _ fun acts => by rw [doInvoke_state]; exact hsteps⟩
theorem vx_callVW (X : Stand p l e R s m args below meth c T locs cells slots) (hexec : p.tables.exec = Jvm.exec) {own C : String} {index : Nat} {y : MethodName} {bytes : ByteArray} {maxL : Nat} {ret : Option FieldType} {hh : List (Nat × Nat × Nat × Nat)}
    (hown : s.vm.findClass own = some m.cls) (hlink : (Cond.methodLink own index y).before args s = true) (hinst : (Cond.instanceMethod y).before args s = true) (hsel : (Cond.selects C y y).before args s = true)
    (hcode : (Cond.codeWith y bytes maxL ret hh).before args s = true) (hy : y.cls ≠ "java/lang/invoke/MethodHandle" ∧ y.cls ≠ "java/lang/invoke/VarHandle")
    {W9 : Nat} {Pre : Pt → Array Value → Prop} {Post : Pt → Array Value → Option Value → Pt → Prop} (hK : Back l R p e below s args y 3 W9 Pre Post)
    {b : Addr} {cellB : Cell} (hcell : T.heap[b]? = some cellB) (hobj : cellB.vm.isStatics = false) (hcls : s.vm.findClass C = some cellB.cls)
    {g : JFrame} (hg : g.method = m) (hsize : g.locals.size = c.maxLocals) {argsL rest : List Value} (hlen : ∀ sig, parseMethodDescriptor y.desc = some sig → argsL.length = sig.parameters.length)
    (hstack : g.stack = argsL.reverse ++ .ref b :: rest) (hW : 2 * g.monitorRoom + (rest.map fun v => v.category).sum ≤ W9) (hdg : decode c.code g.pc = .ok (.invokevirtual index, 3))
    (hpre : ∀ vm₁, s.WarmedH vm₁ → Pre ⟨T.setVm vm₁, locs, cells, slots⟩ (Value.ref b :: argsL).toArray) :
    ∃ (v : Option Value) (vm₁ : Vm) (B : Pt), s.WarmedH vm₁ ∧ Stand p l e R s m args below meth c B.U B.locs B.cells B.slots ∧ Post ⟨T.setVm vm₁, locs, cells, slots⟩ (Value.ref b :: argsL).toArray v B ∧
      ∀ target, Steps p.tables e below (B.U.setTop { g with pc := g.pc + 3, stack := v.toList ++ rest }) target → Steps p.tables e below (T.setTop g) target := by
  obtain ⟨mk, methM, hnamed, hmethM, hstM, habM⟩ := Cond.instanceMethod_spec hinst
  obtain ⟨m8, methM', cM, hn8, hmethM', -, -, -, -, -, -, hsigM⟩ := Cond.codeWith_spec hcode
  cases Option.some.inj (hn8.symm.trans hnamed)
  cases hmethM.symm.trans hmethM'
  obtain ⟨c2, r2, m2, q1, q2, q3, q4, kP, hkP, hkPi⟩ := Cond.selects_spec hsel
  cases hcls.symm.trans q1
  cases (State.methodFound?_of_named hnamed hy).symm.trans q2
  cases hnamed.symm.trans q3
  have hselP : selectMethod e.platform s.vm cellB.cls mk = .method mk := by rw [Launch.admits_selectMethod X.admits]; exact q4
  obtain ⟨vm₁, X₁, hstep₁⟩ := X.invokevirtual hexec hown hlink hnamed hmethM hstM hkP hkPi hy (a := b) (cell := cellB) hcell
    (fun z h => by rw [h] at hobj; cases hobj) hselP hmethM habM hkP hkPi (g := g) hg (argsL := argsL) (rest := rest) (hlen _ hsigM) hstack hdg
  obtain ⟨v, B, X', hpost, hsteps⟩ := hK m meth c ⟨T.setVm vm₁, locs, cells, slots⟩ { g with stack := rest } (.invokevirtual index) mk (Value.ref b :: argsL).toArray X₁ hg hsize hdg hW (X₁.named hnamed) (hpre vm₁ X₁.warmed)
  exact ⟨v, vm₁, B, X₁.warmed, X', hpost, fun target h => hstep₁ _ fun acts => by rw [doInvoke_state]; exact hsteps.trans h⟩
abbrev vx_CVW (R : Room) (s : State) (args : Array Value) (own C : String) (index : Nat) (y : MethodName) (bytes : ByteArray) (maxL : Nat) (ret : Option FieldType) (hh : List (Nat × Nat × Nat × Nat)) (ws : List Cond) (rm : Room) (mc ms n : Nat) : Prop :=
  (rm.cells = mc ∧ rm.slots = ms ∧ rm.frames + 1 ≤ R.frames ∧ 8 + (maxL + 11) + rm.locals ≤ R.locals ∧ (∀ w ∈ ws, ∀ (a' : Array Value) (U : State), s.WarmedH U.vm → w.before a' U = true) ∧ Cond.codeWith y bytes maxL ret hh ∈ ws) ∧
  (Cond.codeWith y bytes maxL ret hh).before args s = true ∧ (Cond.initialized y.cls).before args s = true ∧ (y.cls ≠ "java/lang/invoke/MethodHandle" ∧ y.cls ≠ "java/lang/invoke/VarHandle") ∧
  (∀ sig, parseMethodDescriptor y.desc = some sig → n = sig.parameters.length) ∧ (Cond.methodLink own index y).before args s = true ∧ (Cond.instanceMethod y).before args s = true ∧ (Cond.selects C y y).before args s = true
theorem vx_cwVW {own C : String} {index maxL mc ms : Nat} {y : MethodName} {bytes : ByteArray} {ret : Option FieldType} {hh : List (Nat × Nat × Nat × Nat)} {Ts ws ws' : List Cond} {rm : Room} (n : Nat) (ht : ∀ w ∈ Ts, w.before args s = true) (hT : GoodIn Ts (wsV own index C y ws)) (hw : ws = Cond.codeWith y bytes maxL ret hh :: ws') (hrc : rm.cells = mc) (hrs : rm.slots = ms)
    (hd : y.cls = C ∧ y.cls ≠ "java/lang/invoke/MethodHandle" ∧ y.cls ≠ "java/lang/invoke/VarHandle" ∧ (parseMethodDescriptor y.desc).map (fun d => d.parameters.length) = some n) (hR : rm.frames + 1 ≤ R.frames ∧ 8 + (maxL + 11) + rm.locals ≤ R.locals) :
    vx_CVW R s args own C index y bytes maxL ret hh ws rm mc ms n := by
  obtain ⟨hC, hd⟩ := hd
  subst hC
  have ok : ∀ w ∈ wsV own index y.cls y ws, w.before args s = true := fun w h => ht w (hT w h).1
  have hG : GoodIn Ts ws := fun w h => hT w (by unfold wsV; exact List.mem_append_right _ h)
  have hc : Cond.codeWith y bytes maxL ret hh ∈ ws := by rw [hw]; exact List.mem_cons_self
  refine ⟨⟨hrc, hrs, hR.1, hR.2, pay_in ht hG, hc⟩, ht _ (hG _ hc).1, ok _ (by simp [wsV]), ⟨hd.1, hd.2.1⟩, fun sig h => ?_, ok _ (by simp [wsV]), ok _ (by simp [wsV]), ok _ (by simp [wsV])⟩
  have h2 := hd.2.2
  rw [h] at h2
  exact (Option.some.inj h2).symm
theorem vx_runVW {y : MethodName} {bytes cc : ByteArray} {maxL nL mc ms n index : Nat} {ret : Option FieldType} {hh : List (Nat × Nat × Nat × Nat)} {ws : List Cond} {rm : Room} {Pc : Array Value → State → Prop} {Qc : Array Value → State → Outcome → State → Prop} {free : Addr → Prop} {Ts : List Cond} {own C : String} {b : Addr} {As rest : List Value} {g : JFrame}
    (S : CallFix p m c cc nL s args Ts own) (hM : Met l y ws rm Pc Qc mc ms free) (cw : vx_CVW R s args own C index y bytes maxL ret hh ws rm mc ms n) (hp : PreV s H C b Pc As)
    (hg : g.method = m) (hn : As.length = n) (hsize : g.locals.size = nL) (hstack : g.stack = As.reverse ++ .ref b :: rest) (hW : 2 * g.monitorRoom + (rest.map fun v => v.category).sum ≤ 8) (hdg : decode cc g.pc = .ok (.invokevirtual index, 3)) (hf : cells + mc ≤ R.cells ∧ slots + ms ≤ R.slots) :
    va_Run p l e R s m args below meth c H locs cells slots mc ms g rest (Qc (Value.ref b :: As).toArray) free := by
  obtain ⟨⟨hrc, hrs, hfr, hlo, hws, hcw⟩, hcode, hini, hy, hlen, hl, hin, hse⟩ := cw
  have hK : Back l R p e below s args y 3 8 (PreOf R mc ms Pc) (PostOf Qc mc ms free) := va_backW (hh := hh) (bytes := bytes) (maxL := maxL) (ret := ret) hM hp.1 hrc hrs hfr hlo hws hcw (fun a' U hW => word_at hW (Or.inl (by first | rfl | simp [Cond.onTables, Cond.keeps, Cond.steady])) hini)
  obtain ⟨hx, hb, hml, ho, -⟩ := S
  obtain ⟨-, ⟨cellB, hcB, hoB, hclB⟩, hPc⟩ := hp
  intro T hT X
  obtain ⟨v, vm₁, ⟨U', l2, c2, s2⟩, hW₁, X', ⟨g', mk, t, L, e1, e2, hq, h1, hL, h2, h3⟩, st⟩ := vx_callVW X hx (C := C) (hh := hh) (bytes := bytes) (maxL := maxL) (ret := ret) ho hl hin hse hcode hy hK (by rw [hT]; exact hcB) hoB hclB hg (hsize.trans hml.symm) (argsL := As) (rest := rest) (fun sig h => hn.trans (hlen sig h)) hstack hW (by rw [hb]; exact hdg)
    (fun vm₁ hW₁ => ⟨hf.1, hf.2, hPc (T.setVm vm₁) hT hW₁⟩)
  dsimp only [Pt.U, Pt.locs, Pt.cells, Pt.slots] at X' e1 e2 h1 h2 h3 st
  subst h1; subst h2; subst h3
  exact ⟨v, (T.setVm vm₁).calling g' mk (Value.ref b :: As).toArray, t, U', L, hT, X', hL, e1, e2, hq, st⟩
section
variable {y : MethodName} {bytes cc : ByteArray} {maxL nL mc ms n index : Nat} {ret : Option FieldType} {ws : List Cond} {rm : Room} {Pc : Array Value → State → Prop} {Qc : Array Value → State → Outcome → State → Prop} {XC : String → State → State → Prop} {free : Addr → Prop} {Ts : List Cond} {own C : String} {b : Addr} {As rest : List Value} {g : JFrame}
theorem vx_runVX {hh : List (Nat × Nat × Nat × Nat)} (S : CallFix p m c cc nL s args Ts own) (hM : vx_Met l y ws rm Pc Qc XC mc ms free) (cw : vx_CVW R s args own C index y bytes maxL ret hh ws rm mc ms n) (hp : PreV s H C b Pc As)
    (hg : g.method = m) (hn : As.length = n) (hsize : g.locals.size = nL) (hstack : g.stack = As.reverse ++ .ref b :: rest) (hW : 2 * g.monitorRoom + (rest.map fun v => v.category).sum ≤ 8) (hdg : decode cc g.pc = .ok (.invokevirtual index, 3)) (hf : cells + mc ≤ R.cells ∧ slots + ms ≤ R.slots) :
    vx_Run p l e R s m args below meth c H locs cells slots mc ms g rest (Qc (Value.ref b :: As).toArray) XC free := by
  obtain ⟨⟨hrc, hrs, hfr, hlo, hws, hcw⟩, hcode, hini, hy, hlen, hl, hin, hse⟩ := cw
  have hK : vx_Back l R p e below s args y 3 8 (PreOf R mc ms Pc) (PostOf Qc mc ms free) (vx_Post XC mc ms free) := vx_backW (hh := hh) (bytes := bytes) (maxL := maxL) (ret := ret) hM hp.1 hrc hrs hfr hlo hws hcw (fun a' U hW => word_at hW (Or.inl (by first | rfl | simp [Cond.onTables, Cond.keeps, Cond.steady])) hini)
  obtain ⟨hx, hb, hml, ho, -⟩ := S
  obtain ⟨-, ⟨cellB, hcB, hoB, hclB⟩, hPc⟩ := hp
  intro T hT X
  rcases vx_callVX X hx (C := C) (hh := hh) (bytes := bytes) (maxL := maxL) (ret := ret) ho hl hin hse hcode hy hK (by rw [hT]; exact hcB) hoB hclB hg (hsize.trans hml.symm) (argsL := As) (rest := rest) (fun sig h => hn.trans (hlen sig h)) hstack hW (by rw [hb]; exact hdg)
    (fun vm₁ hW₁ => ⟨hf.1, hf.2, hPc (T.setVm vm₁) hT hW₁⟩) with ⟨v, vm₁, ⟨U', l2, c2, s2⟩, hW₁, X', ⟨g', mk, t, L, e1, e2, hq, h1, hL, h2, h3⟩, st⟩ | ⟨q, vm₁, ⟨U', l2, c2, s2⟩, hW₁, X', ⟨g', mk, t, L, E, ce, e1, e2, hq, hce, hcv, hcl, h1, hL, h2, h3⟩, st⟩
  · dsimp only [Pt.U, Pt.locs, Pt.cells, Pt.slots] at X' e1 e2 h1 h2 h3 st
    subst h1; subst h2; subst h3
    exact Or.inl ⟨v, (T.setVm vm₁).calling g' mk (Value.ref b :: As).toArray, t, U', L, hT, X', hL, e1, e2, hq, st⟩
  · dsimp only [Pt.U, Pt.locs, Pt.cells, Pt.slots] at X' e1 e2 h1 h2 h3 st hcl
    subst h1; subst h2; subst h3
    exact Or.inr ⟨q, (T.setVm vm₁).calling g' mk (Value.ref b :: As).toArray, t, U', L, E, ce, hT, X', hL, e1, e2, hq, hce, hcv, vx_cls hW₁ hcl, st⟩
theorem vx_runSX {hh : List (Nat × Nat × Nat × Nat)} (S : CallFix p m c cc nL s args Ts own) (hM : vx_Met l y ws rm Pc Qc XC mc ms free) (cw : vx_CSW R s args own index y bytes maxL ret hh ws rm mc ms n) (hp : PreS s H Pc As)
    (hg : g.method = m) (hn : As.length = n) (hsize : g.locals.size = nL) (hstack : g.stack = As.reverse ++ rest) (hW : 2 * g.monitorRoom + (rest.map fun v => v.category).sum ≤ 8) (hdg : decode cc g.pc = .ok (.invokestatic index, 3)) (hf : cells + mc ≤ R.cells ∧ slots + ms ≤ R.slots) :
    vx_Run p l e R s m args below meth c H locs cells slots mc ms g rest (Qc As.toArray) XC free := by
  obtain ⟨⟨hrc, hrs, hfr, hlo, hws, hcw⟩, hcode, hini, hy, hlen, hl, hstt⟩ := cw
  have hK : vx_Back l R p e below s args y 3 8 (PreOf R mc ms Pc) (PostOf Qc mc ms free) (vx_Post XC mc ms free) := vx_backW (hh := hh) (bytes := bytes) (maxL := maxL) (ret := ret) hM hp.1 hrc hrs hfr hlo hws hcw (fun a' U hW => word_at hW (Or.inl (by first | rfl | simp [Cond.onTables, Cond.keeps, Cond.steady])) hini)
  obtain ⟨hx, hb, hml, ho, -⟩ := S
  intro T hT X
  rcases vx_callSX X hx (hh := hh) (bytes := bytes) (maxL := maxL) (ret := ret) ho hl hstt hini hcode hy hK hg (hsize.trans hml.symm) (argsL := As) (rest := rest) (fun sig h => hn.trans (hlen sig h)) hstack hW (by rw [hb]; exact hdg)
    (fun vm₁ hW₁ => ⟨hf.1, hf.2, hp.2 (T.setVm vm₁) hT hW₁⟩) with ⟨v, vm₁, ⟨U', l2, c2, s2⟩, hW₁, X', ⟨g', mk, t, L, e1, e2, hq, h1, hL, h2, h3⟩, st⟩ | ⟨q, vm₁, ⟨U', l2, c2, s2⟩, hW₁, X', ⟨g', mk, t, L, E, ce, e1, e2, hq, hce, hcv, hcl, h1, hL, h2, h3⟩, st⟩
  · dsimp only [Pt.U, Pt.locs, Pt.cells, Pt.slots] at X' e1 e2 h1 h2 h3 st
    subst h1; subst h2; subst h3
    exact Or.inl ⟨v, (T.setVm vm₁).calling g' mk As.toArray, t, U', L, hT, X', hL, e1, e2, hq, st⟩
  · dsimp only [Pt.U, Pt.locs, Pt.cells, Pt.slots] at X' e1 e2 h1 h2 h3 st hcl
    subst h1; subst h2; subst h3
    exact Or.inr ⟨q, (T.setVm vm₁).calling g' mk As.toArray, t, U', L, E, ce, hT, X', hL, e1, e2, hq, hce, hcv, vx_cls hW₁ hcl, st⟩
end
end VXH
theorem vx_ofWH {l : Launch} {y : MethodName} {ws ws' : List Cond} {rm : Room} {Pc : Array Value → State → Prop} {Qc : Array Value → State → Outcome → State → Prop} {XC : String → State → State → Prop} {mc ms : Nat} {free : Addr → Prop} {cc : ByteArray} {maxL : Nat} {ret : Option FieldType} {hh : List (Nat × Nat × Nat × Nat)}
    (hy : plainName y.cls = true) (hw : ws = Cond.codeWith y cc maxL ret hh :: ws')
    (body : ∀ p e s m args below meth c s₁, BodyLoose p l y (headSpec ws rm) cc maxL ret e s m args below meth c s₁ → c.maxLocals = maxL → Pc args s →
      W p l e (headSpec ws rm).room s m args below meth c s.heap [] 0 0 (vx_MQ below Qc XC args s mc ms free) (entryFrame m args maxL)) : vx_Met l y ws rm Pc Qc XC mc ms free := by
  refine MetFree.of_bodyS (code := cc) (maxLocals := maxL) (ret := ret) hy ?_ ?_
  · intro args s m h hn
    obtain ⟨m9, meth, c, hn9, h1, h2, h3, h4, -, h5, h6, -⟩ := Cond.codeWith_spec (atoms_spec (ws := ws) h _ (by rw [hw]; exact List.mem_cons_self))
    cases hn.symm.trans hn9
    exact ⟨meth, c, h1, h2, h3, h4, h5, h6⟩
  · intro p e s m args below meth c s₁ B hml hP _
    have hh0 : s₁.heap = s.heap := by rw [B.state]; rfl
    obtain ⟨t, a1, o, b1, b2, b3⟩ := body p e s m args below meth c s₁ B hml hP s₁ hh0 (Stand.of_body B)
    exact ⟨t, o, a1, b1, b2, b3⟩
/-! ===== END ===== -/
/-! ===== BEGIN a constructor that throws (launches without stack traces) ===== -/
section VXIA
variable {p : Program} {l : Launch} {e : Env} {R : Room} {s : State} {m : MethodId} {args : Array Value} {below : List Frame} {meth : Method} {c : Code} {T : State} {locs : List Loc} {cells slots : Nat}
theorem vx_callI (X : Stand p l e R s m args below meth c T locs cells slots) (hexec : p.tables.exec = Jvm.exec) {own : String} {index : Nat} {y : MethodName} {bytes : ByteArray} {maxL : Nat}
    (hown : s.vm.findClass own = some m.cls) (hy1 : y.name = "<init>") (hlink : (Cond.methodLink own index y).before args s = true) (hinst : (Cond.instanceMethod y).before args s = true)
    (hcode : (Cond.code y bytes maxL none).before args s = true) (hy : y.cls ≠ "java/lang/invoke/MethodHandle" ∧ y.cls ≠ "java/lang/invoke/VarHandle")
    {W9 : Nat} {Pre : Pt → Array Value → Prop} {Post : Pt → Array Value → Option Value → Pt → Prop} {PostX : Pt → Array Value → Addr → Pt → Prop} (hK : vx_Back l R p e below s args y 3 W9 Pre Post PostX)
    {g : JFrame} (hg : g.method = m) (hsize : g.locals.size = c.maxLocals) {a : Addr} {argsL rest : List Value} (hlen : ∀ sig, parseMethodDescriptor y.desc = some sig → argsL.length = sig.parameters.length)
    (hstack : g.stack = argsL.reverse ++ .ref a :: rest) (hW : 2 * g.monitorRoom + (rest.map fun v => v.category).sum ≤ W9) (hdg : decode c.code g.pc = .ok (.invokespecial index, 3))
    (hpre : ∀ vm₁, s.WarmedH vm₁ → Pre ⟨T.setVm vm₁, locs, cells, slots⟩ (Value.ref a :: argsL).toArray) :
    (∃ (v : Option Value) (vm₁ : Vm) (B : Pt), s.WarmedH vm₁ ∧ Stand p l e R s m args below meth c B.U B.locs B.cells B.slots ∧ Post ⟨T.setVm vm₁, locs, cells, slots⟩ (Value.ref a :: argsL).toArray v B ∧
      ∀ target, Steps p.tables e below (B.U.setTop { g with pc := g.pc + 3, stack := v.toList ++ rest }) target → Steps p.tables e below (T.setTop g) target) ∨
    (∃ (q : Addr) (vm₁ : Vm) (B : Pt), s.WarmedH vm₁ ∧ Stand p l e R s m args below meth c B.U B.locs B.cells B.slots ∧ PostX ⟨T.setVm vm₁, locs, cells, slots⟩ (Value.ref a :: argsL).toArray q B ∧
      Steps p.tables e below (T.setTop g) ((B.U.setTop { g with stack := rest }).pushFrame (.throwing q))) := by
  subst hg
  have hpl : e.platform.magicAccessors = ({} : Platform).magicAccessors := by rw [X.admits.platform]
  obtain ⟨mk, methM, cM, kP, vm₁, hnamed, hmethM, hcodeM, -, hlocalsM, -, hkP, -, hW₁, hstep₁⟩ := Steps.initColdArgs (e := e) X.here hexec X.warmed hpl hown hy1 hy hlink hinst hcode (f := g) rfl hlen hstack hdg
  have X₁ := X.noted hW₁
  rcases hK g.method meth c ⟨T.setVm vm₁, locs, cells, slots⟩ { g with stack := rest } (.invokespecial index) mk (Value.ref a :: argsL).toArray X₁ rfl hsize hdg hW (X₁.named hnamed) (hpre vm₁ X₁.warmed) with ⟨v, B, X', hpost, hsteps⟩ | ⟨q, B, X', hpost, hsteps⟩
  · exact Or.inl ⟨v, vm₁, B, X₁.warmed, X', hpost, fun target h => hstep₁ _ fun acts => by rw [doInvoke_state]; exact hsteps.trans h⟩
  · exact Or.inr ⟨q, vm₁, B, X₁.warmed, X', hpost, hstep₁ _ fun acts => by rw [doInvoke_state]; exact hsteps⟩
end VXIA
section VXIB
variable {p : Program} {l : Launch} {e : Env} {R : Room} {s : State} {m : MethodId} {args : Array Value} {below : List Frame} {meth : Method} {c : Code} {H : Heap} {locs : List Loc} {cells slots : Nat}
variable {y : MethodName} {bytes cc : ByteArray} {maxL nL mc ms n index : Nat} {ret : Option FieldType} {ws : List Cond} {rm : Room} {Pc : Array Value → State → Prop} {Qc : Array Value → State → Outcome → State → Prop} {XC : String → State → State → Prop} {free : Addr → Prop} {Ts : List Cond} {own C : String} {b : Addr} {As rest : List Value} {g : JFrame}
theorem vx_runI (S : CallFix p m c cc nL s args Ts own) (hM : vx_Met l y ws rm Pc Qc XC mc ms free) (cw : CallB R s args own index y bytes maxL none ws rm mc ms n ∧ y.name = "<init>" ∧ (Cond.instanceMethod y).before args s = true) (hp : PreS s H Pc (.ref b :: As))
    (hg : g.method = m) (hn : As.length = n) (hsize : g.locals.size = nL) (hstack : g.stack = As.reverse ++ .ref b :: rest) (hW : 2 * g.monitorRoom + (rest.map fun v => v.category).sum ≤ 8) (hdg : decode cc g.pc = .ok (.invokespecial index, 3)) (hf : cells + mc ≤ R.cells ∧ slots + ms ≤ R.slots) :
    vx_Run p l e R s m args below meth c H locs cells slots mc ms g rest (Qc (Value.ref b :: As).toArray) XC free := by
  have hK : vx_Back l R p e below s args y 3 8 (PreOf R mc ms Pc) (PostOf Qc mc ms free) (vx_Post XC mc ms free) := vx_callBack cw.1 hM hp.1
  obtain ⟨⟨-, -, -, -, -, -, hcode, -, hy, hlen, hl⟩, hy1, hin⟩ := cw
  obtain ⟨hx, hb, hml, ho, -⟩ := S
  have hPc := hp.2
  intro T hT X
  rcases vx_callI X hx (bytes := bytes) (maxL := maxL) ho hy1 hl hin hcode hy hK hg (hsize.trans hml.symm) (a := b) (argsL := As) (rest := rest) (fun sig h => hn.trans (hlen sig h)) hstack hW (by rw [hb]; exact hdg)
    (fun vm₁ hW₁ => ⟨hf.1, hf.2, hPc (T.setVm vm₁) hT hW₁⟩) with ⟨v, vm₁, ⟨U', l2, c2, s2⟩, hW₁, X', ⟨g', mk, t, L, e1, e2, hq, h1, hL, h2, h3⟩, st⟩ | ⟨q, vm₁, ⟨U', l2, c2, s2⟩, hW₁, X', ⟨g', mk, t, L, E, ce, e1, e2, hq, hce, hcv, hcl, h1, hL, h2, h3⟩, st⟩
  · dsimp only [Pt.U, Pt.locs, Pt.cells, Pt.slots] at X' e1 e2 h1 h2 h3 st
    subst h1; subst h2; subst h3
    exact Or.inl ⟨v, (T.setVm vm₁).calling g' mk (Value.ref b :: As).toArray, t, U', L, hT, X', hL, e1, e2, hq, st⟩
  · dsimp only [Pt.U, Pt.locs, Pt.cells, Pt.slots] at X' e1 e2 h1 h2 h3 st hcl
    subst h1; subst h2; subst h3
    exact Or.inr ⟨q, (T.setVm vm₁).calling g' mk (Value.ref b :: As).toArray, t, U', L, E, ce, hT, X', hL, e1, e2, hq, hce, hcv, vx_cls hW₁ hcl, st⟩
end VXIB
/-! ===== END ===== -/
end
section
/-! THE MINI-MACHINE: a frame of a method over a list of cells; references are places in the list (from q_big on: the script, and the String constants); it answers 'none' for whatever this proof needs no word of -/
abbrev q_M : Type := List va_E × Nat × Nat
abbrev q_L : Type := List (Nat × Value)
abbrev q_O : Type := Option Value ⊕ String
def q_big : Nat := 1000000
def q_ld (lv : q_L) (i : Nat) : Option Value := (lv.find? (fun q => q.1 == i)).map (fun q => q.2)
def q_s1 (lv : q_L) (i : Nat) (v : Value) : q_L := (i, v) :: lv.filter (fun q => !(q.1 == i) && !(q.1 + 1 == i && q.2.category == 2))
def q_s2 (lv : q_L) (i : Nat) (v : Value) : q_L := (i, v) :: lv.filter (fun q => !(q.1 == i) && (!(q.1 == i + 1) && !(q.1 + 1 == i && q.2.category == 2)))
def q_len (i : Instr) (b : Nat) : Nat := match i with
  | .bipush _ | .iload _ | .istore _ | .lload _ | .lstore _ | .fload _ | .fstore _ | .dload _ | .dstore _ | .aload _ | .astore _ | .ldc _ | .newarray _ => 2
  | .sipush _ | .ldc_w _ | .ldc2_w _ | .goto _ | .ifCond _ _ | .if_icmp _ _ | .ifnull _ | .ifnonnull _ | .iinc _ _ | .getfield _ | .putfield _ | .invokestatic _ | .invokevirtual _ | .invokespecial _ | .new _ | .anewarray _ => 3
  | .tableswitch _ _ _ _ => b
  | _ => 1
/-- where a jump goes: told in the table, held against the offset -/
def q_br (i : Instr) (a pc : Nat) : Bool := match i with
  | .goto off | .ifCond _ off | .if_icmp _ off | .ifnull off | .ifnonnull off => decide ((pc : Int) + off = (a : Int))
  | _ => true
def q_c (c : Jvm.ClassFile.Cond) (x y : Int32) : Bool := match c with
  | .eq => decide (x = y)
  | .ne => decide (¬ x = y)
  | .lt => decide (x < y)
  | .ge => decide (y ≤ x)
  | .gt => decide (y < x)
  | .le => decide (x ≤ y)
def q_sw (pc : Nat) (dflt lo hi : Int) (offs : Array Int) (x : Int32) : Option Nat :=
  if x.toInt < lo ∨ hi < x.toInt then (if 0 ≤ (pc : Int) + dflt then some ((pc : Int) + dflt).toNat else none)
  else match offs[(x.toInt - lo).toNat]? with
    | some off => if 0 ≤ (pc : Int) + off then some ((pc : Int) + off).toNat else none
    | none => none
/-- what touches the stack and the locals alone -/
def q_p1 (i : Instr) (a pc nL : Nat) (lv : q_L) (st : List Value) : Option (Nat × q_L × List Value) := match i with
  | .iconst n => some (pc + 1, lv, .int (Int32.ofInt n) :: st)
  | .bipush n => some (pc + 2, lv, .int (Int8.ofInt n).toInt32 :: st)
  | .sipush n => some (pc + 3, lv, .int (Int16.ofInt n).toInt32 :: st)
  | .lconst n => some (pc + 1, lv, .long (Int64.ofNat (n : Nat)) :: st)
  | .fconst n => if n = 0 then some (pc + 1, lv, .float FP.fconst0 :: st) else none
  | .dconst n => if n = 0 then some (pc + 1, lv, .double FP.dconst0 :: st) else none
  | .aconst_null => some (pc + 1, lv, .null :: st)
  | .iload k => (match q_ld lv k with | some (.int x) => some (pc + 2, lv, .int x :: st) | _ => none)
  | .iload_n k => (match q_ld lv (k : Nat) with | some (.int x) => some (pc + 1, lv, .int x :: st) | _ => none)
  | .lload k => (match q_ld lv k with | some (.long x) => some (pc + 2, lv, .long x :: st) | _ => none)
  | .lload_n k => (match q_ld lv (k : Nat) with | some (.long x) => some (pc + 1, lv, .long x :: st) | _ => none)
  | .fload k => (match q_ld lv k with | some (.float x) => some (pc + 2, lv, .float x :: st) | _ => none)
  | .dload k => (match q_ld lv k with | some (.double x) => some (pc + 2, lv, .double x :: st) | _ => none)
  | .aload k => (match q_ld lv k with | some (.ref x) => some (pc + 2, lv, .ref x :: st) | _ => none)
  | .aload_n k => (match q_ld lv (k : Nat) with | some (.ref x) => some (pc + 1, lv, .ref x :: st) | _ => none)
  | .istore k => (match st with | .int x :: r => if k < nL then some (pc + 2, q_s1 lv k (.int x), r) else none | _ => none)
  | .istore_n k => (match st with | .int x :: r => if (k : Nat) < nL then some (pc + 1, q_s1 lv (k : Nat) (.int x), r) else none | _ => none)
  | .lstore k => (match st with | .long x :: r => if k + 1 < nL then some (pc + 2, q_s2 lv k (.long x), r) else none | _ => none)
  | .lstore_n k => (match st with | .long x :: r => if (k : Nat) + 1 < nL then some (pc + 1, q_s2 lv (k : Nat) (.long x), r) else none | _ => none)
  | .fstore k => (match st with | .float x :: r => if k < nL then some (pc + 2, q_s1 lv k (.float x), r) else none | _ => none)
  | .dstore k => (match st with | .double x :: r => if k + 1 < nL then some (pc + 2, q_s2 lv k (.double x), r) else none | _ => none)
  | .astore k => (match st with | .ref x :: r => if k < nL then some (pc + 2, q_s1 lv k (.ref x), r) else none | _ => none)
  | .astore_n k => (match st with | .ref x :: r => if (k : Nat) < nL then some (pc + 1, q_s1 lv (k : Nat) (.ref x), r) else none | _ => none)
  | .iinc k n => (match q_ld lv k with | some (.int x) => if k < nL then some (pc + 3, q_s1 lv k (.int (x + Int32.ofInt n)), st) else none | _ => none)
  | .iadd => (match st with | .int y :: .int x :: r => some (pc + 1, lv, .int (x + y) :: r) | _ => none)
  | .isub => (match st with | .int y :: .int x :: r => some (pc + 1, lv, .int (x - y) :: r) | _ => none)
  | .imul => (match st with | .int y :: .int x :: r => some (pc + 1, lv, .int (x * y) :: r) | _ => none)
  | .idiv => (match st with | .int y :: .int x :: r => if y = 0 then none else some (pc + 1, lv, .int (x / y) :: r) | _ => none)
  | .irem => (match st with | .int y :: .int x :: r => if y = 0 then none else some (pc + 1, lv, .int (x - x / y * y) :: r) | _ => none)
  | .ineg => (match st with | .int x :: r => some (pc + 1, lv, .int (-x) :: r) | _ => none)
  | .iand => (match st with | .int y :: .int x :: r => some (pc + 1, lv, .int (x &&& y) :: r) | _ => none)
  | .ior => (match st with | .int y :: .int x :: r => some (pc + 1, lv, .int (x ||| y) :: r) | _ => none)
  | .ixor => (match st with | .int y :: .int x :: r => some (pc + 1, lv, .int (x ^^^ y) :: r) | _ => none)
  | .ishl => (match st with | .int y :: .int x :: r => some (pc + 1, lv, .int (x <<< (y &&& 31)) :: r) | _ => none)
  | .ishr => (match st with | .int y :: .int x :: r => some (pc + 1, lv, .int (x >>> (y &&& 31)) :: r) | _ => none)
  | .ladd => (match st with | .long y :: .long x :: r => some (pc + 1, lv, .long (x + y) :: r) | _ => none)
  | .lsub => (match st with | .long y :: .long x :: r => some (pc + 1, lv, .long (x - y) :: r) | _ => none)
  | .lmul => (match st with | .long y :: .long x :: r => some (pc + 1, lv, .long (x * y) :: r) | _ => none)
  | .land => (match st with | .long y :: .long x :: r => some (pc + 1, lv, .long (x &&& y) :: r) | _ => none)
  | .lor => (match st with | .long y :: .long x :: r => some (pc + 1, lv, .long (x ||| y) :: r) | _ => none)
  | .lxor => (match st with | .long y :: .long x :: r => some (pc + 1, lv, .long (x ^^^ y) :: r) | _ => none)
  | .lshl => (match st with | .int y :: .long x :: r => some (pc + 1, lv, .long (x <<< (y.toInt64 &&& 63)) :: r) | _ => none)
  | .lshr => (match st with | .int y :: .long x :: r => some (pc + 1, lv, .long (x >>> (y.toInt64 &&& 63)) :: r) | _ => none)
  | .lushr => (match st with | .int y :: .long x :: r => some (pc + 1, lv, .long (x.toUInt64 >>> (y.toInt64.toUInt64 &&& Int64.toUInt64 63)).toInt64 :: r) | _ => none)
  | .i2l => (match st with | .int x :: r => some (pc + 1, lv, .long x.toInt64 :: r) | _ => none)
  | .l2i => (match st with | .long x :: r => some (pc + 1, lv, .int x.toInt32 :: r) | _ => none)
  | .i2b => (match st with | .int x :: r => some (pc + 1, lv, .int x.toInt8.toInt32 :: r) | _ => none)
  | .i2f => (match st with | .int x :: r => some (pc + 1, lv, .float (FP.i2f x) :: r) | _ => none)
  | .i2d => (match st with | .int x :: r => some (pc + 1, lv, .double (FP.i2d x) :: r) | _ => none)
  | .f2d => (match st with | .float x :: r => if FP.f2d x &&& 0x7fffffffffffffff ≤ 0x7ff0000000000000 then some (pc + 1, lv, .double (FP.f2d x) :: r) else none | _ => none)
  | .fdiv => (match st with | .float y :: .float x :: r => if FP.fdiv x y &&& 0x7fffffff ≤ 0x7f800000 then some (pc + 1, lv, .float (FP.fdiv x y) :: r) else none | _ => none)
  | .ddiv => (match st with | .double y :: .double x :: r => if FP.ddiv x y &&& 0x7fffffffffffffff ≤ 0x7ff0000000000000 then some (pc + 1, lv, .double (FP.ddiv x y) :: r) else none | _ => none)
  | .lcmp => (match st with | .long y :: .long x :: r => some (pc + 1, lv, .int (lg_cmp x y) :: r) | _ => none)
  | .fcmp op => (match st with | .float y :: .float x :: r => some (pc + 1, lv, .int (Op.cmpValue (FP.fcmp x y) op) :: r) | _ => none)
  | .dcmp op => (match st with | .double y :: .double x :: r => some (pc + 1, lv, .int (Op.cmpValue (FP.dcmp x y) op) :: r) | _ => none)
  | .dup => (match st with | v :: r => if v.category = 1 then some (pc + 1, lv, v :: v :: r) else none | _ => none)
  | .dup2 => (match st with | v :: w :: r => if v.category = 1 ∧ w.category = 1 then some (pc + 1, lv, v :: w :: v :: w :: r) else none | _ => none)
  | .pop => (match st with | v :: r => if v.category = 1 then some (pc + 1, lv, r) else none | _ => none)
  | .goto _ => some (a, lv, st)
  | .ifCond c _ => (match st with | .int x :: r => some (if q_c c x 0 = true then a else pc + 3, lv, r) | _ => none)
  | .if_icmp c _ => (match st with | .int y :: .int x :: r => some (if q_c c x y = true then a else pc + 3, lv, r) | _ => none)
  | .ifnull _ => (match st with | .ref _ :: r => some (pc + 3, lv, r) | .null :: r => some (a, lv, r) | _ => none)
  | .ifnonnull _ => (match st with | .ref _ :: r => some (a, lv, r) | .null :: r => some (pc + 3, lv, r) | _ => none)
  | .tableswitch dflt lo hi offs => (match st with | .int x :: r => (q_sw pc dflt lo hi offs x).map (fun t => (t, lv, r)) | _ => none)
  | _ => none
/-- constants of the pool -/
def q_pk (i : Instr) (a b pc : Nat) (st : List Value) : Option (Nat × List Value) := match i with
  | .ldc _ => if a = 0 then some (pc + 2, .int (Int32.ofNat b) :: st) else some (pc + 2, .ref (q_big + 1 + b) :: st)
  | .ldc_w _ => if a = 0 then some (pc + 3, .int (Int32.ofNat b) :: st) else none
  | .ldc2_w _ => some (pc + 3, .long (Int64.ofNat b) :: st)
  | _ => none
/-- the script: its length and its numbers -/
abbrev q_X : Type := Nat × (Nat → Int32)
def q_at (M : List va_E) (id : Nat) : Option va_E := if id < q_big then M[id]? else none
/-- what reads the cells -/
def q_p2 (X : q_X) (M : List va_E) (i : Instr) (a b pc : Nat) (st : List Value) : Option (Nat × List Value) := match i with
  | .getfield _ => (match st with | .ref id :: r => (match q_at M id with | some (.inr (ci, fs)) => if ci = a ∧ b < q_N a then (match fs[b]? with | some v => some (pc + 3, v :: r) | none => none) else none | _ => none) | _ => none)
  | .iaload => (match st with
    | .int j :: .ref id :: r => if id = q_big then (if j < 0 ∨ X.1 ≤ j.toNatClampNeg then none else some (pc + 1, .int (X.2 j.toNatClampNeg) :: r)) else
      (match q_at M id with | some (.inl (t, n, .inl f)) => if t = 0 ∧ ¬ (j < 0 ∨ n ≤ j.toNatClampNeg) then some (pc + 1, .int (f j.toNatClampNeg) :: r) else none | _ => none)
    | _ => none)
  | .baload => (match st with
    | .int j :: .ref id :: r => (match q_at M id with | some (.inl (t, n, .inl f)) => if t = 2 ∧ ¬ (j < 0 ∨ n ≤ j.toNatClampNeg) then some (pc + 1, .int (f j.toNatClampNeg) :: r) else none | _ => none)
    | _ => none)
  | .laload => (match st with
    | .int j :: .ref id :: r => (match q_at M id with | some (.inl (t, n, .inr (.inl f))) => if t = 1 ∧ ¬ (j < 0 ∨ n ≤ j.toNatClampNeg) then some (pc + 1, .long (f j.toNatClampNeg) :: r) else none | _ => none)
    | _ => none)
  | .aaload => (match st with
    | .int j :: .ref id :: r => (match q_at M id with | some (.inl (t, n, .inr (.inr (.inr (.inr f))))) => if (t = 5 ∨ t = 6) ∧ ¬ (j < 0 ∨ n ≤ j.toNatClampNeg) then some (pc + 1, va_rf (f j.toNatClampNeg) :: r) else none | _ => none)
    | _ => none)
  | .arraylength => (match st with
    | .ref id :: r => if id = q_big then some (pc + 1, .int (Int32.ofNat X.1) :: r) else (match q_at M id with | some (.inl (t, n, _)) => if t < 7 then some (pc + 1, .int (Int32.ofNat n) :: r) else none | _ => none)
    | _ => none)
  | _ => none
/-- may a field be written: not final, or in a constructor of its own class -/
def q_fin (o : Nat) (init : Bool) (a b : Nat) : Bool := !(q_T a b).2.2.2 || (init && decide ((q_T a b).1 = q_cn o))
/-- what writes the cells -/
def q_p3 (o : Nat) (init : Bool) (M : List va_E) (i : Instr) (a b pc : Nat) (st : List Value) : Option (Nat × List Value × List va_E) := match i with
  | .putfield _ => (match st with | v :: .ref id :: r => (match q_at M id with | some (.inr (ci, fs)) => if ci = a ∧ b < q_N a ∧ b < fs.length ∧ narrow (q_y a b) v = v ∧ fits (q_y a b) v = true ∧ q_fin o init a b = true then some (pc + 3, r, M.set id (.inr (ci, fs.set b v))) else none | _ => none) | _ => none)
  | .iastore => (match st with
    | .int x :: .int j :: .ref id :: r => (match q_at M id with | some (.inl (t, n, .inl f)) => if t = 0 ∧ ¬ (j < 0 ∨ n ≤ j.toNatClampNeg) then some (pc + 1, r, M.set id (.inl (t, n, .inl (upd f j.toNatClampNeg x)))) else none | _ => none)
    | _ => none)
  | .bastore => (match st with
    | .int x :: .int j :: .ref id :: r => (match q_at M id with | some (.inl (t, n, .inl f)) => if ¬ (j < 0 ∨ n ≤ j.toNatClampNeg) then (if t = 2 then some (pc + 1, r, M.set id (.inl (t, n, .inl (upd f j.toNatClampNeg (vp_nar .byte x))))) else none) else none | _ => none)
    | _ => none)
  | .lastore => (match st with
    | .long x :: .int j :: .ref id :: r => (match q_at M id with | some (.inl (t, n, .inr (.inl f))) => if t = 1 ∧ ¬ (j < 0 ∨ n ≤ j.toNatClampNeg) then some (pc + 1, r, M.set id (.inl (t, n, .inr (.inl (vp_updL f j.toNatClampNeg x))))) else none | _ => none)
    | _ => none)
  | .aastore => (match st with
    | .ref v :: .int j :: .ref id :: r => (match q_at M id, q_at M v with | some (.inl (t, n, .inr (.inr (.inr (.inr f))))), some (.inr (ci, _)) => if (t = 5 ∧ ci = 6 ∨ t = 6 ∧ ci = 9) ∧ ¬ (j < 0 ∨ n ≤ j.toNatClampNeg) then some (pc + 1, r, M.set id (.inl (t, n, .inr (.inr (.inr (.inr (va_up f j.toNatClampNeg (some v)))))))) else none | _, _ => none)
    | _ => none)
  | _ => none
/-- the cell of a new array of a primitive type -/
def q_na (t : Jvm.ClassFile.ArrayType) (n : Nat) : Option va_E := match t with
  | .int => some (.inl (0, n, .inl (fun _ => 0)))
  | .long => some (.inl (1, n, .inr (.inl (fun _ => 0))))
  | .byte => some (.inl (2, n, .inl (fun _ => 0)))
  | _ => none
/-- what makes a cell: the cell, its slots -/
def q_p4 (i : Instr) (a pc : Nat) (st : List Value) : Option (Nat × List Value × va_E × Nat) := match i with
  | .new _ => if a < 12 then some (pc + 3, st, .inr (a, (List.range (q_N a)).map (fun j => defaultValue (q_y a j))), q_N a) else none
  | .newarray t => (match st with | .int n :: r => if n < 0 ∨ 20000 < n.toNatClampNeg then none else (q_na t n.toNatClampNeg).map (fun e => (pc + 2, r, e, n.toNatClampNeg)) | _ => none)
  | .anewarray _ => (match st with | .int n :: r => if n < 0 ∨ 20000 < n.toNatClampNeg then none else if a = 5 ∨ a = 6 then some (pc + 3, r, .inl (a, n.toNatClampNeg, .inr (.inr (.inr (.inr (fun _ => none))))), n.toNatClampNeg) else none | _ => none)
  | _ => none
/-- one instruction that is no call and no end -/
def q_stp (X : q_X) (o : Nat) (init : Bool) (nL : Nat) (i : Instr) (a b pc : Nat) (lv : q_L) (st : List Value) (M : q_M) : Option (Nat × q_L × List Value × q_M) :=
  match q_p1 i a pc nL lv st with
  | some (pc', lv', st') => some (pc', lv', st', M)
  | none => match q_pk i a b pc st with
    | some (pc', st') => some (pc', lv, st', M)
    | none => match q_p2 X M.1 i a b pc st with
      | some (pc', st') => some (pc', lv, st', M)
      | none => match q_p3 o init M.1 i a b pc st with
        | some (pc', st', M') => some (pc', lv, st', (M', M.2))
        | none => match q_p4 i a pc st with
          | some (pc', st', e, n) => if M.1.length < q_big then some (pc', lv, .ref M.1.length :: st', (M.1 ++ [e], M.2.1 + 1, M.2.2 + n)) else none
          | none => none
/-- methods of the JDK that are told here, not walked: the answer, on the stack behind it -/
def q_jdk (X : q_X) (M : List va_E) (a : Nat) (st : List Value) : Option (List Value × List va_E) := match a with
  | 900 => (match st with | .ref id :: r => if q_big < id ∧ id - q_big - 1 < q_sc.length then some (.int (Int32.ofNat (q_sc.getD (id - q_big - 1) default).2.2.2.length) :: r, M) else none | _ => none)
  | 901 => (match st with | .int j :: .ref id :: r => if q_big < id ∧ id - q_big - 1 < q_sc.length ∧ ¬ (j < 0 ∨ (q_sc.getD (id - q_big - 1) default).2.2.2.length ≤ j.toNatClampNeg) then some (.int ((q_sc.getD (id - q_big - 1) default).2.2.2.getD j.toNatClampNeg 0) :: r, M) else none | _ => none)
  | 910 => (match st with | .int y :: .int x :: r => some (.int (if x < y then y else x) :: r, M) | _ => none)
  | 911 => (match st with | .int y :: .int x :: r => some (.int (if x < y then x else y) :: r, M) | _ => none)
  | 912 => (match st with | .int x :: r => some (.int (if 0 ≤ x then x else 0 - x) :: r, M) | _ => none)
  | 913 => (match st with
    | .int n :: .int dp :: .ref d :: .int sp :: .ref s :: r => if sp < 0 ∨ dp < 0 ∨ n < 0 then none else
      (match q_at M s, q_at M d with
       | some (.inl (0, n0, .inl f)), some (.inl (0, n1, .inl g)) => if sp.toNatClampNeg + n.toNatClampNeg ≤ n0 ∧ dp.toNatClampNeg + n.toNatClampNeg ≤ n1 then some (r, M.set d (.inl (0, n1, .inl (va_cpy f g sp.toNatClampNeg dp.toNatClampNeg n.toNatClampNeg)))) else none
       | some (.inl (1, n0, .inr (.inl f))), some (.inl (1, n1, .inr (.inl g))) => if sp.toNatClampNeg + n.toNatClampNeg ≤ n0 ∧ dp.toNatClampNeg + n.toNatClampNeg ≤ n1 then some (r, M.set d (.inl (1, n1, .inr (.inl (va_cpy f g sp.toNatClampNeg dp.toNatClampNeg n.toNatClampNeg))))) else none
       | _, _ => none)
    | _ => none)
  | 914 => (match st with | .ref _ :: r => some (r, M) | _ => none)
  | _ => none
/-- the end of a method: what it answers -/
def q_end (rt : Option FieldType) (i : Instr) (st : List Value) : Option (Option Value) := match i with
  | .return_ => (match rt, st with | none, [] => some none | _, _ => none)
  | .ireturn => (match rt, st with | some ty, [.int v] => if narrow ty (.int v) = .int v then some (some (.int v)) else none | _, _ => none)
  | .lreturn => (match rt, st with | some .long, [.long v] => some (some (.long v)) | _, _ => none)
  | .freturn => (match rt, st with | some .float, [.float v] => some (some (.float v)) | _, _ => none)
  | .dreturn => (match rt, st with | some .double, [.double v] => some (some (.double v)) | _, _ => none)
  | .areturn => (match rt, st with | some (.object _), [.ref v] => some (some (.ref v)) | _, _ => none)
  | _ => none
def q_exn (a : Nat) : Option String := match a with
  | 1000 => some "java/util/NoSuchElementException"
  | 1001 => some "java/lang/IllegalArgumentException"
  | _ => none
/-- the handler of a row of a method's table: it stores the exception and forgets it -/
def q_cty (E : String) (ct : Nat) : Bool := (E == "java/util/NoSuchElementException" && ct == 18) || (E == "java/lang/IllegalArgumentException" && ct == 13)
def q_hnd (hh : List (Nat × Nat × Nat × Nat)) (pc : Nat) (E : String) : Option Nat := (hh.find? (fun h => decide (h.1 ≤ pc) && decide (pc < h.2.1) && q_cty E h.2.2.2)).map (fun h => h.2.2.1)
def q_row (y : Nat) : q_MT := q_mt.getD y (⟨"", "", ""⟩, ⟨#[]⟩, 0, none, [], 0, 0, [])
def q_ins (k : List (Nat × Instr × Nat × Nat)) (pc : Nat) : Option (Instr × Nat × Nat) := (k.find? (fun e => e.1 == pc)).map (fun e => e.2)
/-- a call's arguments, off the stack: n, and the receiver -/
def q_args (k n : Nat) (st : List Value) : Option (List Value × List Value) := if k = 0 then (if n ≤ st.length then some ((st.take n).reverse, st.drop n) else none) else (if n + 1 ≤ st.length then some ((st.take (n + 1)).reverse, st.drop (n + 1)) else none)
def q_run (X : q_X) : Nat → Nat → Nat → Nat → q_L → List Value → q_M → Option (q_O × q_M)
  | 0, _, _, _, _, _, _ => none
  | f + 1, d, y, pc, lv, st, M =>
    match q_ins (q_row y).2.2.2.2.2.2.2 pc with
    | none => none
    | some (i, a, b) =>
      match q_end (q_row y).2.2.2.1 i st with
      | some v => some (.inl v, M)
      | none =>
        match q_stp X (q_row y).2.2.2.2.2.2.1 ((q_row y).2.2.2.2.2.1 == 2) (q_row y).2.2.1 i a b pc lv st M with
        | some (pc', lv', st', M') => q_run X f d y pc' lv' st' M'
        | none =>
          match i with
          | .new _ => if (q_row y).2.2.2.2.1 = [] then (match q_exn a with | some E => if (st.map fun v => v.category).sum ≤ 8 then some (.inr E, (M.1, M.2.1 + 1, M.2.2 + 6)) else none | none => none) else none
          | .invokestatic _ | .invokevirtual _ | .invokespecial _ =>
            if 900 ≤ a then
              (match q_jdk X M.1 a st with
               | some (st', M') => if (st.map fun v => v.category).sum ≤ 16 then q_run X f d y (pc + 3) lv st' (M', M.2) else none
               | none => none)
            else
              (match d, q_args (q_row a).2.2.2.2.2.1 b st with
               | d' + 1, some (as, rest) =>
                 if (rest.map fun v => v.category).sum ≤ 8 ∧ a < q_mt.length ∧ a ≠ q_law then
                   (match q_run X f d' a 0 (lv_args 0 as) [] M with
                    | some (.inl v, M') => q_run X f d y (pc + 3) lv (v.toList ++ rest) M'
                    | some (.inr E, M') =>
                      (match q_hnd (q_row y).2.2.2.2.1 pc E with
                       | some h => (match q_ins (q_row y).2.2.2.2.2.2.2 h with
                         | some (.astore k, _) => if k < (q_row y).2.2.1 then q_run X f d y (h + 2) ((q_s1 lv k .null).drop 1) [] M' else none
                         | some (.astore_n k, _) => if (k : Nat) < (q_row y).2.2.1 then q_run X f d y (h + 1) ((q_s1 lv (k : Nat) .null).drop 1) [] M' else none
                         | _ => none)
                       | none => if (q_row y).2.2.2.2.1 = [] then some (.inr E, M') else none)
                    | none => none)
                 else none
               | _, _ => none)
          | _ => none
end
section
/-! the tables of the mini-machine, held against the Statement's words by their places (a program lays the places) -/
def q_Tw : List Cond := lw_tbl.filter goodWord
theorem q_mem {w : Cond} {i : Nat} (h1 : lw_tbl[i]? = some w) (h2 : goodWord w = true) : w ∈ q_Tw := List.mem_filter.mpr ⟨List.mem_of_getElem? h1, h2⟩
theorem q_Tw_tbl {w : Cond} (h : w ∈ q_Tw) : w ∈ lw_tbl := (List.mem_filter.mp h).1
theorem q_Tw_good {w : Cond} (h : w ∈ q_Tw) : (w.onTables && w.keeps) = true ∨ ∃ ty, w = .arrayClass ty := good_of_word (List.mem_filter.mp h).2
/-- the word w stands at the place i, and is a good one -/
def q_is (i : Nat) (w : Cond) : Bool := decide (lw_tbl[i]? = some w) && goodWord w
theorem q_is_mem {i : Nat} {w : Cond} (h : q_is i w = true) : w ∈ q_Tw := by
  simp only [q_is, Bool.and_eq_true, decide_eq_true_eq] at h
  exact q_mem h.1 h.2
def q_mn (a : Nat) : MethodName := match a with
  | 900 => ⟨"java/lang/String", "length", "()I"⟩
  | 901 => ⟨"java/lang/String", "charAt", "(I)C"⟩
  | 910 => ⟨"java/lang/Math", "max", "(II)I"⟩
  | 911 => ⟨"java/lang/Math", "min", "(II)I"⟩
  | 912 => ⟨"java/lang/Math", "abs", "(I)I"⟩
  | 913 => ⟨"java/lang/System", "arraycopy", "(Ljava/lang/Object;ILjava/lang/Object;II)V"⟩
  | 914 => ⟨"java/lang/Object", "<init>", "()V"⟩
  | a => (q_row a).1
def q_kn (a : Nat) : String := match a with
  | 1000 => "java/util/NoSuchElementException"
  | 1001 => "java/lang/IllegalArgumentException"
  | a => q_cn a
def q_flp : List (Nat × Nat × Nat × Nat × Nat) := [(71, 8, 9, 8, 0),
  (72, 8, 19, 8, 1),
  (73, 8, 31, 8, 2),
  (74, 8, 22, 8, 3),
  (75, 8, 38, 8, 4),
  (76, 8, 41, 8, 5),
  (77, 8, 25, 8, 6),
  (78, 7, 66, 8, 6),
  (79, 8, 15, 8, 7),
  (80, 10, 136, 8, 7),
  (105, 4, 9, 4, 0),
  (106, 7, 80, 4, 0),
  (107, 10, 145, 4, 0),
  (108, 9, 80, 4, 0),
  (109, 4, 15, 4, 1),
  (110, 7, 83, 4, 1),
  (111, 10, 148, 4, 1),
  (112, 6, 146, 4, 1),
  (113, 4, 18, 4, 2),
  (114, 7, 90, 4, 2),
  (115, 10, 151, 4, 2),
  (116, 6, 163, 4, 2),
  (117, 4, 21, 4, 3),
  (118, 7, 101, 4, 3),
  (119, 6, 112, 4, 3),
  (120, 10, 169, 4, 3),
  (121, 9, 69, 4, 3),
  (137, 2, 9, 2, 0),
  (154, 9, 24, 9, 0),
  (155, 10, 185, 9, 0),
  (156, 6, 219, 9, 0),
  (157, 9, 27, 9, 1),
  (158, 10, 182, 9, 1),
  (159, 6, 182, 9, 1),
  (160, 9, 30, 9, 2),
  (161, 6, 206, 9, 2),
  (162, 10, 314, 9, 2),
  (163, 9, 9, 9, 3),
  (164, 10, 245, 9, 3),
  (165, 6, 212, 9, 3),
  (166, 9, 33, 9, 4),
  (167, 9, 15, 9, 5),
  (168, 6, 225, 9, 5),
  (169, 9, 18, 9, 6),
  (170, 10, 248, 9, 6),
  (171, 6, 222, 9, 6),
  (172, 9, 21, 9, 7),
  (173, 6, 109, 9, 7),
  (174, 10, 161, 9, 7),
  (175, 9, 36, 9, 8),
  (176, 6, 117, 9, 8),
  (177, 10, 166, 9, 8),
  (208, 5, 29, 6, 0),
  (209, 6, 44, 6, 0),
  (210, 6, 12, 6, 1),
  (211, 10, 157, 6, 1),
  (212, 6, 18, 6, 2),
  (213, 6, 22, 6, 3),
  (214, 7, 173, 6, 3),
  (215, 10, 275, 6, 3),
  (216, 6, 26, 6, 4),
  (217, 10, 272, 6, 4),
  (218, 6, 29, 6, 5),
  (219, 6, 32, 6, 6),
  (220, 6, 35, 6, 7),
  (221, 10, 255, 6, 7),
  (222, 6, 38, 6, 8),
  (223, 10, 263, 6, 8),
  (224, 6, 41, 6, 9),
  (225, 10, 269, 6, 9),
  (226, 6, 80, 6, 10),
  (227, 6, 57, 6, 11),
  (228, 7, 99, 6, 11),
  (229, 10, 154, 6, 11),
  (230, 6, 61, 6, 12),
  (231, 7, 113, 6, 12),
  (232, 10, 172, 6, 12),
  (233, 6, 64, 6, 13),
  (234, 7, 117, 6, 13),
  (235, 10, 175, 6, 13),
  (236, 6, 68, 6, 14),
  (237, 7, 106, 6, 14),
  (238, 10, 338, 6, 14),
  (239, 6, 71, 6, 15),
  (240, 7, 125, 6, 15),
  (241, 10, 332, 6, 15),
  (242, 6, 84, 6, 16),
  (243, 10, 191, 6, 16),
  (244, 6, 87, 6, 17),
  (245, 10, 188, 6, 17),
  (246, 6, 74, 6, 18),
  (247, 10, 194, 6, 18),
  (297, 1, 11, 1, 0),
  (298, 1, 20, 1, 1),
  (299, 1, 24, 1, 2),
  (300, 10, 351, 1, 2),
  (318, 7, 12, 7, 0),
  (319, 10, 119, 7, 0),
  (320, 7, 23, 7, 1),
  (321, 10, 123, 7, 1),
  (322, 7, 27, 7, 2),
  (323, 7, 31, 7, 3),
  (324, 7, 120, 7, 4),
  (342, 3, 21, 3, 0),
  (343, 3, 9, 3, 1),
  (344, 3, 15, 3, 2),
  (345, 3, 18, 3, 3),
  (368, 5, 25, 5, 0),
  (369, 5, 35, 5, 1),
  (370, 5, 13, 5, 2),
  (371, 5, 17, 5, 3),
  (372, 5, 21, 5, 4),
  (398, 0, 9, 0, 0),
  (467, 10, 9, 10, 0),
  (468, 10, 104, 10, 1),
  (469, 10, 18, 10, 2),
  (470, 10, 25, 10, 3),
  (471, 10, 32, 10, 4),
  (472, 10, 41, 10, 5),
  (473, 10, 48, 10, 6),
  (474, 10, 52, 10, 7),
  (475, 10, 129, 10, 8),
  (476, 10, 60, 10, 9),
  (477, 10, 69, 10, 10),
  (478, 10, 78, 10, 11),
  (479, 10, 85, 10, 12),
  (513, 11, 7, 11, 0),
  (514, 11, 19, 11, 1)]
def q_mlp : List (Nat × Nat × Nat × Nat) := [(59, 11, 128, 116),
  (62, 10, 1, 914),
  (67, 10, 15, 88),
  (70, 8, 3, 914),
  (101, 10, 24, 28),
  (104, 4, 3, 914),
  (133, 10, 31, 11),
  (136, 2, 3, 914),
  (144, 10, 38, 49),
  (147, 6, 3, 914),
  (150, 6, 11, 105),
  (153, 9, 3, 914),
  (197, 6, 48, 50),
  (201, 6, 51, 311),
  (204, 6, 77, 51),
  (290, 10, 47, 6),
  (293, 1, 3, 914),
  (296, 1, 17, 49),
  (310, 10, 57, 78),
  (313, 7, 3, 914),
  (315, 7, 11, 28),
  (317, 7, 20, 49),
  (338, 10, 66, 15),
  (341, 3, 3, 914),
  (361, 10, 75, 38),
  (364, 5, 3, 914),
  (367, 5, 36, 105),
  (394, 10, 84, 0),
  (397, 0, 3, 914),
  (404, 10, 89, 30),
  (408, 10, 93, 12),
  (412, 2, 15, 310),
  (416, 2, 22, 13),
  (420, 2, 26, 14),
  (424, 2, 30, 309),
  (427, 10, 97, 55),
  (431, 6, 120, 31),
  (435, 6, 124, 14),
  (436, 6, 130, 59),
  (440, 6, 153, 60),
  (444, 6, 166, 315),
  (447, 6, 170, 61),
  (451, 6, 134, 37),
  (455, 10, 101, 53),
  (459, 6, 102, 107),
  (463, 6, 106, 54),
  (509, 11, 127, 170),
  (512, 11, 1, 914),
  (520, 11, 129, 175),
  (524, 11, 40, 173),
  (528, 11, 44, 911),
  (535, 11, 29, 171),
  (539, 11, 13, 900),
  (549, 11, 23, 901),
  (587, 11, 55, 172),
  (600, 11, 75, 174),
  (604, 11, 34, 117),
  (608, 10, 108, 118),
  (612, 11, 79, 119),
  (678, 10, 115, 79),
  (682, 7, 35, 89),
  (686, 8, 28, 90),
  (690, 8, 34, 91),
  (694, 8, 44, 92),
  (699, 8, 48, 911),
  (700, 7, 41, 50),
  (701, 7, 44, 80),
  (706, 7, 72, 101),
  (710, 8, 75, 99),
  (714, 8, 63, 93),
  (718, 8, 67, 98),
  (722, 8, 54, 900),
  (723, 8, 59, 901),
  (724, 8, 78, 94),
  (728, 7, 76, 104),
  (732, 8, 85, 103),
  (736, 7, 86, 32),
  (740, 4, 24, 30),
  (741, 4, 28, 911),
  (743, 7, 95, 99),
  (744, 7, 47, 81),
  (752, 7, 50, 82),
  (759, 7, 130, 102),
  (763, 8, 82, 100),
  (767, 8, 71, 97),
  (771, 7, 53, 93),
  (772, 7, 57, 95),
  (776, 7, 60, 83),
  (781, 7, 135, 84),
  (785, 7, 146, 85),
  (789, 7, 152, 30),
  (790, 7, 155, 103),
  (791, 7, 158, 63),
  (795, 6, 174, 314),
  (798, 7, 162, 58),
  (802, 6, 157, 352),
  (808, 7, 143, 94),
  (809, 7, 166, 59),
  (810, 7, 170, 90),
  (811, 7, 149, 96),
  (816, 7, 140, 86),
  (820, 7, 177, 309),
  (821, 7, 183, 310),
  (822, 7, 63, 87),
  (826, 7, 187, 12),
  (827, 7, 192, 62),
  (831, 7, 196, 55),
  (832, 7, 200, 56),
  (836, 6, 137, 30),
  (837, 6, 140, 57),
  (841, 6, 149, 58),
  (842, 6, 143, 63),
  (843, 7, 203, 53),
  (844, 10, 120, 29),
  (848, 10, 124, 52),
  (852, 6, 90, 106),
  (856, 6, 94, 313),
  (859, 12, 7, 911),
  (860, 12, 13, 913),
  (863, 6, 98, 312),
  (866, 10, 126, 7),
  (870, 10, 133, 31),
  (871, 11, 83, 120),
  (875, 11, 86, 122),
  (879, 10, 178, 64),
  (898, 11, 88, 176),
  (902, 11, 93, 125),
  (906, 10, 200, 166),
  (910, 10, 209, 63),
  (911, 11, 133, 178),
  (914, 11, 136, 179),
  (917, 11, 99, 126),
  (921, 10, 212, 167),
  (925, 10, 215, 60),
  (926, 10, 219, 352),
  (927, 11, 102, 127),
  (931, 10, 225, 314),
  (932, 11, 154, 135),
  (936, 10, 259, 309),
  (937, 10, 266, 35),
  (941, 11, 140, 181),
  (944, 11, 163, 132),
  (948, 11, 166, 180),
  (951, 11, 157, 123),
  (955, 10, 203, 33),
  (959, 11, 160, 124),
  (963, 10, 206, 34),
  (967, 11, 170, 133),
  (971, 11, 173, 131),
  (975, 10, 241, 108),
  (979, 9, 39, 33),
  (980, 9, 45, 34),
  (981, 11, 175, 134),
  (985, 10, 251, 110),
  (989, 9, 48, 108),
  (990, 11, 179, 128),
  (994, 10, 231, 168),
  (998, 10, 234, 36),
  (1002, 11, 182, 129),
  (1006, 10, 237, 65),
  (1010, 6, 178, 64),
  (1011, 6, 185, 114),
  (1015, 9, 72, 36),
  (1016, 9, 76, 115),
  (1021, 11, 185, 130),
  (1025, 11, 143, 182),
  (1028, 11, 188, 136),
  (1032, 11, 191, 137),
  (1036, 11, 194, 151),
  (1040, 11, 146, 183),
  (1043, 11, 105, 152),
  (1047, 10, 308, 8),
  (1051, 1, 27, 10),
  (1055, 1, 31, 52),
  (1056, 1, 35, 911),
  (1057, 10, 311, 66),
  (1061, 6, 189, 33),
  (1062, 6, 192, 67),
  (1066, 6, 215, 309),
  (1067, 6, 198, 310),
  (1068, 6, 195, 316),
  (1072, 6, 202, 111),
  (1076, 9, 52, 37),
  (1077, 6, 209, 68),
  (1081, 6, 228, 112),
  (1085, 9, 55, 113),
  (1089, 9, 63, 910),
  (1092, 9, 59, 107),
  (1093, 6, 232, 69),
  (1097, 6, 235, 70),
  (1101, 6, 238, 912),
  (1104, 11, 108, 153),
  (1108, 10, 317, 169),
  (1112, 10, 321, 74),
  (1116, 6, 256, 75),
  (1120, 6, 262, 65),
  (1121, 6, 265, 108),
  (1122, 6, 259, 76),
  (1126, 6, 268, 110),
  (1127, 6, 272, 77),
  (1131, 6, 276, 34),
  (1132, 11, 198, 910),
  (1133, 11, 201, 163),
  (1137, 10, 354, 9),
  (1141, 1, 41, 910),
  (1142, 11, 150, 177),
  (1145, 11, 96, 155),
  (1150, 10, 329, 51),
  (1151, 10, 335, 37),
  (1152, 11, 111, 154),
  (1156, 10, 324, 310),
  (1157, 11, 114, 156),
  (1161, 10, 341, 54),
  (1162, 11, 117, 157),
  (1166, 11, 120, 158),
  (1170, 11, 123, 159)]
def q_klp : List (Nat × Nat × Nat × Nat) := [(57, 11, 35, 10),
  (65, 10, 13, 8),
  (99, 10, 22, 4),
  (131, 10, 29, 2),
  (142, 10, 36, 6),
  (148, 6, 9, 9),
  (288, 10, 45, 1),
  (294, 1, 9, 6),
  (308, 10, 55, 7),
  (314, 7, 9, 4),
  (316, 7, 18, 6),
  (336, 10, 64, 3),
  (359, 10, 73, 5),
  (365, 5, 11, 9),
  (392, 10, 82, 0),
  (507, 11, 8, 11),
  (616, 10, 112, 1001),
  (883, 10, 197, 1000)]
def q_cip : List (Nat × Nat × Nat × Nat) := [(415, 2, 21, 100003),
  (527, 11, 33, 1073741823),
  (531, 11, 50, 112320),
  (532, 11, 51, 224640),
  (533, 11, 52, 100000),
  (698, 8, 47, 1000000),
  (758, 7, 129, 99999),
  (901, 11, 92, 100003),
  (1149, 10, 328, 99999)]
def q_clp : List (Nat × Nat × Nat × Nat) := [(805, 14, 314, 6148914691236517205),
  (806, 14, 316, 3689348814741910323),
  (807, 14, 318, 1085102592571150095),
  (1020, 9, 83, 18446744073709551615),
  (1071, 12, 19, 18446744073709551615)]
abbrev q_fw (o i a b : Nat) : Cond := .fieldLink (q_cn o) i (q_T a b).1 (q_T a b).2.1 (q_T a b).2.2.1
/-- words at places, in the order of the places: one walk along the list -/
def q_walk : Nat → List Cond → List (Nat × Cond) → Bool
  | _, _, [] => true
  | _, [], _ :: _ => false
  | k, w :: ws, (p, v) :: ps => if k = p then (decide (w = v) && goodWord v && q_walk (k + 1) ws ps) else q_walk (k + 1) ws ((p, v) :: ps)
theorem q_walk_mem : ∀ (ws : List Cond) (k : Nat) (ps : List (Nat × Cond)), q_walk k ws ps = true → ∀ x ∈ ps, x.2 ∈ ws ∧ goodWord x.2 = true
  | ws, k, [], _, x, hx => absurd hx List.not_mem_nil
  | [], k, _ :: _, h, x, hx => by simp [q_walk] at h
  | w :: ws, k, (p, v) :: ps, h, x, hx => by
    unfold q_walk at h
    split at h
    · simp only [Bool.and_eq_true, decide_eq_true_eq] at h
      obtain ⟨⟨h1, h2⟩, h3⟩ := h
      rcases List.mem_cons.mp hx with rfl | hx
      · exact ⟨by rw [h1]; exact List.mem_cons_self, h2⟩
      · obtain ⟨a, b⟩ := q_walk_mem ws (k + 1) ps h3 x hx
        exact ⟨List.mem_cons_of_mem _ a, b⟩
    · obtain ⟨a, b⟩ := q_walk_mem ws (k + 1) ((p, v) :: ps) h x hx
      exact ⟨List.mem_cons_of_mem _ a, b⟩
theorem q_walk_Tw {ps : List (Nat × Cond)} (h : q_walk 0 lw_tbl ps = true) {x : Nat × Cond} (hx : x ∈ ps) : x.2 ∈ q_Tw := List.mem_filter.mpr (q_walk_mem _ _ _ h x hx)
set_option maxRecDepth 100000 in
theorem q_flp_ok : q_walk 0 lw_tbl (q_flp.map (fun x => (x.1, q_fw x.2.1 x.2.2.1 x.2.2.2.1 x.2.2.2.2))) = true := by decide +kernel
set_option maxRecDepth 100000 in
theorem q_mlp_ok : q_walk 0 lw_tbl (q_mlp.map (fun x => (x.1, .methodLink (q_cn x.2.1) x.2.2.1 (q_mn x.2.2.2)))) = true := by decide +kernel
set_option maxRecDepth 100000 in
theorem q_klp_ok : q_walk 0 lw_tbl (q_klp.map (fun x => (x.1, .classLink (q_cn x.2.1) x.2.2.1 (q_kn x.2.2.2)))) = true := by decide +kernel
set_option maxRecDepth 100000 in
theorem q_cip_ok : q_walk 0 lw_tbl (q_cip.map (fun x => (x.1, .constant (q_cn x.2.1) x.2.2.1 (Int32.ofNat x.2.2.2)))) = true := by decide +kernel
set_option maxRecDepth 100000 in
theorem q_clp_ok : q_walk 0 lw_tbl (q_clp.map (fun x => (x.1, .constantLong (q_cn x.2.1) x.2.2.1 (Int64.ofNat x.2.2.2)))) = true := by decide +kernel
end
section
/-- a method's parameters -/
def q_nar : List Nat := [0, 2, 2, 2, 2, 2, 1, 0, 1, 1, 1, 0, 2, 2, 1, 1, 2, 2, 2, 2, 2, 2, 2, 2, 2, 2, 2, 2, 0, 1, 0, 0, 0, 1, 1, 1, 1, 1, 1, 2, 2, 2, 2, 2, 2, 2, 2, 2, 2, 1, 0, 0, 1, 0, 0, 1, 1, 0, 1, 2, 1, 2, 0, 1, 0, 0, 1, 2, 0, 0, 1, 2, 2, 2, 0, 0, 0, 2, 2, 1, 0, 0, 0, 1, 1, 1, 0, 0, 1, 1, 0, 1, 1, 0, 1, 0, 0, 1, 1, 1, 1, 1, 1, 2, 2, 0, 1, 1, 2, 2, 2, 2, 3, 3, 3, 2, 0, 5, 1, 1, 0, 2, 1, 1, 1, 1, 1, 2, 2, 1, 0, 1, 0, 0, 1, 2, 2, 1, 2, 2, 2, 2, 2, 2, 2, 2, 2, 2, 2, 2, 2, 1, 1, 1, 2, 1, 1, 1, 1, 1, 2, 2, 2, 0, 2, 2, 1, 1, 1, 3, 0, 1, 1, 2, 1, 2, 5, 2, 2, 1, 5, 1, 1, 2, 2, 2, 2, 2, 2, 2, 2, 2, 2, 2, 2, 2, 2, 2, 2, 2, 2, 2, 2, 2, 2, 2, 2, 2, 2, 2, 2, 2, 2, 2, 2, 2, 2, 2, 2, 2, 2, 2, 2, 2, 2, 2, 2, 2, 2, 2, 2, 2, 2, 2, 2, 2, 2, 2, 2, 2, 2, 2, 2, 2, 2, 2, 2, 2, 2, 2, 2, 2, 2, 2, 2, 2, 2, 2, 2, 2, 2, 2, 2, 2, 2, 2, 2, 2, 2, 2, 2, 2, 2, 2, 2, 2, 2, 2, 2, 2, 2, 2, 2, 2, 2, 2, 2, 2, 2, 2, 2, 2, 2, 2, 2, 2, 2, 2, 2, 2, 2, 2, 2, 2, 2, 2, 2, 2, 2, 2, 3, 2, 2, 2, 2, 2, 2, 2, 2, 2, 2, 2, 2, 2, 2, 2, 2, 2, 2, 2, 2, 2, 2, 2, 2, 2, 2, 2, 2, 2, 2, 2, 2, 2, 2, 2, 2, 2, 2, 2, 2, 1, 1]
abbrev q_cw (x : q_MT) : Cond := if x.2.2.2.2.1 = [] then .code x.1 x.2.1 x.2.2.1 x.2.2.2.1 else .codeWith x.1 x.2.1 x.2.2.1 x.2.2.2.1 x.2.2.2.2.1
/-- a method's words: code, initialized, static or instance, selects -/
def q_mP (x : q_MT) : Prop := (q_cw x ∈ lw_tbl ∧ goodWord (q_cw x) = true) ∧ Cond.initialized x.1.cls ∈ lw_tbl ∧ (match x.2.2.2.2.2.1 with
  | 0 => Cond.static x.1 ∈ lw_tbl
  | 1 => Cond.instanceMethod x.1 ∈ lw_tbl ∧ Cond.selects x.1.cls x.1 x.1 ∈ lw_tbl
  | _ => Cond.instanceMethod x.1 ∈ lw_tbl)
set_option maxRecDepth 100000 in
theorem q_mw0 : ∀ x ∈ q_m0, q_mP x := (List.forall_mem_cons.mpr ⟨⟨⟨(List.mem_append_right _ (List.mem_append_right _ (List.mem_append_left _ (List.mem_of_getElem? (i := 124) rfl)))), rfl⟩, (List.mem_append_right _ (List.mem_append_left _ (List.mem_of_getElem? (i := 12) rfl))), (List.mem_append_right _ (List.mem_append_right _ (List.mem_append_left _ (List.mem_of_getElem? (i := 123) rfl))))⟩,
  (List.forall_mem_cons.mpr ⟨⟨⟨(List.mem_append_right _ (List.mem_append_right _ (List.mem_append_left _ (List.mem_of_getElem? (i := 154) rfl)))), rfl⟩, (List.mem_append_right _ (List.mem_append_left _ (List.mem_of_getElem? (i := 7) rfl))), (List.mem_append_right _ (List.mem_append_right _ (List.mem_append_left _ (List.mem_of_getElem? (i := 153) rfl))))⟩,
  (List.forall_mem_cons.mpr ⟨⟨⟨(List.mem_append_right _ (List.mem_append_right _ (List.mem_append_left _ (List.mem_of_getElem? (i := 154) rfl)))), rfl⟩, (List.mem_append_right _ (List.mem_append_left _ (List.mem_of_getElem? (i := 7) rfl))), (List.mem_append_right _ (List.mem_append_right _ (List.mem_append_left _ (List.mem_of_getElem? (i := 153) rfl))))⟩,
  (List.forall_mem_cons.mpr ⟨⟨⟨(List.mem_append_right _ (List.mem_append_right _ (List.mem_append_left _ (List.mem_of_getElem? (i := 154) rfl)))), rfl⟩, (List.mem_append_right _ (List.mem_append_left _ (List.mem_of_getElem? (i := 7) rfl))), (List.mem_append_right _ (List.mem_append_right _ (List.mem_append_left _ (List.mem_of_getElem? (i := 153) rfl))))⟩,
  (List.forall_mem_cons.mpr ⟨⟨⟨(List.mem_append_right _ (List.mem_append_right _ (List.mem_append_left _ (List.mem_of_getElem? (i := 154) rfl)))), rfl⟩, (List.mem_append_right _ (List.mem_append_left _ (List.mem_of_getElem? (i := 7) rfl))), (List.mem_append_right _ (List.mem_append_right _ (List.mem_append_left _ (List.mem_of_getElem? (i := 153) rfl))))⟩,
  (List.forall_mem_cons.mpr ⟨⟨⟨(List.mem_append_right _ (List.mem_append_right _ (List.mem_append_left _ (List.mem_of_getElem? (i := 154) rfl)))), rfl⟩, (List.mem_append_right _ (List.mem_append_left _ (List.mem_of_getElem? (i := 7) rfl))), (List.mem_append_right _ (List.mem_append_right _ (List.mem_append_left _ (List.mem_of_getElem? (i := 153) rfl))))⟩,
  (List.forall_mem_cons.mpr ⟨⟨⟨(List.mem_append_right _ (List.mem_append_right _ (List.mem_append_left _ (List.mem_of_getElem? (i := 20) rfl)))), rfl⟩, (List.mem_append_right _ (List.mem_append_left _ (List.mem_of_getElem? (i := 8) rfl))), (List.mem_append_right _ (List.mem_append_right _ (List.mem_append_left _ (List.mem_of_getElem? (i := 19) rfl))))⟩,
  (List.forall_mem_cons.mpr ⟨⟨⟨(List.mem_append_right _ (List.mem_append_right _ (List.mem_append_right _ (List.mem_append_right _ (List.mem_append_left _ (List.mem_of_getElem? (i := 117) rfl)))))), rfl⟩, (List.mem_append_right _ (List.mem_append_left _ (List.mem_of_getElem? (i := 8) rfl))), ⟨(List.mem_append_right _ (List.mem_append_right _ (List.mem_append_right _ (List.mem_append_right _ (List.mem_append_left _ (List.mem_of_getElem? (i := 115) rfl)))))), (List.mem_append_right _ (List.mem_append_right _ (List.mem_append_right _ (List.mem_append_right _ (List.mem_append_left _ (List.mem_of_getElem? (i := 116) rfl))))))⟩⟩,
  (List.forall_mem_cons.mpr ⟨⟨⟨(List.mem_append_right _ (List.mem_append_right _ (List.mem_append_right _ (List.mem_append_right _ (List.mem_append_right _ (List.mem_of_getElem? (i := 58) rfl)))))), rfl⟩, (List.mem_append_right _ (List.mem_append_left _ (List.mem_of_getElem? (i := 8) rfl))), ⟨(List.mem_append_right _ (List.mem_append_right _ (List.mem_append_right _ (List.mem_append_right _ (List.mem_append_right _ (List.mem_of_getElem? (i := 56) rfl)))))), (List.mem_append_right _ (List.mem_append_right _ (List.mem_append_right _ (List.mem_append_right _ (List.mem_append_right _ (List.mem_of_getElem? (i := 57) rfl))))))⟩⟩,
  (List.forall_mem_cons.mpr ⟨⟨⟨(List.mem_append_right _ (List.mem_append_right _ (List.mem_append_right _ (List.mem_append_right _ (List.mem_append_right _ (List.mem_of_getElem? (i := 148) rfl)))))), rfl⟩, (List.mem_append_right _ (List.mem_append_left _ (List.mem_of_getElem? (i := 8) rfl))), ⟨(List.mem_append_right _ (List.mem_append_right _ (List.mem_append_right _ (List.mem_append_right _ (List.mem_append_right _ (List.mem_of_getElem? (i := 146) rfl)))))), (List.mem_append_right _ (List.mem_append_right _ (List.mem_append_right _ (List.mem_append_right _ (List.mem_append_right _ (List.mem_of_getElem? (i := 147) rfl))))))⟩⟩,
  (List.forall_mem_cons.mpr ⟨⟨⟨(List.mem_append_right _ (List.mem_append_right _ (List.mem_append_right _ (List.mem_append_right _ (List.mem_append_right _ (List.mem_of_getElem? (i := 62) rfl)))))), rfl⟩, (List.mem_append_right _ (List.mem_append_left _ (List.mem_of_getElem? (i := 8) rfl))), ⟨(List.mem_append_right _ (List.mem_append_right _ (List.mem_append_right _ (List.mem_append_right _ (List.mem_append_right _ (List.mem_of_getElem? (i := 61) rfl)))))), (List.mem_append_left _ (List.mem_map.mpr ⟨(⟨"FadingTrumps$History", "rowAt", "(I)LFadingTrumps$Table;"⟩, 3), (List.mem_append_right _ (List.mem_of_getElem? (i := 7) rfl)), rfl⟩))⟩⟩,
  (List.forall_mem_cons.mpr ⟨⟨⟨(List.mem_append_right _ (List.mem_append_left _ (List.mem_of_getElem? (i := 103) rfl))), rfl⟩, (List.mem_append_right _ (List.mem_append_left _ (List.mem_of_getElem? (i := 4) rfl))), (List.mem_append_right _ (List.mem_append_left _ (List.mem_of_getElem? (i := 102) rfl)))⟩,
  (List.forall_mem_cons.mpr ⟨⟨⟨(List.mem_append_right _ (List.mem_append_right _ (List.mem_append_left _ (List.mem_of_getElem? (i := 139) rfl)))), rfl⟩, (List.mem_append_right _ (List.mem_append_left _ (List.mem_of_getElem? (i := 4) rfl))), ⟨(List.mem_append_right _ (List.mem_append_right _ (List.mem_append_left _ (List.mem_of_getElem? (i := 137) rfl)))), (List.mem_append_right _ (List.mem_append_right _ (List.mem_append_left _ (List.mem_of_getElem? (i := 138) rfl))))⟩⟩,
  (List.forall_mem_cons.mpr ⟨⟨⟨(List.mem_append_right _ (List.mem_append_right _ (List.mem_append_left _ (List.mem_of_getElem? (i := 147) rfl)))), rfl⟩, (List.mem_append_right _ (List.mem_append_left _ (List.mem_of_getElem? (i := 4) rfl))), ⟨(List.mem_append_right _ (List.mem_append_right _ (List.mem_append_left _ (List.mem_of_getElem? (i := 146) rfl)))), (List.mem_append_left _ (List.mem_map.mpr ⟨(⟨"FadingTrumps$Pack", "exchange", "(II)V"⟩, 1), (List.mem_append_left _ (List.mem_of_getElem? (i := 0) rfl)), rfl⟩))⟩⟩,
  (List.forall_mem_cons.mpr ⟨⟨⟨(List.mem_append_right _ (List.mem_append_right _ (List.mem_append_left _ (List.mem_of_getElem? (i := 151) rfl)))), rfl⟩, (List.mem_append_right _ (List.mem_append_left _ (List.mem_of_getElem? (i := 4) rfl))), ⟨(List.mem_append_right _ (List.mem_append_right _ (List.mem_append_left _ (List.mem_of_getElem? (i := 149) rfl)))), (List.mem_append_right _ (List.mem_append_right _ (List.mem_append_left _ (List.mem_of_getElem? (i := 150) rfl))))⟩⟩,
  (List.forall_mem_cons.mpr ⟨⟨⟨(List.mem_append_right _ (List.mem_append_right _ (List.mem_append_left _ (List.mem_of_getElem? (i := 68) rfl)))), rfl⟩, (List.mem_append_right _ (List.mem_append_left _ (List.mem_of_getElem? (i := 10) rfl))), (List.mem_append_right _ (List.mem_append_right _ (List.mem_append_left _ (List.mem_of_getElem? (i := 67) rfl))))⟩,
  (List.forall_mem_cons.mpr ⟨⟨⟨(List.mem_append_right _ (List.mem_append_right _ (List.mem_append_left _ (List.mem_of_getElem? (i := 154) rfl)))), rfl⟩, (List.mem_append_right _ (List.mem_append_left _ (List.mem_of_getElem? (i := 7) rfl))), (List.mem_append_right _ (List.mem_append_right _ (List.mem_append_left _ (List.mem_of_getElem? (i := 153) rfl))))⟩,
  (List.forall_mem_cons.mpr ⟨⟨⟨(List.mem_append_right _ (List.mem_append_right _ (List.mem_append_left _ (List.mem_of_getElem? (i := 154) rfl)))), rfl⟩, (List.mem_append_right _ (List.mem_append_left _ (List.mem_of_getElem? (i := 7) rfl))), (List.mem_append_right _ (List.mem_append_right _ (List.mem_append_left _ (List.mem_of_getElem? (i := 153) rfl))))⟩,
  (List.forall_mem_cons.mpr ⟨⟨⟨(List.mem_append_right _ (List.mem_append_right _ (List.mem_append_left _ (List.mem_of_getElem? (i := 154) rfl)))), rfl⟩, (List.mem_append_right _ (List.mem_append_left _ (List.mem_of_getElem? (i := 7) rfl))), (List.mem_append_right _ (List.mem_append_right _ (List.mem_append_left _ (List.mem_of_getElem? (i := 153) rfl))))⟩,
  (List.forall_mem_cons.mpr ⟨⟨⟨(List.mem_append_right _ (List.mem_append_right _ (List.mem_append_left _ (List.mem_of_getElem? (i := 154) rfl)))), rfl⟩, (List.mem_append_right _ (List.mem_append_left _ (List.mem_of_getElem? (i := 7) rfl))), (List.mem_append_right _ (List.mem_append_right _ (List.mem_append_left _ (List.mem_of_getElem? (i := 153) rfl))))⟩,
  (fun _ h => absurd h List.not_mem_nil)⟩)⟩)⟩)⟩)⟩)⟩)⟩)⟩)⟩)⟩)⟩)⟩)⟩)⟩)⟩)⟩)⟩)⟩)⟩)⟩)
set_option maxRecDepth 100000 in
theorem q_mw1 : ∀ x ∈ q_m1, q_mP x := (List.forall_mem_cons.mpr ⟨⟨⟨(List.mem_append_right _ (List.mem_append_right _ (List.mem_append_left _ (List.mem_of_getElem? (i := 154) rfl)))), rfl⟩, (List.mem_append_right _ (List.mem_append_left _ (List.mem_of_getElem? (i := 7) rfl))), (List.mem_append_right _ (List.mem_append_right _ (List.mem_append_left _ (List.mem_of_getElem? (i := 153) rfl))))⟩,
  (List.forall_mem_cons.mpr ⟨⟨⟨(List.mem_append_right _ (List.mem_append_right _ (List.mem_append_left _ (List.mem_of_getElem? (i := 154) rfl)))), rfl⟩, (List.mem_append_right _ (List.mem_append_left _ (List.mem_of_getElem? (i := 7) rfl))), (List.mem_append_right _ (List.mem_append_right _ (List.mem_append_left _ (List.mem_of_getElem? (i := 153) rfl))))⟩,
  (List.forall_mem_cons.mpr ⟨⟨⟨(List.mem_append_right _ (List.mem_append_right _ (List.mem_append_left _ (List.mem_of_getElem? (i := 154) rfl)))), rfl⟩, (List.mem_append_right _ (List.mem_append_left _ (List.mem_of_getElem? (i := 7) rfl))), (List.mem_append_right _ (List.mem_append_right _ (List.mem_append_left _ (List.mem_of_getElem? (i := 153) rfl))))⟩,
  (List.forall_mem_cons.mpr ⟨⟨⟨(List.mem_append_right _ (List.mem_append_right _ (List.mem_append_left _ (List.mem_of_getElem? (i := 154) rfl)))), rfl⟩, (List.mem_append_right _ (List.mem_append_left _ (List.mem_of_getElem? (i := 7) rfl))), (List.mem_append_right _ (List.mem_append_right _ (List.mem_append_left _ (List.mem_of_getElem? (i := 153) rfl))))⟩,
  (List.forall_mem_cons.mpr ⟨⟨⟨(List.mem_append_right _ (List.mem_append_right _ (List.mem_append_left _ (List.mem_of_getElem? (i := 154) rfl)))), rfl⟩, (List.mem_append_right _ (List.mem_append_left _ (List.mem_of_getElem? (i := 7) rfl))), (List.mem_append_right _ (List.mem_append_right _ (List.mem_append_left _ (List.mem_of_getElem? (i := 153) rfl))))⟩,
  (List.forall_mem_cons.mpr ⟨⟨⟨(List.mem_append_right _ (List.mem_append_right _ (List.mem_append_left _ (List.mem_of_getElem? (i := 154) rfl)))), rfl⟩, (List.mem_append_right _ (List.mem_append_left _ (List.mem_of_getElem? (i := 7) rfl))), (List.mem_append_right _ (List.mem_append_right _ (List.mem_append_left _ (List.mem_of_getElem? (i := 153) rfl))))⟩,
  (List.forall_mem_cons.mpr ⟨⟨⟨(List.mem_append_right _ (List.mem_append_right _ (List.mem_append_left _ (List.mem_of_getElem? (i := 154) rfl)))), rfl⟩, (List.mem_append_right _ (List.mem_append_left _ (List.mem_of_getElem? (i := 7) rfl))), (List.mem_append_right _ (List.mem_append_right _ (List.mem_append_left _ (List.mem_of_getElem? (i := 153) rfl))))⟩,
  (List.forall_mem_cons.mpr ⟨⟨⟨(List.mem_append_right _ (List.mem_append_right _ (List.mem_append_left _ (List.mem_of_getElem? (i := 154) rfl)))), rfl⟩, (List.mem_append_right _ (List.mem_append_left _ (List.mem_of_getElem? (i := 7) rfl))), (List.mem_append_right _ (List.mem_append_right _ (List.mem_append_left _ (List.mem_of_getElem? (i := 153) rfl))))⟩,
  (List.forall_mem_cons.mpr ⟨⟨⟨(List.mem_append_right _ (List.mem_append_left _ (List.mem_of_getElem? (i := 71) rfl))), rfl⟩, (List.mem_append_right _ (List.mem_append_left _ (List.mem_of_getElem? (i := 3) rfl))), (List.mem_append_right _ (List.mem_append_left _ (List.mem_of_getElem? (i := 70) rfl)))⟩,
  (List.forall_mem_cons.mpr ⟨⟨⟨(List.mem_append_right _ (List.mem_append_right _ (List.mem_append_right _ (List.mem_append_right _ (List.mem_append_left _ (List.mem_of_getElem? (i := 95) rfl)))))), rfl⟩, (List.mem_append_right _ (List.mem_append_left _ (List.mem_of_getElem? (i := 3) rfl))), ⟨(List.mem_append_right _ (List.mem_append_right _ (List.mem_append_right _ (List.mem_append_right _ (List.mem_append_left _ (List.mem_of_getElem? (i := 93) rfl)))))), (List.mem_append_right _ (List.mem_append_right _ (List.mem_append_right _ (List.mem_append_right _ (List.mem_append_left _ (List.mem_of_getElem? (i := 94) rfl))))))⟩⟩,
  (List.forall_mem_cons.mpr ⟨⟨⟨(List.mem_append_right _ (List.mem_append_right _ (List.mem_append_left _ (List.mem_of_getElem? (i := 135) rfl)))), rfl⟩, (List.mem_append_right _ (List.mem_append_left _ (List.mem_of_getElem? (i := 3) rfl))), ⟨(List.mem_append_right _ (List.mem_append_right _ (List.mem_append_left _ (List.mem_of_getElem? (i := 133) rfl)))), (List.mem_append_right _ (List.mem_append_right _ (List.mem_append_left _ (List.mem_of_getElem? (i := 134) rfl))))⟩⟩,
  (List.forall_mem_cons.mpr ⟨⟨⟨(List.mem_append_right _ (List.mem_append_right _ (List.mem_append_left _ (List.mem_of_getElem? (i := 162) rfl)))), rfl⟩, (List.mem_append_right _ (List.mem_append_left _ (List.mem_of_getElem? (i := 3) rfl))), ⟨(List.mem_append_right _ (List.mem_append_right _ (List.mem_append_left _ (List.mem_of_getElem? (i := 160) rfl)))), (List.mem_append_right _ (List.mem_append_right _ (List.mem_append_left _ (List.mem_of_getElem? (i := 161) rfl))))⟩⟩,
  (List.forall_mem_cons.mpr ⟨⟨⟨(List.mem_append_right _ (List.mem_append_right _ (List.mem_append_right _ (List.mem_append_left _ (List.mem_of_getElem? (i := 227) rfl))))), rfl⟩, (List.mem_append_right _ (List.mem_append_left _ (List.mem_of_getElem? (i := 3) rfl))), ⟨(List.mem_append_right _ (List.mem_append_right _ (List.mem_append_right _ (List.mem_append_left _ (List.mem_of_getElem? (i := 225) rfl))))), (List.mem_append_right _ (List.mem_append_right _ (List.mem_append_right _ (List.mem_append_left _ (List.mem_of_getElem? (i := 226) rfl)))))⟩⟩,
  (List.forall_mem_cons.mpr ⟨⟨⟨(List.mem_append_right _ (List.mem_append_right _ (List.mem_append_right _ (List.mem_append_right _ (List.mem_append_left _ (List.mem_of_getElem? (i := 206) rfl)))))), rfl⟩, (List.mem_append_right _ (List.mem_append_left _ (List.mem_of_getElem? (i := 3) rfl))), ⟨(List.mem_append_right _ (List.mem_append_right _ (List.mem_append_right _ (List.mem_append_right _ (List.mem_append_left _ (List.mem_of_getElem? (i := 204) rfl)))))), (List.mem_append_right _ (List.mem_append_right _ (List.mem_append_right _ (List.mem_append_right _ (List.mem_append_left _ (List.mem_of_getElem? (i := 205) rfl))))))⟩⟩,
  (List.forall_mem_cons.mpr ⟨⟨⟨(List.mem_append_right _ (List.mem_append_right _ (List.mem_append_right _ (List.mem_append_right _ (List.mem_append_left _ (List.mem_of_getElem? (i := 214) rfl)))))), rfl⟩, (List.mem_append_right _ (List.mem_append_left _ (List.mem_of_getElem? (i := 3) rfl))), ⟨(List.mem_append_right _ (List.mem_append_right _ (List.mem_append_right _ (List.mem_append_right _ (List.mem_append_left _ (List.mem_of_getElem? (i := 212) rfl)))))), (List.mem_append_right _ (List.mem_append_right _ (List.mem_append_right _ (List.mem_append_right _ (List.mem_append_left _ (List.mem_of_getElem? (i := 213) rfl))))))⟩⟩,
  (List.forall_mem_cons.mpr ⟨⟨⟨(List.mem_append_right _ (List.mem_append_right _ (List.mem_append_right _ (List.mem_append_right _ (List.mem_append_left _ (List.mem_of_getElem? (i := 188) rfl)))))), rfl⟩, (List.mem_append_right _ (List.mem_append_left _ (List.mem_of_getElem? (i := 3) rfl))), ⟨(List.mem_append_right _ (List.mem_append_right _ (List.mem_append_right _ (List.mem_append_right _ (List.mem_append_left _ (List.mem_of_getElem? (i := 186) rfl)))))), (List.mem_append_right _ (List.mem_append_right _ (List.mem_append_right _ (List.mem_append_right _ (List.mem_append_left _ (List.mem_of_getElem? (i := 187) rfl))))))⟩⟩,
  (List.forall_mem_cons.mpr ⟨⟨⟨(List.mem_append_right _ (List.mem_append_right _ (List.mem_append_right _ (List.mem_append_right _ (List.mem_append_right _ (List.mem_of_getElem? (i := 9) rfl)))))), rfl⟩, (List.mem_append_right _ (List.mem_append_left _ (List.mem_of_getElem? (i := 3) rfl))), ⟨(List.mem_append_right _ (List.mem_append_right _ (List.mem_append_right _ (List.mem_append_right _ (List.mem_append_right _ (List.mem_of_getElem? (i := 7) rfl)))))), (List.mem_append_right _ (List.mem_append_right _ (List.mem_append_right _ (List.mem_append_right _ (List.mem_append_right _ (List.mem_of_getElem? (i := 8) rfl))))))⟩⟩,
  (List.forall_mem_cons.mpr ⟨⟨⟨(List.mem_append_right _ (List.mem_append_right _ (List.mem_append_left _ (List.mem_of_getElem? (i := 182) rfl)))), rfl⟩, (List.mem_append_right _ (List.mem_append_left _ (List.mem_of_getElem? (i := 3) rfl))), ⟨(List.mem_append_right _ (List.mem_append_right _ (List.mem_append_left _ (List.mem_of_getElem? (i := 180) rfl)))), (List.mem_append_right _ (List.mem_append_right _ (List.mem_append_left _ (List.mem_of_getElem? (i := 181) rfl))))⟩⟩,
  (List.forall_mem_cons.mpr ⟨⟨⟨(List.mem_append_right _ (List.mem_append_right _ (List.mem_append_left _ (List.mem_of_getElem? (i := 91) rfl)))), rfl⟩, (List.mem_append_right _ (List.mem_append_left _ (List.mem_of_getElem? (i := 11) rfl))), (List.mem_append_right _ (List.mem_append_right _ (List.mem_append_left _ (List.mem_of_getElem? (i := 90) rfl))))⟩,
  (List.forall_mem_cons.mpr ⟨⟨⟨(List.mem_append_right _ (List.mem_append_right _ (List.mem_append_left _ (List.mem_of_getElem? (i := 154) rfl)))), rfl⟩, (List.mem_append_right _ (List.mem_append_left _ (List.mem_of_getElem? (i := 7) rfl))), (List.mem_append_right _ (List.mem_append_right _ (List.mem_append_left _ (List.mem_of_getElem? (i := 153) rfl))))⟩,
  (fun _ h => absurd h List.not_mem_nil)⟩)⟩)⟩)⟩)⟩)⟩)⟩)⟩)⟩)⟩)⟩)⟩)⟩)⟩)⟩)⟩)⟩)⟩)⟩)⟩)
set_option maxRecDepth 100000 in
theorem q_mw2 : ∀ x ∈ q_m2, q_mP x := (List.forall_mem_cons.mpr ⟨⟨⟨(List.mem_append_right _ (List.mem_append_right _ (List.mem_append_left _ (List.mem_of_getElem? (i := 154) rfl)))), rfl⟩, (List.mem_append_right _ (List.mem_append_left _ (List.mem_of_getElem? (i := 7) rfl))), (List.mem_append_right _ (List.mem_append_right _ (List.mem_append_left _ (List.mem_of_getElem? (i := 153) rfl))))⟩,
  (List.forall_mem_cons.mpr ⟨⟨⟨(List.mem_append_right _ (List.mem_append_right _ (List.mem_append_left _ (List.mem_of_getElem? (i := 154) rfl)))), rfl⟩, (List.mem_append_right _ (List.mem_append_left _ (List.mem_of_getElem? (i := 7) rfl))), (List.mem_append_right _ (List.mem_append_right _ (List.mem_append_left _ (List.mem_of_getElem? (i := 153) rfl))))⟩,
  (List.forall_mem_cons.mpr ⟨⟨⟨(List.mem_append_right _ (List.mem_append_right _ (List.mem_append_left _ (List.mem_of_getElem? (i := 154) rfl)))), rfl⟩, (List.mem_append_right _ (List.mem_append_left _ (List.mem_of_getElem? (i := 7) rfl))), (List.mem_append_right _ (List.mem_append_right _ (List.mem_append_left _ (List.mem_of_getElem? (i := 153) rfl))))⟩,
  (List.forall_mem_cons.mpr ⟨⟨⟨(List.mem_append_right _ (List.mem_append_right _ (List.mem_append_left _ (List.mem_of_getElem? (i := 154) rfl)))), rfl⟩, (List.mem_append_right _ (List.mem_append_left _ (List.mem_of_getElem? (i := 7) rfl))), (List.mem_append_right _ (List.mem_append_right _ (List.mem_append_left _ (List.mem_of_getElem? (i := 153) rfl))))⟩,
  (List.forall_mem_cons.mpr ⟨⟨⟨(List.mem_append_right _ (List.mem_append_right _ (List.mem_append_left _ (List.mem_of_getElem? (i := 154) rfl)))), rfl⟩, (List.mem_append_right _ (List.mem_append_left _ (List.mem_of_getElem? (i := 7) rfl))), (List.mem_append_right _ (List.mem_append_right _ (List.mem_append_left _ (List.mem_of_getElem? (i := 153) rfl))))⟩,
  (List.forall_mem_cons.mpr ⟨⟨⟨(List.mem_append_right _ (List.mem_append_right _ (List.mem_append_left _ (List.mem_of_getElem? (i := 154) rfl)))), rfl⟩, (List.mem_append_right _ (List.mem_append_left _ (List.mem_of_getElem? (i := 7) rfl))), (List.mem_append_right _ (List.mem_append_right _ (List.mem_append_left _ (List.mem_of_getElem? (i := 153) rfl))))⟩,
  (List.forall_mem_cons.mpr ⟨⟨⟨(List.mem_append_right _ (List.mem_append_right _ (List.mem_append_left _ (List.mem_of_getElem? (i := 154) rfl)))), rfl⟩, (List.mem_append_right _ (List.mem_append_left _ (List.mem_of_getElem? (i := 7) rfl))), (List.mem_append_right _ (List.mem_append_right _ (List.mem_append_left _ (List.mem_of_getElem? (i := 153) rfl))))⟩,
  (List.forall_mem_cons.mpr ⟨⟨⟨(List.mem_append_right _ (List.mem_append_right _ (List.mem_append_left _ (List.mem_of_getElem? (i := 154) rfl)))), rfl⟩, (List.mem_append_right _ (List.mem_append_left _ (List.mem_of_getElem? (i := 7) rfl))), (List.mem_append_right _ (List.mem_append_right _ (List.mem_append_left _ (List.mem_of_getElem? (i := 153) rfl))))⟩,
  (List.forall_mem_cons.mpr ⟨⟨⟨(List.mem_append_right _ (List.mem_append_right _ (List.mem_append_left _ (List.mem_of_getElem? (i := 154) rfl)))), rfl⟩, (List.mem_append_right _ (List.mem_append_left _ (List.mem_of_getElem? (i := 7) rfl))), (List.mem_append_right _ (List.mem_append_right _ (List.mem_append_left _ (List.mem_of_getElem? (i := 153) rfl))))⟩,
  (List.forall_mem_cons.mpr ⟨⟨⟨(List.mem_append_right _ (List.mem_append_left _ (List.mem_of_getElem? (i := 114) rfl))), rfl⟩, (List.mem_append_right _ (List.mem_append_left _ (List.mem_of_getElem? (i := 5) rfl))), (List.mem_append_right _ (List.mem_append_left _ (List.mem_of_getElem? (i := 113) rfl)))⟩,
  (List.forall_mem_cons.mpr ⟨⟨⟨(List.mem_append_right _ (List.mem_append_left _ (List.mem_of_getElem? (i := 168) rfl))), rfl⟩, (List.mem_append_right _ (List.mem_append_left _ (List.mem_of_getElem? (i := 5) rfl))), ⟨(List.mem_append_right _ (List.mem_append_left _ (List.mem_of_getElem? (i := 166) rfl))), (List.mem_append_right _ (List.mem_append_left _ (List.mem_of_getElem? (i := 167) rfl)))⟩⟩,
  (List.forall_mem_cons.mpr ⟨⟨⟨(List.mem_append_right _ (List.mem_append_left _ (List.mem_of_getElem? (i := 175) rfl))), rfl⟩, (List.mem_append_right _ (List.mem_append_left _ (List.mem_of_getElem? (i := 5) rfl))), ⟨(List.mem_append_right _ (List.mem_append_left _ (List.mem_of_getElem? (i := 173) rfl))), (List.mem_append_right _ (List.mem_append_left _ (List.mem_of_getElem? (i := 174) rfl)))⟩⟩,
  (List.forall_mem_cons.mpr ⟨⟨⟨(List.mem_append_right _ (List.mem_append_right _ (List.mem_append_right _ (List.mem_append_right _ (List.mem_append_left _ (List.mem_of_getElem? (i := 99) rfl)))))), rfl⟩, (List.mem_append_right _ (List.mem_append_left _ (List.mem_of_getElem? (i := 5) rfl))), ⟨(List.mem_append_right _ (List.mem_append_right _ (List.mem_append_right _ (List.mem_append_right _ (List.mem_append_left _ (List.mem_of_getElem? (i := 97) rfl)))))), (List.mem_append_right _ (List.mem_append_right _ (List.mem_append_right _ (List.mem_append_right _ (List.mem_append_left _ (List.mem_of_getElem? (i := 98) rfl))))))⟩⟩,
  (List.forall_mem_cons.mpr ⟨⟨⟨(List.mem_append_right _ (List.mem_append_right _ (List.mem_append_left _ (List.mem_of_getElem? (i := 186) rfl)))), rfl⟩, (List.mem_append_right _ (List.mem_append_left _ (List.mem_of_getElem? (i := 5) rfl))), ⟨(List.mem_append_right _ (List.mem_append_right _ (List.mem_append_left _ (List.mem_of_getElem? (i := 184) rfl)))), (List.mem_append_right _ (List.mem_append_right _ (List.mem_append_left _ (List.mem_of_getElem? (i := 185) rfl))))⟩⟩,
  (List.forall_mem_cons.mpr ⟨⟨⟨(List.mem_append_right _ (List.mem_append_right _ (List.mem_append_left _ (List.mem_of_getElem? (i := 194) rfl)))), rfl⟩, (List.mem_append_right _ (List.mem_append_left _ (List.mem_of_getElem? (i := 5) rfl))), ⟨(List.mem_append_right _ (List.mem_append_right _ (List.mem_append_left _ (List.mem_of_getElem? (i := 192) rfl)))), (List.mem_append_right _ (List.mem_append_right _ (List.mem_append_left _ (List.mem_of_getElem? (i := 193) rfl))))⟩⟩,
  (List.forall_mem_cons.mpr ⟨⟨⟨(List.mem_append_right _ (List.mem_append_right _ (List.mem_append_left _ (List.mem_of_getElem? (i := 158) rfl)))), rfl⟩, (List.mem_append_right _ (List.mem_append_left _ (List.mem_of_getElem? (i := 5) rfl))), ⟨(List.mem_append_right _ (List.mem_append_right _ (List.mem_append_left _ (List.mem_of_getElem? (i := 156) rfl)))), (List.mem_append_right _ (List.mem_append_right _ (List.mem_append_left _ (List.mem_of_getElem? (i := 157) rfl))))⟩⟩,
  (List.forall_mem_cons.mpr ⟨⟨⟨(List.mem_append_right _ (List.mem_append_right _ (List.mem_append_right _ (List.mem_append_right _ (List.mem_append_left _ (List.mem_of_getElem? (i := 83) rfl)))))), rfl⟩, (List.mem_append_right _ (List.mem_append_left _ (List.mem_of_getElem? (i := 5) rfl))), ⟨(List.mem_append_right _ (List.mem_append_right _ (List.mem_append_right _ (List.mem_append_right _ (List.mem_append_left _ (List.mem_of_getElem? (i := 81) rfl)))))), (List.mem_append_right _ (List.mem_append_right _ (List.mem_append_right _ (List.mem_append_right _ (List.mem_append_left _ (List.mem_of_getElem? (i := 82) rfl))))))⟩⟩,
  (List.forall_mem_cons.mpr ⟨⟨⟨(List.mem_append_right _ (List.mem_append_right _ (List.mem_append_right _ (List.mem_append_right _ (List.mem_append_left _ (List.mem_of_getElem? (i := 88) rfl)))))), rfl⟩, (List.mem_append_right _ (List.mem_append_left _ (List.mem_of_getElem? (i := 5) rfl))), ⟨(List.mem_append_right _ (List.mem_append_right _ (List.mem_append_right _ (List.mem_append_right _ (List.mem_append_left _ (List.mem_of_getElem? (i := 87) rfl)))))), (List.mem_append_left _ (List.mem_map.mpr ⟨(⟨"FadingTrumps$Table", "firstLackingCards", "()I"⟩, 19), (List.mem_append_right _ (List.mem_of_getElem? (i := 2) rfl)), rfl⟩))⟩⟩,
  (List.forall_mem_cons.mpr ⟨⟨⟨(List.mem_append_right _ (List.mem_append_right _ (List.mem_append_right _ (List.mem_append_right _ (List.mem_append_left _ (List.mem_of_getElem? (i := 49) rfl)))))), rfl⟩, (List.mem_append_right _ (List.mem_append_left _ (List.mem_of_getElem? (i := 5) rfl))), ⟨(List.mem_append_right _ (List.mem_append_right _ (List.mem_append_right _ (List.mem_append_right _ (List.mem_append_left _ (List.mem_of_getElem? (i := 47) rfl)))))), (List.mem_append_right _ (List.mem_append_right _ (List.mem_append_right _ (List.mem_append_right _ (List.mem_append_left _ (List.mem_of_getElem? (i := 48) rfl))))))⟩⟩,
  (List.forall_mem_cons.mpr ⟨⟨⟨(List.mem_append_right _ (List.mem_append_right _ (List.mem_append_left _ (List.mem_of_getElem? (i := 167) rfl)))), rfl⟩, (List.mem_append_right _ (List.mem_append_left _ (List.mem_of_getElem? (i := 5) rfl))), ⟨(List.mem_append_right _ (List.mem_append_right _ (List.mem_append_left _ (List.mem_of_getElem? (i := 165) rfl)))), (List.mem_append_right _ (List.mem_append_right _ (List.mem_append_left _ (List.mem_of_getElem? (i := 166) rfl))))⟩⟩,
  (fun _ h => absurd h List.not_mem_nil)⟩)⟩)⟩)⟩)⟩)⟩)⟩)⟩)⟩)⟩)⟩)⟩)⟩)⟩)⟩)⟩)⟩)⟩)⟩)⟩)
set_option maxRecDepth 100000 in
theorem q_mw3 : ∀ x ∈ q_m3, q_mP x := (List.forall_mem_cons.mpr ⟨⟨⟨(List.mem_append_right _ (List.mem_append_right _ (List.mem_append_left _ (List.mem_of_getElem? (i := 171) rfl)))), rfl⟩, (List.mem_append_right _ (List.mem_append_left _ (List.mem_of_getElem? (i := 5) rfl))), ⟨(List.mem_append_right _ (List.mem_append_right _ (List.mem_append_left _ (List.mem_of_getElem? (i := 169) rfl)))), (List.mem_append_right _ (List.mem_append_right _ (List.mem_append_left _ (List.mem_of_getElem? (i := 170) rfl))))⟩⟩,
  (List.forall_mem_cons.mpr ⟨⟨⟨(List.mem_append_right _ (List.mem_append_right _ (List.mem_append_left _ (List.mem_of_getElem? (i := 178) rfl)))), rfl⟩, (List.mem_append_right _ (List.mem_append_left _ (List.mem_of_getElem? (i := 5) rfl))), ⟨(List.mem_append_right _ (List.mem_append_right _ (List.mem_append_left _ (List.mem_of_getElem? (i := 177) rfl)))), (List.mem_append_left _ (List.mem_map.mpr ⟨(⟨"FadingTrumps$Table", "setHand", "(IJ)V"⟩, 19), (List.mem_append_left _ (List.mem_of_getElem? (i := 1) rfl)), rfl⟩))⟩⟩,
  (List.forall_mem_cons.mpr ⟨⟨⟨(List.mem_append_right _ (List.mem_append_right _ (List.mem_append_right _ (List.mem_append_right _ (List.mem_append_left _ (List.mem_of_getElem? (i := 78) rfl)))))), rfl⟩, (List.mem_append_right _ (List.mem_append_left _ (List.mem_of_getElem? (i := 5) rfl))), ⟨(List.mem_append_right _ (List.mem_append_right _ (List.mem_append_right _ (List.mem_append_right _ (List.mem_append_left _ (List.mem_of_getElem? (i := 76) rfl)))))), (List.mem_append_right _ (List.mem_append_right _ (List.mem_append_right _ (List.mem_append_right _ (List.mem_append_left _ (List.mem_of_getElem? (i := 77) rfl))))))⟩⟩,
  (List.forall_mem_cons.mpr ⟨⟨⟨(List.mem_append_right _ (List.mem_append_right _ (List.mem_append_right _ (List.mem_append_right _ (List.mem_append_left _ (List.mem_of_getElem? (i := 42) rfl)))))), rfl⟩, (List.mem_append_right _ (List.mem_append_left _ (List.mem_of_getElem? (i := 5) rfl))), ⟨(List.mem_append_right _ (List.mem_append_right _ (List.mem_append_right _ (List.mem_append_right _ (List.mem_append_left _ (List.mem_of_getElem? (i := 40) rfl)))))), (List.mem_append_right _ (List.mem_append_right _ (List.mem_append_right _ (List.mem_append_right _ (List.mem_append_left _ (List.mem_of_getElem? (i := 41) rfl))))))⟩⟩,
  (List.forall_mem_cons.mpr ⟨⟨⟨(List.mem_append_right _ (List.mem_append_right _ (List.mem_append_right _ (List.mem_append_right _ (List.mem_append_left _ (List.mem_of_getElem? (i := 130) rfl)))))), rfl⟩, (List.mem_append_right _ (List.mem_append_left _ (List.mem_of_getElem? (i := 5) rfl))), ⟨(List.mem_append_right _ (List.mem_append_right _ (List.mem_append_right _ (List.mem_append_right _ (List.mem_append_left _ (List.mem_of_getElem? (i := 128) rfl)))))), (List.mem_append_right _ (List.mem_append_right _ (List.mem_append_right _ (List.mem_append_right _ (List.mem_append_left _ (List.mem_of_getElem? (i := 129) rfl))))))⟩⟩,
  (List.forall_mem_cons.mpr ⟨⟨⟨(List.mem_append_right _ (List.mem_append_right _ (List.mem_append_right _ (List.mem_append_right _ (List.mem_append_right _ (List.mem_of_getElem? (i := 17) rfl)))))), rfl⟩, (List.mem_append_right _ (List.mem_append_left _ (List.mem_of_getElem? (i := 5) rfl))), ⟨(List.mem_append_right _ (List.mem_append_right _ (List.mem_append_right _ (List.mem_append_right _ (List.mem_append_right _ (List.mem_of_getElem? (i := 15) rfl)))))), (List.mem_append_right _ (List.mem_append_right _ (List.mem_append_right _ (List.mem_append_right _ (List.mem_append_right _ (List.mem_of_getElem? (i := 16) rfl))))))⟩⟩,
  (List.forall_mem_cons.mpr ⟨⟨⟨(List.mem_append_right _ (List.mem_append_right _ (List.mem_append_right _ (List.mem_append_right _ (List.mem_append_right _ (List.mem_of_getElem? (i := 68) rfl)))))), rfl⟩, (List.mem_append_right _ (List.mem_append_left _ (List.mem_of_getElem? (i := 5) rfl))), ⟨(List.mem_append_right _ (List.mem_append_right _ (List.mem_append_right _ (List.mem_append_right _ (List.mem_append_right _ (List.mem_of_getElem? (i := 66) rfl)))))), (List.mem_append_right _ (List.mem_append_right _ (List.mem_append_right _ (List.mem_append_right _ (List.mem_append_right _ (List.mem_of_getElem? (i := 67) rfl))))))⟩⟩,
  (List.forall_mem_cons.mpr ⟨⟨⟨(List.mem_append_right _ (List.mem_append_right _ (List.mem_append_right _ (List.mem_append_right _ (List.mem_append_right _ (List.mem_of_getElem? (i := 73) rfl)))))), rfl⟩, (List.mem_append_right _ (List.mem_append_left _ (List.mem_of_getElem? (i := 5) rfl))), ⟨(List.mem_append_right _ (List.mem_append_right _ (List.mem_append_right _ (List.mem_append_right _ (List.mem_append_right _ (List.mem_of_getElem? (i := 72) rfl)))))), (List.mem_append_left _ (List.mem_map.mpr ⟨(⟨"FadingTrumps$Table", "noteLack", "(II)V"⟩, 19), (List.mem_append_right _ (List.mem_of_getElem? (i := 8) rfl)), rfl⟩))⟩⟩,
  (List.forall_mem_cons.mpr ⟨⟨⟨(List.mem_append_right _ (List.mem_append_right _ (List.mem_append_right _ (List.mem_append_right _ (List.mem_append_right _ (List.mem_of_getElem? (i := 88) rfl)))))), rfl⟩, (List.mem_append_right _ (List.mem_append_left _ (List.mem_of_getElem? (i := 5) rfl))), ⟨(List.mem_append_right _ (List.mem_append_right _ (List.mem_append_right _ (List.mem_append_right _ (List.mem_append_right _ (List.mem_of_getElem? (i := 87) rfl)))))), (List.mem_append_left _ (List.mem_map.mpr ⟨(⟨"FadingTrumps$Table", "closeTrick", "()V"⟩, 19), (List.mem_append_right _ (List.mem_of_getElem? (i := 9) rfl)), rfl⟩))⟩⟩,
  (List.forall_mem_cons.mpr ⟨⟨⟨(List.mem_append_right _ (List.mem_append_right _ (List.mem_append_right _ (List.mem_append_right _ (List.mem_append_right _ (List.mem_of_getElem? (i := 104) rfl)))))), rfl⟩, (List.mem_append_right _ (List.mem_append_left _ (List.mem_of_getElem? (i := 5) rfl))), ⟨(List.mem_append_right _ (List.mem_append_right _ (List.mem_append_right _ (List.mem_append_right _ (List.mem_append_right _ (List.mem_of_getElem? (i := 103) rfl)))))), (List.mem_append_left _ (List.mem_map.mpr ⟨(⟨"FadingTrumps$Table", "closeHand", "()V"⟩, 19), (List.mem_append_right _ (List.mem_of_getElem? (i := 11) rfl)), rfl⟩))⟩⟩,
  (List.forall_mem_cons.mpr ⟨⟨⟨(List.mem_append_right _ (List.mem_append_right _ (List.mem_append_right _ (List.mem_append_right _ (List.mem_append_right _ (List.mem_of_getElem? (i := 108) rfl)))))), rfl⟩, (List.mem_append_right _ (List.mem_append_left _ (List.mem_of_getElem? (i := 5) rfl))), ⟨(List.mem_append_right _ (List.mem_append_right _ (List.mem_append_right _ (List.mem_append_right _ (List.mem_append_right _ (List.mem_of_getElem? (i := 106) rfl)))))), (List.mem_append_right _ (List.mem_append_right _ (List.mem_append_right _ (List.mem_append_right _ (List.mem_append_right _ (List.mem_of_getElem? (i := 107) rfl))))))⟩⟩,
  (List.forall_mem_cons.mpr ⟨⟨⟨(List.mem_append_right _ (List.mem_append_right _ (List.mem_append_left _ (List.mem_of_getElem? (i := 154) rfl)))), rfl⟩, (List.mem_append_right _ (List.mem_append_left _ (List.mem_of_getElem? (i := 7) rfl))), (List.mem_append_right _ (List.mem_append_right _ (List.mem_append_left _ (List.mem_of_getElem? (i := 153) rfl))))⟩,
  (List.forall_mem_cons.mpr ⟨⟨⟨(List.mem_append_right _ (List.mem_append_right _ (List.mem_append_left _ (List.mem_of_getElem? (i := 154) rfl)))), rfl⟩, (List.mem_append_right _ (List.mem_append_left _ (List.mem_of_getElem? (i := 7) rfl))), (List.mem_append_right _ (List.mem_append_right _ (List.mem_append_left _ (List.mem_of_getElem? (i := 153) rfl))))⟩,
  (List.forall_mem_cons.mpr ⟨⟨⟨(List.mem_append_right _ (List.mem_append_right _ (List.mem_append_left _ (List.mem_of_getElem? (i := 154) rfl)))), rfl⟩, (List.mem_append_right _ (List.mem_append_left _ (List.mem_of_getElem? (i := 7) rfl))), (List.mem_append_right _ (List.mem_append_right _ (List.mem_append_left _ (List.mem_of_getElem? (i := 153) rfl))))⟩,
  (List.forall_mem_cons.mpr ⟨⟨⟨(List.mem_append_right _ (List.mem_append_right _ (List.mem_append_right _ (List.mem_append_right _ (List.mem_append_right _ (List.mem_of_getElem? (i := 123) rfl)))))), rfl⟩, (List.mem_append_right _ (List.mem_append_left _ (List.mem_of_getElem? (i := 5) rfl))), ⟨(List.mem_append_right _ (List.mem_append_right _ (List.mem_append_right _ (List.mem_append_right _ (List.mem_append_right _ (List.mem_of_getElem? (i := 121) rfl)))))), (List.mem_append_right _ (List.mem_append_right _ (List.mem_append_right _ (List.mem_append_right _ (List.mem_append_right _ (List.mem_of_getElem? (i := 122) rfl))))))⟩⟩,
  (List.forall_mem_cons.mpr ⟨⟨⟨(List.mem_append_right _ (List.mem_append_right _ (List.mem_append_right _ (List.mem_append_right _ (List.mem_append_right _ (List.mem_of_getElem? (i := 127) rfl)))))), rfl⟩, (List.mem_append_right _ (List.mem_append_left _ (List.mem_of_getElem? (i := 5) rfl))), ⟨(List.mem_append_right _ (List.mem_append_right _ (List.mem_append_right _ (List.mem_append_right _ (List.mem_append_right _ (List.mem_of_getElem? (i := 126) rfl)))))), (List.mem_append_left _ (List.mem_map.mpr ⟨(⟨"FadingTrumps$Table", "strongest", "()I"⟩, 19), (List.mem_append_right _ (List.mem_of_getElem? (i := 13) rfl)), rfl⟩))⟩⟩,
  (List.forall_mem_cons.mpr ⟨⟨⟨(List.mem_append_right _ (List.mem_append_right _ (List.mem_append_right _ (List.mem_append_right _ (List.mem_append_right _ (List.mem_of_getElem? (i := 133) rfl)))))), rfl⟩, (List.mem_append_right _ (List.mem_append_left _ (List.mem_of_getElem? (i := 5) rfl))), ⟨(List.mem_append_right _ (List.mem_append_right _ (List.mem_append_right _ (List.mem_append_right _ (List.mem_append_right _ (List.mem_of_getElem? (i := 132) rfl)))))), (List.mem_append_left _ (List.mem_map.mpr ⟨(⟨"FadingTrumps$Table", "cheapest", "()I"⟩, 19), (List.mem_append_right _ (List.mem_of_getElem? (i := 14) rfl)), rfl⟩))⟩⟩,
  (List.forall_mem_cons.mpr ⟨⟨⟨(List.mem_append_right _ (List.mem_append_right _ (List.mem_append_right _ (List.mem_append_right _ (List.mem_append_right _ (List.mem_of_getElem? (i := 138) rfl)))))), rfl⟩, (List.mem_append_right _ (List.mem_append_left _ (List.mem_of_getElem? (i := 5) rfl))), ⟨(List.mem_append_right _ (List.mem_append_right _ (List.mem_append_right _ (List.mem_append_right _ (List.mem_append_right _ (List.mem_of_getElem? (i := 137) rfl)))))), (List.mem_append_left _ (List.mem_map.mpr ⟨(⟨"FadingTrumps$Table", "hasLessPower", "(II)Z"⟩, 19), (List.mem_append_right _ (List.mem_of_getElem? (i := 15) rfl)), rfl⟩))⟩⟩,
  (List.forall_mem_cons.mpr ⟨⟨⟨(List.mem_append_right _ (List.mem_append_right _ (List.mem_append_left _ (List.mem_of_getElem? (i := 40) rfl)))), rfl⟩, (List.mem_append_right _ (List.mem_append_left _ (List.mem_of_getElem? (i := 9) rfl))), (List.mem_append_right _ (List.mem_append_right _ (List.mem_append_left _ (List.mem_of_getElem? (i := 39) rfl))))⟩,
  (List.forall_mem_cons.mpr ⟨⟨⟨(List.mem_append_right _ (List.mem_append_right _ (List.mem_append_right _ (List.mem_append_left _ (List.mem_of_getElem? (i := 169) rfl))))), rfl⟩, (List.mem_append_right _ (List.mem_append_left _ (List.mem_of_getElem? (i := 9) rfl))), ⟨(List.mem_append_right _ (List.mem_append_right _ (List.mem_append_right _ (List.mem_append_left _ (List.mem_of_getElem? (i := 167) rfl))))), (List.mem_append_right _ (List.mem_append_right _ (List.mem_append_right _ (List.mem_append_left _ (List.mem_of_getElem? (i := 168) rfl)))))⟩⟩,
  (fun _ h => absurd h List.not_mem_nil)⟩)⟩)⟩)⟩)⟩)⟩)⟩)⟩)⟩)⟩)⟩)⟩)⟩)⟩)⟩)⟩)⟩)⟩)⟩)⟩)
set_option maxRecDepth 100000 in
theorem q_mw4 : ∀ x ∈ q_m4, q_mP x := (List.forall_mem_cons.mpr ⟨⟨⟨(List.mem_append_right _ (List.mem_append_right _ (List.mem_append_right _ (List.mem_append_left _ (List.mem_of_getElem? (i := 192) rfl))))), rfl⟩, (List.mem_append_right _ (List.mem_append_left _ (List.mem_of_getElem? (i := 9) rfl))), ⟨(List.mem_append_right _ (List.mem_append_right _ (List.mem_append_right _ (List.mem_append_left _ (List.mem_of_getElem? (i := 191) rfl))))), (List.mem_append_left _ (List.mem_map.mpr ⟨(⟨"FadingTrumps$TextReader", "readSizes", "()V"⟩, 5), (List.mem_append_left _ (List.mem_of_getElem? (i := 10) rfl)), rfl⟩))⟩⟩,
  (List.forall_mem_cons.mpr ⟨⟨⟨(List.mem_append_right _ (List.mem_append_right _ (List.mem_append_right _ (List.mem_append_left _ (List.mem_of_getElem? (i := 235) rfl))))), rfl⟩, (List.mem_append_right _ (List.mem_append_left _ (List.mem_of_getElem? (i := 9) rfl))), ⟨(List.mem_append_right _ (List.mem_append_right _ (List.mem_append_right _ (List.mem_append_left _ (List.mem_of_getElem? (i := 234) rfl))))), (List.mem_append_left _ (List.mem_map.mpr ⟨(⟨"FadingTrumps$TextReader", "readTrump", "()V"⟩, 5), (List.mem_append_left _ (List.mem_of_getElem? (i := 11) rfl)), rfl⟩))⟩⟩,
  (List.forall_mem_cons.mpr ⟨⟨⟨(List.mem_append_right _ (List.mem_append_right _ (List.mem_append_right _ (List.mem_append_right _ (List.mem_append_left _ (List.mem_of_getElem? (i := 3) rfl)))))), rfl⟩, (List.mem_append_right _ (List.mem_append_left _ (List.mem_of_getElem? (i := 9) rfl))), ⟨(List.mem_append_right _ (List.mem_append_right _ (List.mem_append_right _ (List.mem_append_right _ (List.mem_append_left _ (List.mem_of_getElem? (i := 2) rfl)))))), (List.mem_append_left _ (List.mem_map.mpr ⟨(⟨"FadingTrumps$TextReader", "readStart", "()V"⟩, 5), (List.mem_append_left _ (List.mem_of_getElem? (i := 12) rfl)), rfl⟩))⟩⟩,
  (List.forall_mem_cons.mpr ⟨⟨⟨(List.mem_append_right _ (List.mem_append_right _ (List.mem_append_right _ (List.mem_append_right _ (List.mem_append_left _ (List.mem_of_getElem? (i := 27) rfl)))))), rfl⟩, (List.mem_append_right _ (List.mem_append_left _ (List.mem_of_getElem? (i := 9) rfl))), ⟨(List.mem_append_right _ (List.mem_append_right _ (List.mem_append_right _ (List.mem_append_right _ (List.mem_append_left _ (List.mem_of_getElem? (i := 26) rfl)))))), (List.mem_append_left _ (List.mem_map.mpr ⟨(⟨"FadingTrumps$TextReader", "readClause", "(I)V"⟩, 5), (List.mem_append_left _ (List.mem_of_getElem? (i := 13) rfl)), rfl⟩))⟩⟩,
  (List.forall_mem_cons.mpr ⟨⟨⟨(List.mem_append_right _ (List.mem_append_right _ (List.mem_append_right _ (List.mem_append_right _ (List.mem_append_left _ (List.mem_of_getElem? (i := 32) rfl)))))), rfl⟩, (List.mem_append_right _ (List.mem_append_left _ (List.mem_of_getElem? (i := 9) rfl))), ⟨(List.mem_append_right _ (List.mem_append_right _ (List.mem_append_right _ (List.mem_append_right _ (List.mem_append_left _ (List.mem_of_getElem? (i := 31) rfl)))))), (List.mem_append_left _ (List.mem_map.mpr ⟨(⟨"FadingTrumps$TextReader", "readHand", "(I)V"⟩, 5), (List.mem_append_left _ (List.mem_of_getElem? (i := 14) rfl)), rfl⟩))⟩⟩,
  (List.forall_mem_cons.mpr ⟨⟨⟨(List.mem_append_right _ (List.mem_append_right _ (List.mem_append_right _ (List.mem_append_right _ (List.mem_append_left _ (List.mem_of_getElem? (i := 36) rfl)))))), rfl⟩, (List.mem_append_right _ (List.mem_append_left _ (List.mem_of_getElem? (i := 9) rfl))), ⟨(List.mem_append_right _ (List.mem_append_right _ (List.mem_append_right _ (List.mem_append_right _ (List.mem_append_left _ (List.mem_of_getElem? (i := 35) rfl)))))), (List.mem_append_left _ (List.mem_map.mpr ⟨(⟨"FadingTrumps$TextReader", "readCard", "(I)V"⟩, 5), (List.mem_append_left _ (List.mem_of_getElem? (i := 15) rfl)), rfl⟩))⟩⟩,
  (List.forall_mem_cons.mpr ⟨⟨⟨(List.mem_append_right _ (List.mem_append_right _ (List.mem_append_right _ (List.mem_append_right _ (List.mem_append_left _ (List.mem_of_getElem? (i := 67) rfl)))))), rfl⟩, (List.mem_append_right _ (List.mem_append_left _ (List.mem_of_getElem? (i := 9) rfl))), ⟨(List.mem_append_right _ (List.mem_append_right _ (List.mem_append_right _ (List.mem_append_right _ (List.mem_append_left _ (List.mem_of_getElem? (i := 66) rfl)))))), (List.mem_append_left _ (List.mem_map.mpr ⟨(⟨"FadingTrumps$TextReader", "readTell", "()V"⟩, 5), (List.mem_append_right _ (List.mem_of_getElem? (i := 0) rfl)), rfl⟩))⟩⟩,
  (List.forall_mem_cons.mpr ⟨⟨⟨(List.mem_append_right _ (List.mem_append_right _ (List.mem_append_right _ (List.mem_append_right _ (List.mem_append_left _ (List.mem_of_getElem? (i := 73) rfl)))))), rfl⟩, (List.mem_append_right _ (List.mem_append_left _ (List.mem_of_getElem? (i := 9) rfl))), ⟨(List.mem_append_right _ (List.mem_append_right _ (List.mem_append_right _ (List.mem_append_right _ (List.mem_append_left _ (List.mem_of_getElem? (i := 72) rfl)))))), (List.mem_append_left _ (List.mem_map.mpr ⟨(⟨"FadingTrumps$TextReader", "handOut", "()V"⟩, 5), (List.mem_append_right _ (List.mem_of_getElem? (i := 1) rfl)), rfl⟩))⟩⟩,
  (List.forall_mem_cons.mpr ⟨⟨⟨(List.mem_append_right _ (List.mem_append_left _ (List.mem_of_getElem? (i := 37) rfl))), rfl⟩, (List.mem_append_right _ (List.mem_append_left _ (List.mem_of_getElem? (i := 2) rfl))), (List.mem_append_right _ (List.mem_append_left _ (List.mem_of_getElem? (i := 36) rfl)))⟩,
  (List.forall_mem_cons.mpr ⟨⟨⟨(List.mem_append_right _ (List.mem_append_right _ (List.mem_append_right _ (List.mem_append_left _ (List.mem_of_getElem? (i := 173) rfl))))), rfl⟩, (List.mem_append_right _ (List.mem_append_left _ (List.mem_of_getElem? (i := 2) rfl))), ⟨(List.mem_append_right _ (List.mem_append_right _ (List.mem_append_right _ (List.mem_append_left _ (List.mem_of_getElem? (i := 171) rfl))))), (List.mem_append_right _ (List.mem_append_right _ (List.mem_append_right _ (List.mem_append_left _ (List.mem_of_getElem? (i := 172) rfl)))))⟩⟩,
  (List.forall_mem_cons.mpr ⟨⟨⟨(List.mem_append_right _ (List.mem_append_right _ (List.mem_append_right _ (List.mem_append_left _ (List.mem_of_getElem? (i := 177) rfl))))), rfl⟩, (List.mem_append_right _ (List.mem_append_left _ (List.mem_of_getElem? (i := 2) rfl))), ⟨(List.mem_append_right _ (List.mem_append_right _ (List.mem_append_right _ (List.mem_append_left _ (List.mem_of_getElem? (i := 175) rfl))))), (List.mem_append_right _ (List.mem_append_right _ (List.mem_append_right _ (List.mem_append_left _ (List.mem_of_getElem? (i := 176) rfl)))))⟩⟩,
  (List.forall_mem_cons.mpr ⟨⟨⟨(List.mem_append_right _ (List.mem_append_right _ (List.mem_append_right _ (List.mem_append_left _ (List.mem_of_getElem? (i := 181) rfl))))), rfl⟩, (List.mem_append_right _ (List.mem_append_left _ (List.mem_of_getElem? (i := 2) rfl))), ⟨(List.mem_append_right _ (List.mem_append_right _ (List.mem_append_right _ (List.mem_append_left _ (List.mem_of_getElem? (i := 180) rfl))))), (List.mem_append_left _ (List.mem_map.mpr ⟨(⟨"FadingTrumps$Tokens", "kindAt", "(I)I"⟩, 8), (List.mem_append_left _ (List.mem_of_getElem? (i := 8) rfl)), rfl⟩))⟩⟩,
  (List.forall_mem_cons.mpr ⟨⟨⟨(List.mem_append_right _ (List.mem_append_right _ (List.mem_append_right _ (List.mem_append_left _ (List.mem_of_getElem? (i := 185) rfl))))), rfl⟩, (List.mem_append_right _ (List.mem_append_left _ (List.mem_of_getElem? (i := 2) rfl))), ⟨(List.mem_append_right _ (List.mem_append_right _ (List.mem_append_right _ (List.mem_append_left _ (List.mem_of_getElem? (i := 184) rfl))))), (List.mem_append_left _ (List.mem_map.mpr ⟨(⟨"FadingTrumps$Tokens", "byteAt", "(I)I"⟩, 8), (List.mem_append_left _ (List.mem_of_getElem? (i := 9) rfl)), rfl⟩))⟩⟩,
  (List.forall_mem_cons.mpr ⟨⟨⟨(List.mem_append_right _ (List.mem_append_right _ (List.mem_append_right _ (List.mem_append_left _ (List.mem_of_getElem? (i := 205) rfl))))), rfl⟩, (List.mem_append_right _ (List.mem_append_left _ (List.mem_of_getElem? (i := 2) rfl))), ⟨(List.mem_append_right _ (List.mem_append_right _ (List.mem_append_right _ (List.mem_append_left _ (List.mem_of_getElem? (i := 203) rfl))))), (List.mem_append_right _ (List.mem_append_right _ (List.mem_append_right _ (List.mem_append_left _ (List.mem_of_getElem? (i := 204) rfl)))))⟩⟩,
  (List.forall_mem_cons.mpr ⟨⟨⟨(List.mem_append_right _ (List.mem_append_right _ (List.mem_append_right _ (List.mem_append_left _ (List.mem_of_getElem? (i := 215) rfl))))), rfl⟩, (List.mem_append_right _ (List.mem_append_left _ (List.mem_of_getElem? (i := 2) rfl))), ⟨(List.mem_append_right _ (List.mem_append_right _ (List.mem_append_right _ (List.mem_append_left _ (List.mem_of_getElem? (i := 213) rfl))))), (List.mem_append_right _ (List.mem_append_right _ (List.mem_append_right _ (List.mem_append_left _ (List.mem_of_getElem? (i := 214) rfl)))))⟩⟩,
  (List.forall_mem_cons.mpr ⟨⟨⟨(List.mem_append_right _ (List.mem_append_right _ (List.mem_append_right _ (List.mem_append_right _ (List.mem_append_left _ (List.mem_of_getElem? (i := 23) rfl)))))), rfl⟩, (List.mem_append_right _ (List.mem_append_left _ (List.mem_of_getElem? (i := 2) rfl))), ⟨(List.mem_append_right _ (List.mem_append_right _ (List.mem_append_right _ (List.mem_append_right _ (List.mem_append_left _ (List.mem_of_getElem? (i := 21) rfl)))))), (List.mem_append_right _ (List.mem_append_right _ (List.mem_append_right _ (List.mem_append_right _ (List.mem_append_left _ (List.mem_of_getElem? (i := 22) rfl))))))⟩⟩,
  (List.forall_mem_cons.mpr ⟨⟨⟨(List.mem_append_right _ (List.mem_append_right _ (List.mem_append_right _ (List.mem_append_right _ (List.mem_append_left _ (List.mem_of_getElem? (i := 62) rfl)))))), rfl⟩, (List.mem_append_right _ (List.mem_append_left _ (List.mem_of_getElem? (i := 2) rfl))), ⟨(List.mem_append_right _ (List.mem_append_right _ (List.mem_append_right _ (List.mem_append_right _ (List.mem_append_left _ (List.mem_of_getElem? (i := 60) rfl)))))), (List.mem_append_right _ (List.mem_append_right _ (List.mem_append_right _ (List.mem_append_right _ (List.mem_append_left _ (List.mem_of_getElem? (i := 61) rfl))))))⟩⟩,
  (List.forall_mem_cons.mpr ⟨⟨⟨(List.mem_append_right _ (List.mem_append_right _ (List.mem_append_right _ (List.mem_append_right _ (List.mem_append_left _ (List.mem_of_getElem? (i := 18) rfl)))))), rfl⟩, (List.mem_append_right _ (List.mem_append_left _ (List.mem_of_getElem? (i := 2) rfl))), ⟨(List.mem_append_right _ (List.mem_append_right _ (List.mem_append_right _ (List.mem_append_right _ (List.mem_append_left _ (List.mem_of_getElem? (i := 16) rfl)))))), (List.mem_append_right _ (List.mem_append_right _ (List.mem_append_right _ (List.mem_append_right _ (List.mem_append_left _ (List.mem_of_getElem? (i := 17) rfl))))))⟩⟩,
  (List.forall_mem_cons.mpr ⟨⟨⟨(List.mem_append_right _ (List.mem_append_right _ (List.mem_append_right _ (List.mem_append_left _ (List.mem_of_getElem? (i := 209) rfl))))), rfl⟩, (List.mem_append_right _ (List.mem_append_left _ (List.mem_of_getElem? (i := 2) rfl))), ⟨(List.mem_append_right _ (List.mem_append_right _ (List.mem_append_right _ (List.mem_append_left _ (List.mem_of_getElem? (i := 207) rfl))))), (List.mem_append_right _ (List.mem_append_right _ (List.mem_append_right _ (List.mem_append_left _ (List.mem_of_getElem? (i := 208) rfl)))))⟩⟩,
  (List.forall_mem_cons.mpr ⟨⟨⟨(List.mem_append_right _ (List.mem_append_right _ (List.mem_append_right _ (List.mem_append_left _ (List.mem_of_getElem? (i := 201) rfl))))), rfl⟩, (List.mem_append_right _ (List.mem_append_left _ (List.mem_of_getElem? (i := 2) rfl))), ⟨(List.mem_append_right _ (List.mem_append_right _ (List.mem_append_right _ (List.mem_append_left _ (List.mem_of_getElem? (i := 199) rfl))))), (List.mem_append_right _ (List.mem_append_right _ (List.mem_append_right _ (List.mem_append_left _ (List.mem_of_getElem? (i := 200) rfl)))))⟩⟩,
  (fun _ h => absurd h List.not_mem_nil)⟩)⟩)⟩)⟩)⟩)⟩)⟩)⟩)⟩)⟩)⟩)⟩)⟩)⟩)⟩)⟩)⟩)⟩)⟩)⟩)
set_option maxRecDepth 100000 in
theorem q_mw5 : ∀ x ∈ q_m5, q_mP x := (List.forall_mem_cons.mpr ⟨⟨⟨(List.mem_append_right _ (List.mem_append_right _ (List.mem_append_right _ (List.mem_append_right _ (List.mem_append_left _ (List.mem_of_getElem? (i := 14) rfl)))))), rfl⟩, (List.mem_append_right _ (List.mem_append_left _ (List.mem_of_getElem? (i := 2) rfl))), ⟨(List.mem_append_right _ (List.mem_append_right _ (List.mem_append_right _ (List.mem_append_right _ (List.mem_append_left _ (List.mem_of_getElem? (i := 12) rfl)))))), (List.mem_append_right _ (List.mem_append_right _ (List.mem_append_right _ (List.mem_append_right _ (List.mem_append_left _ (List.mem_of_getElem? (i := 13) rfl))))))⟩⟩,
  (List.forall_mem_cons.mpr ⟨⟨⟨(List.mem_append_right _ (List.mem_append_right _ (List.mem_append_right _ (List.mem_append_left _ (List.mem_of_getElem? (i := 197) rfl))))), rfl⟩, (List.mem_append_right _ (List.mem_append_left _ (List.mem_of_getElem? (i := 2) rfl))), ⟨(List.mem_append_right _ (List.mem_append_right _ (List.mem_append_right _ (List.mem_append_left _ (List.mem_of_getElem? (i := 195) rfl))))), (List.mem_append_right _ (List.mem_append_right _ (List.mem_append_right _ (List.mem_append_left _ (List.mem_of_getElem? (i := 196) rfl)))))⟩⟩,
  (List.forall_mem_cons.mpr ⟨⟨⟨(List.mem_append_right _ (List.mem_append_right _ (List.mem_append_right _ (List.mem_append_right _ (List.mem_append_left _ (List.mem_of_getElem? (i := 10) rfl)))))), rfl⟩, (List.mem_append_right _ (List.mem_append_left _ (List.mem_of_getElem? (i := 2) rfl))), ⟨(List.mem_append_right _ (List.mem_append_right _ (List.mem_append_right _ (List.mem_append_right _ (List.mem_append_left _ (List.mem_of_getElem? (i := 8) rfl)))))), (List.mem_append_right _ (List.mem_append_right _ (List.mem_append_right _ (List.mem_append_right _ (List.mem_append_left _ (List.mem_of_getElem? (i := 9) rfl))))))⟩⟩,
  (List.forall_mem_cons.mpr ⟨⟨⟨(List.mem_append_right _ (List.mem_append_right _ (List.mem_append_right _ (List.mem_append_left _ (List.mem_of_getElem? (i := 223) rfl))))), rfl⟩, (List.mem_append_right _ (List.mem_append_left _ (List.mem_of_getElem? (i := 2) rfl))), ⟨(List.mem_append_right _ (List.mem_append_right _ (List.mem_append_right _ (List.mem_append_left _ (List.mem_of_getElem? (i := 221) rfl))))), (List.mem_append_right _ (List.mem_append_right _ (List.mem_append_right _ (List.mem_append_left _ (List.mem_of_getElem? (i := 222) rfl)))))⟩⟩,
  (List.forall_mem_cons.mpr ⟨⟨⟨(List.mem_append_right _ (List.mem_append_right _ (List.mem_append_right _ (List.mem_append_left _ (List.mem_of_getElem? (i := 219) rfl))))), rfl⟩, (List.mem_append_right _ (List.mem_append_left _ (List.mem_of_getElem? (i := 2) rfl))), ⟨(List.mem_append_right _ (List.mem_append_right _ (List.mem_append_right _ (List.mem_append_left _ (List.mem_of_getElem? (i := 217) rfl))))), (List.mem_append_right _ (List.mem_append_right _ (List.mem_append_right _ (List.mem_append_left _ (List.mem_of_getElem? (i := 218) rfl)))))⟩⟩,
  (List.forall_mem_cons.mpr ⟨⟨⟨(List.mem_append_right _ (List.mem_append_left _ (List.mem_of_getElem? (i := 120) rfl))), rfl⟩, (List.mem_append_right _ (List.mem_append_left _ (List.mem_of_getElem? (i := 6) rfl))), (List.mem_append_right _ (List.mem_append_left _ (List.mem_of_getElem? (i := 119) rfl)))⟩,
  (List.forall_mem_cons.mpr ⟨⟨⟨(List.mem_append_right _ (List.mem_append_right _ (List.mem_append_right _ (List.mem_append_right _ (List.mem_append_left _ (List.mem_of_getElem? (i := 103) rfl)))))), rfl⟩, (List.mem_append_right _ (List.mem_append_left _ (List.mem_of_getElem? (i := 6) rfl))), ⟨(List.mem_append_right _ (List.mem_append_right _ (List.mem_append_right _ (List.mem_append_right _ (List.mem_append_left _ (List.mem_of_getElem? (i := 101) rfl)))))), (List.mem_append_right _ (List.mem_append_right _ (List.mem_append_right _ (List.mem_append_right _ (List.mem_append_left _ (List.mem_of_getElem? (i := 102) rfl))))))⟩⟩,
  (List.forall_mem_cons.mpr ⟨⟨⟨(List.mem_append_right _ (List.mem_append_right _ (List.mem_append_left _ (List.mem_of_getElem? (i := 190) rfl)))), rfl⟩, (List.mem_append_right _ (List.mem_append_left _ (List.mem_of_getElem? (i := 6) rfl))), ⟨(List.mem_append_right _ (List.mem_append_right _ (List.mem_append_left _ (List.mem_of_getElem? (i := 188) rfl)))), (List.mem_append_right _ (List.mem_append_right _ (List.mem_append_left _ (List.mem_of_getElem? (i := 189) rfl))))⟩⟩,
  (List.forall_mem_cons.mpr ⟨⟨⟨(List.mem_append_right _ (List.mem_append_right _ (List.mem_append_right _ (List.mem_append_right _ (List.mem_append_left _ (List.mem_of_getElem? (i := 226) rfl)))))), rfl⟩, (List.mem_append_right _ (List.mem_append_left _ (List.mem_of_getElem? (i := 6) rfl))), ⟨(List.mem_append_right _ (List.mem_append_right _ (List.mem_append_right _ (List.mem_append_right _ (List.mem_append_left _ (List.mem_of_getElem? (i := 224) rfl)))))), (List.mem_append_right _ (List.mem_append_right _ (List.mem_append_right _ (List.mem_append_right _ (List.mem_append_left _ (List.mem_of_getElem? (i := 225) rfl))))))⟩⟩,
  (List.forall_mem_cons.mpr ⟨⟨⟨(List.mem_append_right _ (List.mem_append_right _ (List.mem_append_left _ (List.mem_of_getElem? (i := 154) rfl)))), rfl⟩, (List.mem_append_right _ (List.mem_append_left _ (List.mem_of_getElem? (i := 7) rfl))), (List.mem_append_right _ (List.mem_append_right _ (List.mem_append_left _ (List.mem_of_getElem? (i := 153) rfl))))⟩,
  (List.forall_mem_cons.mpr ⟨⟨⟨(List.mem_append_right _ (List.mem_append_right _ (List.mem_append_right _ (List.mem_append_right _ (List.mem_append_left _ (List.mem_of_getElem? (i := 236) rfl)))))), rfl⟩, (List.mem_append_right _ (List.mem_append_left _ (List.mem_of_getElem? (i := 6) rfl))), ⟨(List.mem_append_right _ (List.mem_append_right _ (List.mem_append_right _ (List.mem_append_right _ (List.mem_append_left _ (List.mem_of_getElem? (i := 234) rfl)))))), (List.mem_append_right _ (List.mem_append_right _ (List.mem_append_right _ (List.mem_append_right _ (List.mem_append_left _ (List.mem_of_getElem? (i := 235) rfl))))))⟩⟩,
  (List.forall_mem_cons.mpr ⟨⟨⟨(List.mem_append_right _ (List.mem_append_right _ (List.mem_append_right _ (List.mem_append_right _ (List.mem_append_right _ (List.mem_of_getElem? (i := 83) rfl)))))), rfl⟩, (List.mem_append_right _ (List.mem_append_left _ (List.mem_of_getElem? (i := 6) rfl))), ⟨(List.mem_append_right _ (List.mem_append_right _ (List.mem_append_right _ (List.mem_append_right _ (List.mem_append_right _ (List.mem_of_getElem? (i := 81) rfl)))))), (List.mem_append_right _ (List.mem_append_right _ (List.mem_append_right _ (List.mem_append_right _ (List.mem_append_right _ (List.mem_of_getElem? (i := 82) rfl))))))⟩⟩,
  (List.forall_mem_cons.mpr ⟨⟨⟨(List.mem_append_right _ (List.mem_append_right _ (List.mem_append_right _ (List.mem_append_right _ (List.mem_append_right _ (List.mem_of_getElem? (i := 92) rfl)))))), rfl⟩, (List.mem_append_right _ (List.mem_append_left _ (List.mem_of_getElem? (i := 6) rfl))), ⟨(List.mem_append_right _ (List.mem_append_right _ (List.mem_append_right _ (List.mem_append_right _ (List.mem_append_right _ (List.mem_of_getElem? (i := 90) rfl)))))), (List.mem_append_right _ (List.mem_append_right _ (List.mem_append_right _ (List.mem_append_right _ (List.mem_append_right _ (List.mem_of_getElem? (i := 91) rfl))))))⟩⟩,
  (List.forall_mem_cons.mpr ⟨⟨⟨(List.mem_append_right _ (List.mem_append_right _ (List.mem_append_right _ (List.mem_append_right _ (List.mem_append_right _ (List.mem_of_getElem? (i := 96) rfl)))))), rfl⟩, (List.mem_append_right _ (List.mem_append_left _ (List.mem_of_getElem? (i := 6) rfl))), ⟨(List.mem_append_right _ (List.mem_append_right _ (List.mem_append_right _ (List.mem_append_right _ (List.mem_append_right _ (List.mem_of_getElem? (i := 95) rfl)))))), (List.mem_append_left _ (List.mem_map.mpr ⟨(⟨"FadingTrumps$Trick", "dim", "(LFadingTrumps$Setup;IZ)V"⟩, 9), (List.mem_append_right _ (List.mem_of_getElem? (i := 10) rfl)), rfl⟩))⟩⟩,
  (List.forall_mem_cons.mpr ⟨⟨⟨(List.mem_append_right _ (List.mem_append_right _ (List.mem_append_right _ (List.mem_append_right _ (List.mem_append_right _ (List.mem_of_getElem? (i := 22) rfl)))))), rfl⟩, (List.mem_append_right _ (List.mem_append_left _ (List.mem_of_getElem? (i := 6) rfl))), ⟨(List.mem_append_right _ (List.mem_append_right _ (List.mem_append_right _ (List.mem_append_right _ (List.mem_append_right _ (List.mem_of_getElem? (i := 20) rfl)))))), (List.mem_append_right _ (List.mem_append_right _ (List.mem_append_right _ (List.mem_append_right _ (List.mem_append_right _ (List.mem_of_getElem? (i := 21) rfl))))))⟩⟩,
  (List.forall_mem_cons.mpr ⟨⟨⟨(List.mem_append_right _ (List.mem_append_right _ (List.mem_append_right _ (List.mem_append_right _ (List.mem_append_right _ (List.mem_of_getElem? (i := 27) rfl)))))), rfl⟩, (List.mem_append_right _ (List.mem_append_left _ (List.mem_of_getElem? (i := 6) rfl))), ⟨(List.mem_append_right _ (List.mem_append_right _ (List.mem_append_right _ (List.mem_append_right _ (List.mem_append_right _ (List.mem_of_getElem? (i := 26) rfl)))))), (List.mem_append_left _ (List.mem_map.mpr ⟨(⟨"FadingTrumps$Trick", "higherOf", "(LFadingTrumps$Setup;J)J"⟩, 9), (List.mem_append_right _ (List.mem_of_getElem? (i := 6) rfl)), rfl⟩))⟩⟩,
  (List.forall_mem_cons.mpr ⟨⟨⟨(List.mem_append_right _ (List.mem_append_left _ (List.mem_of_getElem? (i := 29) rfl))), rfl⟩, (List.mem_append_right _ (List.mem_append_left _ (List.mem_of_getElem? (i := 1) rfl))), (List.mem_append_right _ (List.mem_append_left _ (List.mem_of_getElem? (i := 28) rfl)))⟩,
  (List.forall_mem_cons.mpr ⟨⟨⟨(List.mem_append_right _ (List.mem_append_right _ (List.mem_append_right _ (List.mem_append_left _ (List.mem_of_getElem? (i := 95) rfl))))), rfl⟩, (List.mem_append_right _ (List.mem_append_left _ (List.mem_of_getElem? (i := 1) rfl))), ⟨(List.mem_append_right _ (List.mem_append_right _ (List.mem_append_right _ (List.mem_append_left _ (List.mem_of_getElem? (i := 93) rfl))))), (List.mem_append_right _ (List.mem_append_right _ (List.mem_append_right _ (List.mem_append_left _ (List.mem_of_getElem? (i := 94) rfl)))))⟩⟩,
  (List.forall_mem_cons.mpr ⟨⟨⟨(List.mem_append_right _ (List.mem_append_right _ (List.mem_append_right _ (List.mem_append_left _ (List.mem_of_getElem? (i := 99) rfl))))), rfl⟩, (List.mem_append_right _ (List.mem_append_left _ (List.mem_of_getElem? (i := 1) rfl))), ⟨(List.mem_append_right _ (List.mem_append_right _ (List.mem_append_right _ (List.mem_append_left _ (List.mem_of_getElem? (i := 98) rfl))))), (List.mem_append_left _ (List.mem_map.mpr ⟨(⟨"FadingTrumps", "append", "(I)V"⟩, 13), (List.mem_append_left _ (List.mem_of_getElem? (i := 6) rfl)), rfl⟩))⟩⟩,
  (List.forall_mem_cons.mpr ⟨⟨⟨(List.mem_append_right _ (List.mem_append_right _ (List.mem_append_right _ (List.mem_append_left _ (List.mem_of_getElem? (i := 103) rfl))))), rfl⟩, (List.mem_append_right _ (List.mem_append_left _ (List.mem_of_getElem? (i := 1) rfl))), ⟨(List.mem_append_right _ (List.mem_append_right _ (List.mem_append_right _ (List.mem_append_left _ (List.mem_of_getElem? (i := 101) rfl))))), (List.mem_append_right _ (List.mem_append_right _ (List.mem_append_right _ (List.mem_append_left _ (List.mem_of_getElem? (i := 102) rfl)))))⟩⟩,
  (fun _ h => absurd h List.not_mem_nil)⟩)⟩)⟩)⟩)⟩)⟩)⟩)⟩)⟩)⟩)⟩)⟩)⟩)⟩)⟩)⟩)⟩)⟩)⟩)⟩)
set_option maxRecDepth 100000 in
theorem q_mw6 : ∀ x ∈ q_m6, q_mP x := (List.forall_mem_cons.mpr ⟨⟨⟨(List.mem_append_right _ (List.mem_append_right _ (List.mem_append_right _ (List.mem_append_right _ (List.mem_append_left _ (List.mem_of_getElem? (i := 122) rfl)))))), rfl⟩, (List.mem_append_right _ (List.mem_append_left _ (List.mem_of_getElem? (i := 1) rfl))), ⟨(List.mem_append_right _ (List.mem_append_right _ (List.mem_append_right _ (List.mem_append_right _ (List.mem_append_left _ (List.mem_of_getElem? (i := 120) rfl)))))), (List.mem_append_right _ (List.mem_append_right _ (List.mem_append_right _ (List.mem_append_right _ (List.mem_append_left _ (List.mem_of_getElem? (i := 121) rfl))))))⟩⟩,
  (List.forall_mem_cons.mpr ⟨⟨⟨(List.mem_append_right _ (List.mem_append_right _ (List.mem_append_left _ (List.mem_of_getElem? (i := 154) rfl)))), rfl⟩, (List.mem_append_right _ (List.mem_append_left _ (List.mem_of_getElem? (i := 7) rfl))), (List.mem_append_right _ (List.mem_append_right _ (List.mem_append_left _ (List.mem_of_getElem? (i := 153) rfl))))⟩,
  (List.forall_mem_cons.mpr ⟨⟨⟨(List.mem_append_right _ (List.mem_append_right _ (List.mem_append_right _ (List.mem_append_right _ (List.mem_append_left _ (List.mem_of_getElem? (i := 126) rfl)))))), rfl⟩, (List.mem_append_right _ (List.mem_append_left _ (List.mem_of_getElem? (i := 1) rfl))), ⟨(List.mem_append_right _ (List.mem_append_right _ (List.mem_append_right _ (List.mem_append_right _ (List.mem_append_left _ (List.mem_of_getElem? (i := 124) rfl)))))), (List.mem_append_right _ (List.mem_append_right _ (List.mem_append_right _ (List.mem_append_right _ (List.mem_append_left _ (List.mem_of_getElem? (i := 125) rfl))))))⟩⟩,
  (List.forall_mem_cons.mpr ⟨⟨⟨(List.mem_append_right _ (List.mem_append_right _ (List.mem_append_right _ (List.mem_append_right _ (List.mem_append_left _ (List.mem_of_getElem? (i := 202) rfl)))))), rfl⟩, (List.mem_append_right _ (List.mem_append_left _ (List.mem_of_getElem? (i := 1) rfl))), ⟨(List.mem_append_right _ (List.mem_append_right _ (List.mem_append_right _ (List.mem_append_right _ (List.mem_append_left _ (List.mem_of_getElem? (i := 200) rfl)))))), (List.mem_append_right _ (List.mem_append_right _ (List.mem_append_right _ (List.mem_append_right _ (List.mem_append_left _ (List.mem_of_getElem? (i := 201) rfl))))))⟩⟩,
  (List.forall_mem_cons.mpr ⟨⟨⟨(List.mem_append_right _ (List.mem_append_right _ (List.mem_append_right _ (List.mem_append_right _ (List.mem_append_left _ (List.mem_of_getElem? (i := 210) rfl)))))), rfl⟩, (List.mem_append_right _ (List.mem_append_left _ (List.mem_of_getElem? (i := 1) rfl))), ⟨(List.mem_append_right _ (List.mem_append_right _ (List.mem_append_right _ (List.mem_append_right _ (List.mem_append_left _ (List.mem_of_getElem? (i := 208) rfl)))))), (List.mem_append_right _ (List.mem_append_right _ (List.mem_append_right _ (List.mem_append_right _ (List.mem_append_left _ (List.mem_of_getElem? (i := 209) rfl))))))⟩⟩,
  (List.forall_mem_cons.mpr ⟨⟨⟨(List.mem_append_right _ (List.mem_append_right _ (List.mem_append_right _ (List.mem_append_right _ (List.mem_append_left _ (List.mem_of_getElem? (i := 153) rfl)))))), rfl⟩, (List.mem_append_right _ (List.mem_append_left _ (List.mem_of_getElem? (i := 1) rfl))), ⟨(List.mem_append_right _ (List.mem_append_right _ (List.mem_append_right _ (List.mem_append_right _ (List.mem_append_left _ (List.mem_of_getElem? (i := 151) rfl)))))), (List.mem_append_right _ (List.mem_append_right _ (List.mem_append_right _ (List.mem_append_right _ (List.mem_append_left _ (List.mem_of_getElem? (i := 152) rfl))))))⟩⟩,
  (List.forall_mem_cons.mpr ⟨⟨⟨(List.mem_append_right _ (List.mem_append_right _ (List.mem_append_right _ (List.mem_append_right _ (List.mem_append_left _ (List.mem_of_getElem? (i := 168) rfl)))))), rfl⟩, (List.mem_append_right _ (List.mem_append_left _ (List.mem_of_getElem? (i := 1) rfl))), ⟨(List.mem_append_right _ (List.mem_append_right _ (List.mem_append_right _ (List.mem_append_right _ (List.mem_append_left _ (List.mem_of_getElem? (i := 166) rfl)))))), (List.mem_append_right _ (List.mem_append_right _ (List.mem_append_right _ (List.mem_append_right _ (List.mem_append_left _ (List.mem_of_getElem? (i := 167) rfl))))))⟩⟩,
  (List.forall_mem_cons.mpr ⟨⟨⟨(List.mem_append_right _ (List.mem_append_right _ (List.mem_append_right _ (List.mem_append_right _ (List.mem_append_left _ (List.mem_of_getElem? (i := 178) rfl)))))), rfl⟩, (List.mem_append_right _ (List.mem_append_left _ (List.mem_of_getElem? (i := 1) rfl))), ⟨(List.mem_append_right _ (List.mem_append_right _ (List.mem_append_right _ (List.mem_append_right _ (List.mem_append_left _ (List.mem_of_getElem? (i := 176) rfl)))))), (List.mem_append_right _ (List.mem_append_right _ (List.mem_append_right _ (List.mem_append_right _ (List.mem_append_left _ (List.mem_of_getElem? (i := 177) rfl))))))⟩⟩,
  (List.forall_mem_cons.mpr ⟨⟨⟨(List.mem_append_right _ (List.mem_append_right _ (List.mem_append_right _ (List.mem_append_right _ (List.mem_append_right _ (List.mem_of_getElem? (i := 1) rfl)))))), rfl⟩, (List.mem_append_right _ (List.mem_append_left _ (List.mem_of_getElem? (i := 1) rfl))), ⟨(List.mem_append_right _ (List.mem_append_right _ (List.mem_append_right _ (List.mem_append_right _ (List.mem_append_left _ (List.mem_of_getElem? (i := 239) rfl)))))), (List.mem_append_right _ (List.mem_append_right _ (List.mem_append_right _ (List.mem_append_right _ (List.mem_append_right _ (List.mem_of_getElem? (i := 0) rfl))))))⟩⟩,
  (List.forall_mem_cons.mpr ⟨⟨⟨(List.mem_append_right _ (List.mem_append_right _ (List.mem_append_right _ (List.mem_append_right _ (List.mem_append_right _ (List.mem_of_getElem? (i := 13) rfl)))))), rfl⟩, (List.mem_append_right _ (List.mem_append_left _ (List.mem_of_getElem? (i := 1) rfl))), ⟨(List.mem_append_right _ (List.mem_append_right _ (List.mem_append_right _ (List.mem_append_right _ (List.mem_append_right _ (List.mem_of_getElem? (i := 11) rfl)))))), (List.mem_append_right _ (List.mem_append_right _ (List.mem_append_right _ (List.mem_append_right _ (List.mem_append_right _ (List.mem_of_getElem? (i := 12) rfl))))))⟩⟩,
  (List.forall_mem_cons.mpr ⟨⟨⟨(List.mem_append_right _ (List.mem_append_right _ (List.mem_append_right _ (List.mem_append_right _ (List.mem_append_right _ (List.mem_of_getElem? (i := 32) rfl)))))), rfl⟩, (List.mem_append_right _ (List.mem_append_left _ (List.mem_of_getElem? (i := 1) rfl))), ⟨(List.mem_append_right _ (List.mem_append_right _ (List.mem_append_right _ (List.mem_append_right _ (List.mem_append_right _ (List.mem_of_getElem? (i := 30) rfl)))))), (List.mem_append_right _ (List.mem_append_right _ (List.mem_append_right _ (List.mem_append_right _ (List.mem_append_right _ (List.mem_of_getElem? (i := 31) rfl))))))⟩⟩,
  (List.forall_mem_cons.mpr ⟨⟨⟨(List.mem_append_right _ (List.mem_append_right _ (List.mem_append_right _ (List.mem_append_right _ (List.mem_append_left _ (List.mem_of_getElem? (i := 222) rfl)))))), rfl⟩, (List.mem_append_right _ (List.mem_append_left _ (List.mem_of_getElem? (i := 1) rfl))), ⟨(List.mem_append_right _ (List.mem_append_right _ (List.mem_append_right _ (List.mem_append_right _ (List.mem_append_left _ (List.mem_of_getElem? (i := 220) rfl)))))), (List.mem_append_right _ (List.mem_append_right _ (List.mem_append_right _ (List.mem_append_right _ (List.mem_append_left _ (List.mem_of_getElem? (i := 221) rfl))))))⟩⟩,
  (List.forall_mem_cons.mpr ⟨⟨⟨(List.mem_append_right _ (List.mem_append_right _ (List.mem_append_right _ (List.mem_append_right _ (List.mem_append_left _ (List.mem_of_getElem? (i := 195) rfl)))))), rfl⟩, (List.mem_append_right _ (List.mem_append_left _ (List.mem_of_getElem? (i := 1) rfl))), ⟨(List.mem_append_right _ (List.mem_append_right _ (List.mem_append_right _ (List.mem_append_right _ (List.mem_append_left _ (List.mem_of_getElem? (i := 193) rfl)))))), (List.mem_append_right _ (List.mem_append_right _ (List.mem_append_right _ (List.mem_append_right _ (List.mem_append_left _ (List.mem_of_getElem? (i := 194) rfl))))))⟩⟩,
  (List.forall_mem_cons.mpr ⟨⟨⟨(List.mem_append_right _ (List.mem_append_right _ (List.mem_append_right _ (List.mem_append_right _ (List.mem_append_left _ (List.mem_of_getElem? (i := 218) rfl)))))), rfl⟩, (List.mem_append_right _ (List.mem_append_left _ (List.mem_of_getElem? (i := 1) rfl))), ⟨(List.mem_append_right _ (List.mem_append_right _ (List.mem_append_right _ (List.mem_append_right _ (List.mem_append_left _ (List.mem_of_getElem? (i := 216) rfl)))))), (List.mem_append_right _ (List.mem_append_right _ (List.mem_append_right _ (List.mem_append_right _ (List.mem_append_left _ (List.mem_of_getElem? (i := 217) rfl))))))⟩⟩,
  (List.forall_mem_cons.mpr ⟨⟨⟨(List.mem_append_right _ (List.mem_append_right _ (List.mem_append_right _ (List.mem_append_right _ (List.mem_append_left _ (List.mem_of_getElem? (i := 232) rfl)))))), rfl⟩, (List.mem_append_right _ (List.mem_append_left _ (List.mem_of_getElem? (i := 1) rfl))), ⟨(List.mem_append_right _ (List.mem_append_right _ (List.mem_append_right _ (List.mem_append_right _ (List.mem_append_left _ (List.mem_of_getElem? (i := 230) rfl)))))), (List.mem_append_right _ (List.mem_append_right _ (List.mem_append_right _ (List.mem_append_right _ (List.mem_append_left _ (List.mem_of_getElem? (i := 231) rfl))))))⟩⟩,
  (List.forall_mem_cons.mpr ⟨⟨⟨(List.mem_append_right _ (List.mem_append_right _ (List.mem_append_right _ (List.mem_append_right _ (List.mem_append_left _ (List.mem_of_getElem? (i := 183) rfl)))))), rfl⟩, (List.mem_append_right _ (List.mem_append_left _ (List.mem_of_getElem? (i := 1) rfl))), ⟨(List.mem_append_right _ (List.mem_append_right _ (List.mem_append_right _ (List.mem_append_right _ (List.mem_append_left _ (List.mem_of_getElem? (i := 181) rfl)))))), (List.mem_append_right _ (List.mem_append_right _ (List.mem_append_right _ (List.mem_append_right _ (List.mem_append_left _ (List.mem_of_getElem? (i := 182) rfl))))))⟩⟩,
  (List.forall_mem_cons.mpr ⟨⟨⟨(List.mem_append_right _ (List.mem_append_right _ (List.mem_append_right _ (List.mem_append_right _ (List.mem_append_right _ (List.mem_of_getElem? (i := 39) rfl)))))), rfl⟩, (List.mem_append_right _ (List.mem_append_left _ (List.mem_of_getElem? (i := 1) rfl))), ⟨(List.mem_append_right _ (List.mem_append_right _ (List.mem_append_right _ (List.mem_append_right _ (List.mem_append_right _ (List.mem_of_getElem? (i := 37) rfl)))))), (List.mem_append_right _ (List.mem_append_right _ (List.mem_append_right _ (List.mem_append_right _ (List.mem_append_right _ (List.mem_of_getElem? (i := 38) rfl))))))⟩⟩,
  (List.forall_mem_cons.mpr ⟨⟨⟨(List.mem_append_right _ (List.mem_append_right _ (List.mem_append_right _ (List.mem_append_right _ (List.mem_append_right _ (List.mem_of_getElem? (i := 43) rfl)))))), rfl⟩, (List.mem_append_right _ (List.mem_append_left _ (List.mem_of_getElem? (i := 1) rfl))), ⟨(List.mem_append_right _ (List.mem_append_right _ (List.mem_append_right _ (List.mem_append_right _ (List.mem_append_right _ (List.mem_of_getElem? (i := 41) rfl)))))), (List.mem_append_right _ (List.mem_append_right _ (List.mem_append_right _ (List.mem_append_right _ (List.mem_append_right _ (List.mem_of_getElem? (i := 42) rfl))))))⟩⟩,
  (List.forall_mem_cons.mpr ⟨⟨⟨(List.mem_append_right _ (List.mem_append_right _ (List.mem_append_left _ (List.mem_of_getElem? (i := 154) rfl)))), rfl⟩, (List.mem_append_right _ (List.mem_append_left _ (List.mem_of_getElem? (i := 7) rfl))), (List.mem_append_right _ (List.mem_append_right _ (List.mem_append_left _ (List.mem_of_getElem? (i := 153) rfl))))⟩,
  (List.forall_mem_cons.mpr ⟨⟨⟨(List.mem_append_right _ (List.mem_append_right _ (List.mem_append_left _ (List.mem_of_getElem? (i := 154) rfl)))), rfl⟩, (List.mem_append_right _ (List.mem_append_left _ (List.mem_of_getElem? (i := 7) rfl))), (List.mem_append_right _ (List.mem_append_right _ (List.mem_append_left _ (List.mem_of_getElem? (i := 153) rfl))))⟩,
  (fun _ h => absurd h List.not_mem_nil)⟩)⟩)⟩)⟩)⟩)⟩)⟩)⟩)⟩)⟩)⟩)⟩)⟩)⟩)⟩)⟩)⟩)⟩)⟩)⟩)
set_option maxRecDepth 100000 in
theorem q_mw7 : ∀ x ∈ q_m7, q_mP x := (List.forall_mem_cons.mpr ⟨⟨⟨(List.mem_append_right _ (List.mem_append_right _ (List.mem_append_left _ (List.mem_of_getElem? (i := 154) rfl)))), rfl⟩, (List.mem_append_right _ (List.mem_append_left _ (List.mem_of_getElem? (i := 7) rfl))), (List.mem_append_right _ (List.mem_append_right _ (List.mem_append_left _ (List.mem_of_getElem? (i := 153) rfl))))⟩,
  (List.forall_mem_cons.mpr ⟨⟨⟨(List.mem_append_right _ (List.mem_append_right _ (List.mem_append_left _ (List.mem_of_getElem? (i := 154) rfl)))), rfl⟩, (List.mem_append_right _ (List.mem_append_left _ (List.mem_of_getElem? (i := 7) rfl))), (List.mem_append_right _ (List.mem_append_right _ (List.mem_append_left _ (List.mem_of_getElem? (i := 153) rfl))))⟩,
  (List.forall_mem_cons.mpr ⟨⟨⟨(List.mem_append_right _ (List.mem_append_right _ (List.mem_append_left _ (List.mem_of_getElem? (i := 154) rfl)))), rfl⟩, (List.mem_append_right _ (List.mem_append_left _ (List.mem_of_getElem? (i := 7) rfl))), (List.mem_append_right _ (List.mem_append_right _ (List.mem_append_left _ (List.mem_of_getElem? (i := 153) rfl))))⟩,
  (List.forall_mem_cons.mpr ⟨⟨⟨(List.mem_append_right _ (List.mem_append_right _ (List.mem_append_left _ (List.mem_of_getElem? (i := 154) rfl)))), rfl⟩, (List.mem_append_right _ (List.mem_append_left _ (List.mem_of_getElem? (i := 7) rfl))), (List.mem_append_right _ (List.mem_append_right _ (List.mem_append_left _ (List.mem_of_getElem? (i := 153) rfl))))⟩,
  (List.forall_mem_cons.mpr ⟨⟨⟨(List.mem_append_right _ (List.mem_append_right _ (List.mem_append_left _ (List.mem_of_getElem? (i := 154) rfl)))), rfl⟩, (List.mem_append_right _ (List.mem_append_left _ (List.mem_of_getElem? (i := 7) rfl))), (List.mem_append_right _ (List.mem_append_right _ (List.mem_append_left _ (List.mem_of_getElem? (i := 153) rfl))))⟩,
  (List.forall_mem_cons.mpr ⟨⟨⟨(List.mem_append_right _ (List.mem_append_right _ (List.mem_append_left _ (List.mem_of_getElem? (i := 154) rfl)))), rfl⟩, (List.mem_append_right _ (List.mem_append_left _ (List.mem_of_getElem? (i := 7) rfl))), (List.mem_append_right _ (List.mem_append_right _ (List.mem_append_left _ (List.mem_of_getElem? (i := 153) rfl))))⟩,
  (List.forall_mem_cons.mpr ⟨⟨⟨(List.mem_append_right _ (List.mem_append_right _ (List.mem_append_left _ (List.mem_of_getElem? (i := 154) rfl)))), rfl⟩, (List.mem_append_right _ (List.mem_append_left _ (List.mem_of_getElem? (i := 7) rfl))), (List.mem_append_right _ (List.mem_append_right _ (List.mem_append_left _ (List.mem_of_getElem? (i := 153) rfl))))⟩,
  (List.forall_mem_cons.mpr ⟨⟨⟨(List.mem_append_right _ (List.mem_append_right _ (List.mem_append_left _ (List.mem_of_getElem? (i := 154) rfl)))), rfl⟩, (List.mem_append_right _ (List.mem_append_left _ (List.mem_of_getElem? (i := 7) rfl))), (List.mem_append_right _ (List.mem_append_right _ (List.mem_append_left _ (List.mem_of_getElem? (i := 153) rfl))))⟩,
  (List.forall_mem_cons.mpr ⟨⟨⟨(List.mem_append_right _ (List.mem_append_right _ (List.mem_append_left _ (List.mem_of_getElem? (i := 154) rfl)))), rfl⟩, (List.mem_append_right _ (List.mem_append_left _ (List.mem_of_getElem? (i := 7) rfl))), (List.mem_append_right _ (List.mem_append_right _ (List.mem_append_left _ (List.mem_of_getElem? (i := 153) rfl))))⟩,
  (List.forall_mem_cons.mpr ⟨⟨⟨(List.mem_append_right _ (List.mem_append_right _ (List.mem_append_left _ (List.mem_of_getElem? (i := 154) rfl)))), rfl⟩, (List.mem_append_right _ (List.mem_append_left _ (List.mem_of_getElem? (i := 7) rfl))), (List.mem_append_right _ (List.mem_append_right _ (List.mem_append_left _ (List.mem_of_getElem? (i := 153) rfl))))⟩,
  (List.forall_mem_cons.mpr ⟨⟨⟨(List.mem_append_right _ (List.mem_append_right _ (List.mem_append_left _ (List.mem_of_getElem? (i := 154) rfl)))), rfl⟩, (List.mem_append_right _ (List.mem_append_left _ (List.mem_of_getElem? (i := 7) rfl))), (List.mem_append_right _ (List.mem_append_right _ (List.mem_append_left _ (List.mem_of_getElem? (i := 153) rfl))))⟩,
  (List.forall_mem_cons.mpr ⟨⟨⟨(List.mem_append_right _ (List.mem_append_right _ (List.mem_append_right _ (List.mem_append_right _ (List.mem_append_right _ (List.mem_of_getElem? (i := 47) rfl)))))), rfl⟩, (List.mem_append_right _ (List.mem_append_left _ (List.mem_of_getElem? (i := 1) rfl))), ⟨(List.mem_append_right _ (List.mem_append_right _ (List.mem_append_right _ (List.mem_append_right _ (List.mem_append_right _ (List.mem_of_getElem? (i := 45) rfl)))))), (List.mem_append_right _ (List.mem_append_right _ (List.mem_append_right _ (List.mem_append_right _ (List.mem_append_right _ (List.mem_of_getElem? (i := 46) rfl))))))⟩⟩,
  (List.forall_mem_cons.mpr ⟨⟨⟨(List.mem_append_right _ (List.mem_append_right _ (List.mem_append_right _ (List.mem_append_right _ (List.mem_append_right _ (List.mem_of_getElem? (i := 54) rfl)))))), rfl⟩, (List.mem_append_right _ (List.mem_append_left _ (List.mem_of_getElem? (i := 1) rfl))), ⟨(List.mem_append_right _ (List.mem_append_right _ (List.mem_append_right _ (List.mem_append_right _ (List.mem_append_right _ (List.mem_of_getElem? (i := 52) rfl)))))), (List.mem_append_right _ (List.mem_append_right _ (List.mem_append_right _ (List.mem_append_right _ (List.mem_append_right _ (List.mem_of_getElem? (i := 53) rfl))))))⟩⟩,
  (List.forall_mem_cons.mpr ⟨⟨⟨(List.mem_append_right _ (List.mem_append_right _ (List.mem_append_right _ (List.mem_append_right _ (List.mem_append_right _ (List.mem_of_getElem? (i := 115) rfl)))))), rfl⟩, (List.mem_append_right _ (List.mem_append_left _ (List.mem_of_getElem? (i := 1) rfl))), ⟨(List.mem_append_right _ (List.mem_append_right _ (List.mem_append_right _ (List.mem_append_right _ (List.mem_append_right _ (List.mem_of_getElem? (i := 113) rfl)))))), (List.mem_append_right _ (List.mem_append_right _ (List.mem_append_right _ (List.mem_append_right _ (List.mem_append_right _ (List.mem_of_getElem? (i := 114) rfl))))))⟩⟩,
  (List.forall_mem_cons.mpr ⟨⟨⟨(List.mem_append_right _ (List.mem_append_right _ (List.mem_append_right _ (List.mem_append_right _ (List.mem_append_right _ (List.mem_of_getElem? (i := 163) rfl)))))), rfl⟩, (List.mem_append_right _ (List.mem_append_left _ (List.mem_of_getElem? (i := 1) rfl))), ⟨(List.mem_append_right _ (List.mem_append_right _ (List.mem_append_right _ (List.mem_append_right _ (List.mem_append_right _ (List.mem_of_getElem? (i := 161) rfl)))))), (List.mem_append_right _ (List.mem_append_right _ (List.mem_append_right _ (List.mem_append_right _ (List.mem_append_right _ (List.mem_of_getElem? (i := 162) rfl))))))⟩⟩,
  (List.forall_mem_cons.mpr ⟨⟨⟨(List.mem_append_right _ (List.mem_append_right _ (List.mem_append_right _ (List.mem_append_right _ (List.mem_append_right _ (List.mem_of_getElem? (i := 156) rfl)))))), rfl⟩, (List.mem_append_right _ (List.mem_append_left _ (List.mem_of_getElem? (i := 1) rfl))), ⟨(List.mem_append_right _ (List.mem_append_right _ (List.mem_append_right _ (List.mem_append_right _ (List.mem_append_right _ (List.mem_of_getElem? (i := 154) rfl)))))), (List.mem_append_right _ (List.mem_append_right _ (List.mem_append_right _ (List.mem_append_right _ (List.mem_append_right _ (List.mem_of_getElem? (i := 155) rfl))))))⟩⟩,
  (List.forall_mem_cons.mpr ⟨⟨⟨(List.mem_append_right _ (List.mem_append_right _ (List.mem_append_right _ (List.mem_append_right _ (List.mem_append_right _ (List.mem_of_getElem? (i := 168) rfl)))))), rfl⟩, (List.mem_append_right _ (List.mem_append_left _ (List.mem_of_getElem? (i := 1) rfl))), ⟨(List.mem_append_right _ (List.mem_append_right _ (List.mem_append_right _ (List.mem_append_right _ (List.mem_append_right _ (List.mem_of_getElem? (i := 166) rfl)))))), (List.mem_append_right _ (List.mem_append_right _ (List.mem_append_right _ (List.mem_append_right _ (List.mem_append_right _ (List.mem_of_getElem? (i := 167) rfl))))))⟩⟩,
  (List.forall_mem_cons.mpr ⟨⟨⟨(List.mem_append_right _ (List.mem_append_right _ (List.mem_append_right _ (List.mem_append_right _ (List.mem_append_right _ (List.mem_of_getElem? (i := 173) rfl)))))), rfl⟩, (List.mem_append_right _ (List.mem_append_left _ (List.mem_of_getElem? (i := 1) rfl))), ⟨(List.mem_append_right _ (List.mem_append_right _ (List.mem_append_right _ (List.mem_append_right _ (List.mem_append_right _ (List.mem_of_getElem? (i := 171) rfl)))))), (List.mem_append_right _ (List.mem_append_right _ (List.mem_append_right _ (List.mem_append_right _ (List.mem_append_right _ (List.mem_of_getElem? (i := 172) rfl))))))⟩⟩,
  (List.forall_mem_cons.mpr ⟨⟨⟨(List.mem_append_right _ (List.mem_append_right _ (List.mem_append_right _ (List.mem_append_right _ (List.mem_append_right _ (List.mem_of_getElem? (i := 177) rfl)))))), rfl⟩, (List.mem_append_right _ (List.mem_append_left _ (List.mem_of_getElem? (i := 1) rfl))), ⟨(List.mem_append_right _ (List.mem_append_right _ (List.mem_append_right _ (List.mem_append_right _ (List.mem_append_right _ (List.mem_of_getElem? (i := 175) rfl)))))), (List.mem_append_right _ (List.mem_append_right _ (List.mem_append_right _ (List.mem_append_right _ (List.mem_append_right _ (List.mem_of_getElem? (i := 176) rfl))))))⟩⟩,
  (List.forall_mem_cons.mpr ⟨⟨⟨(List.mem_append_right _ (List.mem_append_right _ (List.mem_append_right _ (List.mem_append_right _ (List.mem_append_right _ (List.mem_of_getElem? (i := 181) rfl)))))), rfl⟩, (List.mem_append_right _ (List.mem_append_left _ (List.mem_of_getElem? (i := 1) rfl))), ⟨(List.mem_append_right _ (List.mem_append_right _ (List.mem_append_right _ (List.mem_append_right _ (List.mem_append_right _ (List.mem_of_getElem? (i := 179) rfl)))))), (List.mem_append_right _ (List.mem_append_right _ (List.mem_append_right _ (List.mem_append_right _ (List.mem_append_right _ (List.mem_of_getElem? (i := 180) rfl))))))⟩⟩,
  (fun _ h => absurd h List.not_mem_nil)⟩)⟩)⟩)⟩)⟩)⟩)⟩)⟩)⟩)⟩)⟩)⟩)⟩)⟩)⟩)⟩)⟩)⟩)⟩)⟩)
set_option maxRecDepth 100000 in
theorem q_mw8 : ∀ x ∈ q_m8, q_mP x := (List.forall_mem_cons.mpr ⟨⟨⟨(List.mem_append_right _ (List.mem_append_right _ (List.mem_append_left _ (List.mem_of_getElem? (i := 154) rfl)))), rfl⟩, (List.mem_append_right _ (List.mem_append_left _ (List.mem_of_getElem? (i := 7) rfl))), (List.mem_append_right _ (List.mem_append_right _ (List.mem_append_left _ (List.mem_of_getElem? (i := 153) rfl))))⟩,
  (List.forall_mem_cons.mpr ⟨⟨⟨(List.mem_append_right _ (List.mem_append_right _ (List.mem_append_left _ (List.mem_of_getElem? (i := 154) rfl)))), rfl⟩, (List.mem_append_right _ (List.mem_append_left _ (List.mem_of_getElem? (i := 7) rfl))), (List.mem_append_right _ (List.mem_append_right _ (List.mem_append_left _ (List.mem_of_getElem? (i := 153) rfl))))⟩,
  (List.forall_mem_cons.mpr ⟨⟨⟨(List.mem_append_right _ (List.mem_append_right _ (List.mem_append_left _ (List.mem_of_getElem? (i := 154) rfl)))), rfl⟩, (List.mem_append_right _ (List.mem_append_left _ (List.mem_of_getElem? (i := 7) rfl))), (List.mem_append_right _ (List.mem_append_right _ (List.mem_append_left _ (List.mem_of_getElem? (i := 153) rfl))))⟩,
  (List.forall_mem_cons.mpr ⟨⟨⟨(List.mem_append_right _ (List.mem_append_right _ (List.mem_append_right _ (List.mem_append_right _ (List.mem_append_right _ (List.mem_of_getElem? (i := 144) rfl)))))), rfl⟩, (List.mem_append_right _ (List.mem_append_left _ (List.mem_of_getElem? (i := 1) rfl))), ⟨(List.mem_append_right _ (List.mem_append_right _ (List.mem_append_right _ (List.mem_append_right _ (List.mem_append_right _ (List.mem_of_getElem? (i := 142) rfl)))))), (List.mem_append_right _ (List.mem_append_right _ (List.mem_append_right _ (List.mem_append_right _ (List.mem_append_right _ (List.mem_of_getElem? (i := 143) rfl))))))⟩⟩,
  (List.forall_mem_cons.mpr ⟨⟨⟨(List.mem_append_right _ (List.mem_append_right _ (List.mem_append_left _ (List.mem_of_getElem? (i := 154) rfl)))), rfl⟩, (List.mem_append_right _ (List.mem_append_left _ (List.mem_of_getElem? (i := 7) rfl))), (List.mem_append_right _ (List.mem_append_right _ (List.mem_append_left _ (List.mem_of_getElem? (i := 153) rfl))))⟩,
  (List.forall_mem_cons.mpr ⟨⟨⟨(List.mem_append_right _ (List.mem_append_right _ (List.mem_append_left _ (List.mem_of_getElem? (i := 154) rfl)))), rfl⟩, (List.mem_append_right _ (List.mem_append_left _ (List.mem_of_getElem? (i := 7) rfl))), (List.mem_append_right _ (List.mem_append_right _ (List.mem_append_left _ (List.mem_of_getElem? (i := 153) rfl))))⟩,
  (List.forall_mem_cons.mpr ⟨⟨⟨(List.mem_append_right _ (List.mem_append_right _ (List.mem_append_right _ (List.mem_append_right _ (List.mem_append_left _ (List.mem_of_getElem? (i := 157) rfl)))))), rfl⟩, (List.mem_append_right _ (List.mem_append_left _ (List.mem_of_getElem? (i := 1) rfl))), ⟨(List.mem_append_right _ (List.mem_append_right _ (List.mem_append_right _ (List.mem_append_right _ (List.mem_append_left _ (List.mem_of_getElem? (i := 156) rfl)))))), (List.mem_append_left _ (List.mem_map.mpr ⟨(⟨"FadingTrumps", "needCard", "(I)V"⟩, 13), (List.mem_append_right _ (List.mem_of_getElem? (i := 3) rfl)), rfl⟩))⟩⟩,
  (List.forall_mem_cons.mpr ⟨⟨⟨(List.mem_append_right _ (List.mem_append_right _ (List.mem_append_right _ (List.mem_append_right _ (List.mem_append_left _ (List.mem_of_getElem? (i := 172) rfl)))))), rfl⟩, (List.mem_append_right _ (List.mem_append_left _ (List.mem_of_getElem? (i := 1) rfl))), ⟨(List.mem_append_right _ (List.mem_append_right _ (List.mem_append_right _ (List.mem_append_right _ (List.mem_append_left _ (List.mem_of_getElem? (i := 171) rfl)))))), (List.mem_append_left _ (List.mem_map.mpr ⟨(⟨"FadingTrumps", "needPlayer", "(I)V"⟩, 13), (List.mem_append_right _ (List.mem_of_getElem? (i := 4) rfl)), rfl⟩))⟩⟩,
  (List.forall_mem_cons.mpr ⟨⟨⟨(List.mem_append_right _ (List.mem_append_right _ (List.mem_append_right _ (List.mem_append_right _ (List.mem_append_right _ (List.mem_of_getElem? (i := 5) rfl)))))), rfl⟩, (List.mem_append_right _ (List.mem_append_left _ (List.mem_of_getElem? (i := 1) rfl))), ⟨(List.mem_append_right _ (List.mem_append_right _ (List.mem_append_right _ (List.mem_append_right _ (List.mem_append_right _ (List.mem_of_getElem? (i := 4) rfl)))))), (List.mem_append_left _ (List.mem_map.mpr ⟨(⟨"FadingTrumps", "needSuit", "(I)V"⟩, 13), (List.mem_append_right _ (List.mem_of_getElem? (i := 5) rfl)), rfl⟩))⟩⟩,
  (List.forall_mem_cons.mpr ⟨⟨⟨(List.mem_append_right _ (List.mem_append_right _ (List.mem_append_right _ (List.mem_append_right _ (List.mem_append_right _ (List.mem_of_getElem? (i := 119) rfl)))))), rfl⟩, (List.mem_append_right _ (List.mem_append_left _ (List.mem_of_getElem? (i := 1) rfl))), ⟨(List.mem_append_right _ (List.mem_append_right _ (List.mem_append_right _ (List.mem_append_right _ (List.mem_append_right _ (List.mem_of_getElem? (i := 118) rfl)))))), (List.mem_append_left _ (List.mem_map.mpr ⟨(⟨"FadingTrumps", "needRange", "(III)V"⟩, 13), (List.mem_append_right _ (List.mem_of_getElem? (i := 12) rfl)), rfl⟩))⟩⟩,
  (List.forall_mem_cons.mpr ⟨⟨⟨(List.mem_append_right _ (List.mem_append_right _ (List.mem_append_left _ (List.mem_of_getElem? (i := 239) rfl)))), rfl⟩, (List.mem_append_right _ (List.mem_append_left _ (List.mem_of_getElem? (i := 0) rfl))), (List.mem_append_right _ (List.mem_append_right _ (List.mem_append_left _ (List.mem_of_getElem? (i := 238) rfl))))⟩,
  (List.forall_mem_cons.mpr ⟨⟨⟨(List.mem_append_right _ (List.mem_append_right _ (List.mem_append_right _ (List.mem_append_left _ (List.mem_of_getElem? (i := 26) rfl))))), rfl⟩, (List.mem_append_right _ (List.mem_append_left _ (List.mem_of_getElem? (i := 0) rfl))), ⟨(List.mem_append_right _ (List.mem_append_right _ (List.mem_append_right _ (List.mem_append_left _ (List.mem_of_getElem? (i := 25) rfl))))), (List.mem_append_left _ (List.mem_map.mpr ⟨(⟨"FadingTrumpsLaw", "writes", "(Ljava/lang/String;)V"⟩, 2), (List.mem_append_left _ (List.mem_of_getElem? (i := 3) rfl)), rfl⟩))⟩⟩,
  (List.forall_mem_cons.mpr ⟨⟨⟨(List.mem_append_right _ (List.mem_append_right _ (List.mem_append_right _ (List.mem_append_left _ (List.mem_of_getElem? (i := 78) rfl))))), rfl⟩, (List.mem_append_right _ (List.mem_append_left _ (List.mem_of_getElem? (i := 0) rfl))), ⟨(List.mem_append_right _ (List.mem_append_right _ (List.mem_append_right _ (List.mem_append_left _ (List.mem_of_getElem? (i := 77) rfl))))), (List.mem_append_left _ (List.mem_map.mpr ⟨(⟨"FadingTrumpsLaw", "spaced", "(I)V"⟩, 2), (List.mem_append_left _ (List.mem_of_getElem? (i := 4) rfl)), rfl⟩))⟩⟩,
  (List.forall_mem_cons.mpr ⟨⟨⟨(List.mem_append_right _ (List.mem_append_right _ (List.mem_append_right _ (List.mem_append_left _ (List.mem_of_getElem? (i := 14) rfl))))), rfl⟩, (List.mem_append_right _ (List.mem_append_left _ (List.mem_of_getElem? (i := 0) rfl))), (List.mem_append_right _ (List.mem_append_right _ (List.mem_append_right _ (List.mem_append_left _ (List.mem_of_getElem? (i := 13) rfl)))))⟩,
  (List.forall_mem_cons.mpr ⟨⟨⟨(List.mem_append_right _ (List.mem_append_right _ (List.mem_append_right _ (List.mem_append_left _ (List.mem_of_getElem? (i := 91) rfl))))), rfl⟩, (List.mem_append_right _ (List.mem_append_left _ (List.mem_of_getElem? (i := 0) rfl))), ⟨(List.mem_append_right _ (List.mem_append_right _ (List.mem_append_right _ (List.mem_append_left _ (List.mem_of_getElem? (i := 90) rfl))))), (List.mem_append_left _ (List.mem_map.mpr ⟨(⟨"FadingTrumpsLaw", "feeds", "(LFadingTrumps;)I"⟩, 2), (List.mem_append_left _ (List.mem_of_getElem? (i := 5) rfl)), rfl⟩))⟩⟩,
  (List.forall_mem_cons.mpr ⟨⟨⟨(List.mem_append_right _ (List.mem_append_right _ (List.mem_append_right _ (List.mem_append_left _ (List.mem_of_getElem? (i := 11) rfl))))), rfl⟩, (List.mem_append_right _ (List.mem_append_left _ (List.mem_of_getElem? (i := 0) rfl))), ⟨(List.mem_append_right _ (List.mem_append_right _ (List.mem_append_right _ (List.mem_append_left _ (List.mem_of_getElem? (i := 10) rfl))))), (List.mem_append_left _ (List.mem_map.mpr ⟨(⟨"FadingTrumpsLaw", "loads", "(LFadingTrumps;[I)Z"⟩, 2), (List.mem_append_left _ (List.mem_of_getElem? (i := 2) rfl)), rfl⟩))⟩⟩,
  (List.forall_mem_cons.mpr ⟨⟨⟨(List.mem_append_right _ (List.mem_append_right _ (List.mem_append_right _ (List.mem_append_right _ (List.mem_append_left _ (List.mem_of_getElem? (i := 148) rfl)))))), rfl⟩, (List.mem_append_right _ (List.mem_append_left _ (List.mem_of_getElem? (i := 0) rfl))), (List.mem_append_right _ (List.mem_append_right _ (List.mem_append_right _ (List.mem_append_right _ (List.mem_append_left _ (List.mem_of_getElem? (i := 147) rfl))))))⟩,
  (List.forall_mem_cons.mpr ⟨⟨⟨(List.mem_append_right _ (List.mem_append_right _ (List.mem_append_right _ (List.mem_append_right _ (List.mem_append_right _ (List.mem_of_getElem? (i := 152) rfl)))))), rfl⟩, (List.mem_append_right _ (List.mem_append_left _ (List.mem_of_getElem? (i := 0) rfl))), (List.mem_append_right _ (List.mem_append_right _ (List.mem_append_right _ (List.mem_append_right _ (List.mem_append_right _ (List.mem_of_getElem? (i := 151) rfl))))))⟩,
  (List.forall_mem_cons.mpr ⟨⟨⟨(List.mem_append_right _ (List.mem_append_right _ (List.mem_append_right _ (List.mem_append_right _ (List.mem_append_left _ (List.mem_of_getElem? (i := 161) rfl)))))), rfl⟩, (List.mem_append_right _ (List.mem_append_left _ (List.mem_of_getElem? (i := 0) rfl))), (List.mem_append_right _ (List.mem_append_right _ (List.mem_append_right _ (List.mem_append_right _ (List.mem_append_left _ (List.mem_of_getElem? (i := 160) rfl))))))⟩,
  (List.forall_mem_cons.mpr ⟨⟨⟨(List.mem_append_right _ (List.mem_append_right _ (List.mem_append_right _ (List.mem_append_right _ (List.mem_append_left _ (List.mem_of_getElem? (i := 164) rfl)))))), rfl⟩, (List.mem_append_right _ (List.mem_append_left _ (List.mem_of_getElem? (i := 0) rfl))), (List.mem_append_right _ (List.mem_append_right _ (List.mem_append_right _ (List.mem_append_right _ (List.mem_append_left _ (List.mem_of_getElem? (i := 163) rfl))))))⟩,
  (fun _ h => absurd h List.not_mem_nil)⟩)⟩)⟩)⟩)⟩)⟩)⟩)⟩)⟩)⟩)⟩)⟩)⟩)⟩)⟩)⟩)⟩)⟩)⟩)⟩)
set_option maxRecDepth 100000 in
theorem q_mw9 : ∀ x ∈ q_m9, q_mP x := (List.forall_mem_cons.mpr ⟨⟨⟨(List.mem_append_right _ (List.mem_append_right _ (List.mem_append_right _ (List.mem_append_right _ (List.mem_append_left _ (List.mem_of_getElem? (i := 198) rfl)))))), rfl⟩, (List.mem_append_right _ (List.mem_append_left _ (List.mem_of_getElem? (i := 0) rfl))), (List.mem_append_right _ (List.mem_append_right _ (List.mem_append_right _ (List.mem_append_right _ (List.mem_append_left _ (List.mem_of_getElem? (i := 197) rfl))))))⟩,
  (List.forall_mem_cons.mpr ⟨⟨⟨(List.mem_append_right _ (List.mem_append_right _ (List.mem_append_right _ (List.mem_append_right _ (List.mem_append_left _ (List.mem_of_getElem? (i := 191) rfl)))))), rfl⟩, (List.mem_append_right _ (List.mem_append_left _ (List.mem_of_getElem? (i := 0) rfl))), (List.mem_append_right _ (List.mem_append_right _ (List.mem_append_right _ (List.mem_append_right _ (List.mem_append_left _ (List.mem_of_getElem? (i := 190) rfl))))))⟩,
  (List.forall_mem_cons.mpr ⟨⟨⟨(List.mem_append_right _ (List.mem_append_right _ (List.mem_append_right _ (List.mem_append_right _ (List.mem_append_right _ (List.mem_of_getElem? (i := 35) rfl)))))), rfl⟩, (List.mem_append_right _ (List.mem_append_left _ (List.mem_of_getElem? (i := 0) rfl))), (List.mem_append_right _ (List.mem_append_right _ (List.mem_append_right _ (List.mem_append_right _ (List.mem_append_right _ (List.mem_of_getElem? (i := 34) rfl))))))⟩,
  (List.forall_mem_cons.mpr ⟨⟨⟨(List.mem_append_right _ (List.mem_append_right _ (List.mem_append_right _ (List.mem_append_right _ (List.mem_append_right _ (List.mem_of_getElem? (i := 50) rfl)))))), rfl⟩, (List.mem_append_right _ (List.mem_append_left _ (List.mem_of_getElem? (i := 0) rfl))), (List.mem_append_right _ (List.mem_append_right _ (List.mem_append_right _ (List.mem_append_right _ (List.mem_append_right _ (List.mem_of_getElem? (i := 49) rfl))))))⟩,
  (List.forall_mem_cons.mpr ⟨⟨⟨(List.mem_append_right _ (List.mem_append_right _ (List.mem_append_left _ (List.mem_of_getElem? (i := 154) rfl)))), rfl⟩, (List.mem_append_right _ (List.mem_append_left _ (List.mem_of_getElem? (i := 7) rfl))), (List.mem_append_right _ (List.mem_append_right _ (List.mem_append_left _ (List.mem_of_getElem? (i := 153) rfl))))⟩,
  (List.forall_mem_cons.mpr ⟨⟨⟨(List.mem_append_right _ (List.mem_append_right _ (List.mem_append_left _ (List.mem_of_getElem? (i := 154) rfl)))), rfl⟩, (List.mem_append_right _ (List.mem_append_left _ (List.mem_of_getElem? (i := 7) rfl))), (List.mem_append_right _ (List.mem_append_right _ (List.mem_append_left _ (List.mem_of_getElem? (i := 153) rfl))))⟩,
  (List.forall_mem_cons.mpr ⟨⟨⟨(List.mem_append_right _ (List.mem_append_right _ (List.mem_append_left _ (List.mem_of_getElem? (i := 154) rfl)))), rfl⟩, (List.mem_append_right _ (List.mem_append_left _ (List.mem_of_getElem? (i := 7) rfl))), (List.mem_append_right _ (List.mem_append_right _ (List.mem_append_left _ (List.mem_of_getElem? (i := 153) rfl))))⟩,
  (List.forall_mem_cons.mpr ⟨⟨⟨(List.mem_append_right _ (List.mem_append_right _ (List.mem_append_left _ (List.mem_of_getElem? (i := 154) rfl)))), rfl⟩, (List.mem_append_right _ (List.mem_append_left _ (List.mem_of_getElem? (i := 7) rfl))), (List.mem_append_right _ (List.mem_append_right _ (List.mem_append_left _ (List.mem_of_getElem? (i := 153) rfl))))⟩,
  (List.forall_mem_cons.mpr ⟨⟨⟨(List.mem_append_right _ (List.mem_append_right _ (List.mem_append_left _ (List.mem_of_getElem? (i := 154) rfl)))), rfl⟩, (List.mem_append_right _ (List.mem_append_left _ (List.mem_of_getElem? (i := 7) rfl))), (List.mem_append_right _ (List.mem_append_right _ (List.mem_append_left _ (List.mem_of_getElem? (i := 153) rfl))))⟩,
  (List.forall_mem_cons.mpr ⟨⟨⟨(List.mem_append_right _ (List.mem_append_right _ (List.mem_append_left _ (List.mem_of_getElem? (i := 154) rfl)))), rfl⟩, (List.mem_append_right _ (List.mem_append_left _ (List.mem_of_getElem? (i := 7) rfl))), (List.mem_append_right _ (List.mem_append_right _ (List.mem_append_left _ (List.mem_of_getElem? (i := 153) rfl))))⟩,
  (List.forall_mem_cons.mpr ⟨⟨⟨(List.mem_append_right _ (List.mem_append_right _ (List.mem_append_left _ (List.mem_of_getElem? (i := 154) rfl)))), rfl⟩, (List.mem_append_right _ (List.mem_append_left _ (List.mem_of_getElem? (i := 7) rfl))), (List.mem_append_right _ (List.mem_append_right _ (List.mem_append_left _ (List.mem_of_getElem? (i := 153) rfl))))⟩,
  (List.forall_mem_cons.mpr ⟨⟨⟨(List.mem_append_right _ (List.mem_append_right _ (List.mem_append_left _ (List.mem_of_getElem? (i := 154) rfl)))), rfl⟩, (List.mem_append_right _ (List.mem_append_left _ (List.mem_of_getElem? (i := 7) rfl))), (List.mem_append_right _ (List.mem_append_right _ (List.mem_append_left _ (List.mem_of_getElem? (i := 153) rfl))))⟩,
  (List.forall_mem_cons.mpr ⟨⟨⟨(List.mem_append_right _ (List.mem_append_right _ (List.mem_append_left _ (List.mem_of_getElem? (i := 154) rfl)))), rfl⟩, (List.mem_append_right _ (List.mem_append_left _ (List.mem_of_getElem? (i := 7) rfl))), (List.mem_append_right _ (List.mem_append_right _ (List.mem_append_left _ (List.mem_of_getElem? (i := 153) rfl))))⟩,
  (List.forall_mem_cons.mpr ⟨⟨⟨(List.mem_append_right _ (List.mem_append_right _ (List.mem_append_left _ (List.mem_of_getElem? (i := 154) rfl)))), rfl⟩, (List.mem_append_right _ (List.mem_append_left _ (List.mem_of_getElem? (i := 7) rfl))), (List.mem_append_right _ (List.mem_append_right _ (List.mem_append_left _ (List.mem_of_getElem? (i := 153) rfl))))⟩,
  (List.forall_mem_cons.mpr ⟨⟨⟨(List.mem_append_right _ (List.mem_append_right _ (List.mem_append_left _ (List.mem_of_getElem? (i := 154) rfl)))), rfl⟩, (List.mem_append_right _ (List.mem_append_left _ (List.mem_of_getElem? (i := 7) rfl))), (List.mem_append_right _ (List.mem_append_right _ (List.mem_append_left _ (List.mem_of_getElem? (i := 153) rfl))))⟩,
  (List.forall_mem_cons.mpr ⟨⟨⟨(List.mem_append_right _ (List.mem_append_right _ (List.mem_append_left _ (List.mem_of_getElem? (i := 154) rfl)))), rfl⟩, (List.mem_append_right _ (List.mem_append_left _ (List.mem_of_getElem? (i := 7) rfl))), (List.mem_append_right _ (List.mem_append_right _ (List.mem_append_left _ (List.mem_of_getElem? (i := 153) rfl))))⟩,
  (List.forall_mem_cons.mpr ⟨⟨⟨(List.mem_append_right _ (List.mem_append_right _ (List.mem_append_left _ (List.mem_of_getElem? (i := 154) rfl)))), rfl⟩, (List.mem_append_right _ (List.mem_append_left _ (List.mem_of_getElem? (i := 7) rfl))), (List.mem_append_right _ (List.mem_append_right _ (List.mem_append_left _ (List.mem_of_getElem? (i := 153) rfl))))⟩,
  (List.forall_mem_cons.mpr ⟨⟨⟨(List.mem_append_right _ (List.mem_append_right _ (List.mem_append_left _ (List.mem_of_getElem? (i := 154) rfl)))), rfl⟩, (List.mem_append_right _ (List.mem_append_left _ (List.mem_of_getElem? (i := 7) rfl))), (List.mem_append_right _ (List.mem_append_right _ (List.mem_append_left _ (List.mem_of_getElem? (i := 153) rfl))))⟩,
  (List.forall_mem_cons.mpr ⟨⟨⟨(List.mem_append_right _ (List.mem_append_right _ (List.mem_append_left _ (List.mem_of_getElem? (i := 154) rfl)))), rfl⟩, (List.mem_append_right _ (List.mem_append_left _ (List.mem_of_getElem? (i := 7) rfl))), (List.mem_append_right _ (List.mem_append_right _ (List.mem_append_left _ (List.mem_of_getElem? (i := 153) rfl))))⟩,
  (List.forall_mem_cons.mpr ⟨⟨⟨(List.mem_append_right _ (List.mem_append_right _ (List.mem_append_left _ (List.mem_of_getElem? (i := 154) rfl)))), rfl⟩, (List.mem_append_right _ (List.mem_append_left _ (List.mem_of_getElem? (i := 7) rfl))), (List.mem_append_right _ (List.mem_append_right _ (List.mem_append_left _ (List.mem_of_getElem? (i := 153) rfl))))⟩,
  (fun _ h => absurd h List.not_mem_nil)⟩)⟩)⟩)⟩)⟩)⟩)⟩)⟩)⟩)⟩)⟩)⟩)⟩)⟩)⟩)⟩)⟩)⟩)⟩)⟩)
set_option maxRecDepth 100000 in
theorem q_mw10 : ∀ x ∈ q_m10, q_mP x := (List.forall_mem_cons.mpr ⟨⟨⟨(List.mem_append_right _ (List.mem_append_right _ (List.mem_append_left _ (List.mem_of_getElem? (i := 154) rfl)))), rfl⟩, (List.mem_append_right _ (List.mem_append_left _ (List.mem_of_getElem? (i := 7) rfl))), (List.mem_append_right _ (List.mem_append_right _ (List.mem_append_left _ (List.mem_of_getElem? (i := 153) rfl))))⟩,
  (List.forall_mem_cons.mpr ⟨⟨⟨(List.mem_append_right _ (List.mem_append_right _ (List.mem_append_left _ (List.mem_of_getElem? (i := 154) rfl)))), rfl⟩, (List.mem_append_right _ (List.mem_append_left _ (List.mem_of_getElem? (i := 7) rfl))), (List.mem_append_right _ (List.mem_append_right _ (List.mem_append_left _ (List.mem_of_getElem? (i := 153) rfl))))⟩,
  (List.forall_mem_cons.mpr ⟨⟨⟨(List.mem_append_right _ (List.mem_append_right _ (List.mem_append_left _ (List.mem_of_getElem? (i := 154) rfl)))), rfl⟩, (List.mem_append_right _ (List.mem_append_left _ (List.mem_of_getElem? (i := 7) rfl))), (List.mem_append_right _ (List.mem_append_right _ (List.mem_append_left _ (List.mem_of_getElem? (i := 153) rfl))))⟩,
  (List.forall_mem_cons.mpr ⟨⟨⟨(List.mem_append_right _ (List.mem_append_right _ (List.mem_append_left _ (List.mem_of_getElem? (i := 154) rfl)))), rfl⟩, (List.mem_append_right _ (List.mem_append_left _ (List.mem_of_getElem? (i := 7) rfl))), (List.mem_append_right _ (List.mem_append_right _ (List.mem_append_left _ (List.mem_of_getElem? (i := 153) rfl))))⟩,
  (List.forall_mem_cons.mpr ⟨⟨⟨(List.mem_append_right _ (List.mem_append_right _ (List.mem_append_left _ (List.mem_of_getElem? (i := 154) rfl)))), rfl⟩, (List.mem_append_right _ (List.mem_append_left _ (List.mem_of_getElem? (i := 7) rfl))), (List.mem_append_right _ (List.mem_append_right _ (List.mem_append_left _ (List.mem_of_getElem? (i := 153) rfl))))⟩,
  (List.forall_mem_cons.mpr ⟨⟨⟨(List.mem_append_right _ (List.mem_append_right _ (List.mem_append_left _ (List.mem_of_getElem? (i := 154) rfl)))), rfl⟩, (List.mem_append_right _ (List.mem_append_left _ (List.mem_of_getElem? (i := 7) rfl))), (List.mem_append_right _ (List.mem_append_right _ (List.mem_append_left _ (List.mem_of_getElem? (i := 153) rfl))))⟩,
  (List.forall_mem_cons.mpr ⟨⟨⟨(List.mem_append_right _ (List.mem_append_right _ (List.mem_append_left _ (List.mem_of_getElem? (i := 154) rfl)))), rfl⟩, (List.mem_append_right _ (List.mem_append_left _ (List.mem_of_getElem? (i := 7) rfl))), (List.mem_append_right _ (List.mem_append_right _ (List.mem_append_left _ (List.mem_of_getElem? (i := 153) rfl))))⟩,
  (List.forall_mem_cons.mpr ⟨⟨⟨(List.mem_append_right _ (List.mem_append_right _ (List.mem_append_left _ (List.mem_of_getElem? (i := 154) rfl)))), rfl⟩, (List.mem_append_right _ (List.mem_append_left _ (List.mem_of_getElem? (i := 7) rfl))), (List.mem_append_right _ (List.mem_append_right _ (List.mem_append_left _ (List.mem_of_getElem? (i := 153) rfl))))⟩,
  (List.forall_mem_cons.mpr ⟨⟨⟨(List.mem_append_right _ (List.mem_append_right _ (List.mem_append_left _ (List.mem_of_getElem? (i := 154) rfl)))), rfl⟩, (List.mem_append_right _ (List.mem_append_left _ (List.mem_of_getElem? (i := 7) rfl))), (List.mem_append_right _ (List.mem_append_right _ (List.mem_append_left _ (List.mem_of_getElem? (i := 153) rfl))))⟩,
  (List.forall_mem_cons.mpr ⟨⟨⟨(List.mem_append_right _ (List.mem_append_right _ (List.mem_append_left _ (List.mem_of_getElem? (i := 154) rfl)))), rfl⟩, (List.mem_append_right _ (List.mem_append_left _ (List.mem_of_getElem? (i := 7) rfl))), (List.mem_append_right _ (List.mem_append_right _ (List.mem_append_left _ (List.mem_of_getElem? (i := 153) rfl))))⟩,
  (List.forall_mem_cons.mpr ⟨⟨⟨(List.mem_append_right _ (List.mem_append_right _ (List.mem_append_left _ (List.mem_of_getElem? (i := 154) rfl)))), rfl⟩, (List.mem_append_right _ (List.mem_append_left _ (List.mem_of_getElem? (i := 7) rfl))), (List.mem_append_right _ (List.mem_append_right _ (List.mem_append_left _ (List.mem_of_getElem? (i := 153) rfl))))⟩,
  (List.forall_mem_cons.mpr ⟨⟨⟨(List.mem_append_right _ (List.mem_append_right _ (List.mem_append_left _ (List.mem_of_getElem? (i := 154) rfl)))), rfl⟩, (List.mem_append_right _ (List.mem_append_left _ (List.mem_of_getElem? (i := 7) rfl))), (List.mem_append_right _ (List.mem_append_right _ (List.mem_append_left _ (List.mem_of_getElem? (i := 153) rfl))))⟩,
  (List.forall_mem_cons.mpr ⟨⟨⟨(List.mem_append_right _ (List.mem_append_right _ (List.mem_append_left _ (List.mem_of_getElem? (i := 154) rfl)))), rfl⟩, (List.mem_append_right _ (List.mem_append_left _ (List.mem_of_getElem? (i := 7) rfl))), (List.mem_append_right _ (List.mem_append_right _ (List.mem_append_left _ (List.mem_of_getElem? (i := 153) rfl))))⟩,
  (List.forall_mem_cons.mpr ⟨⟨⟨(List.mem_append_right _ (List.mem_append_right _ (List.mem_append_left _ (List.mem_of_getElem? (i := 154) rfl)))), rfl⟩, (List.mem_append_right _ (List.mem_append_left _ (List.mem_of_getElem? (i := 7) rfl))), (List.mem_append_right _ (List.mem_append_right _ (List.mem_append_left _ (List.mem_of_getElem? (i := 153) rfl))))⟩,
  (List.forall_mem_cons.mpr ⟨⟨⟨(List.mem_append_right _ (List.mem_append_right _ (List.mem_append_left _ (List.mem_of_getElem? (i := 154) rfl)))), rfl⟩, (List.mem_append_right _ (List.mem_append_left _ (List.mem_of_getElem? (i := 7) rfl))), (List.mem_append_right _ (List.mem_append_right _ (List.mem_append_left _ (List.mem_of_getElem? (i := 153) rfl))))⟩,
  (List.forall_mem_cons.mpr ⟨⟨⟨(List.mem_append_right _ (List.mem_append_right _ (List.mem_append_left _ (List.mem_of_getElem? (i := 154) rfl)))), rfl⟩, (List.mem_append_right _ (List.mem_append_left _ (List.mem_of_getElem? (i := 7) rfl))), (List.mem_append_right _ (List.mem_append_right _ (List.mem_append_left _ (List.mem_of_getElem? (i := 153) rfl))))⟩,
  (List.forall_mem_cons.mpr ⟨⟨⟨(List.mem_append_right _ (List.mem_append_right _ (List.mem_append_left _ (List.mem_of_getElem? (i := 154) rfl)))), rfl⟩, (List.mem_append_right _ (List.mem_append_left _ (List.mem_of_getElem? (i := 7) rfl))), (List.mem_append_right _ (List.mem_append_right _ (List.mem_append_left _ (List.mem_of_getElem? (i := 153) rfl))))⟩,
  (List.forall_mem_cons.mpr ⟨⟨⟨(List.mem_append_right _ (List.mem_append_right _ (List.mem_append_left _ (List.mem_of_getElem? (i := 154) rfl)))), rfl⟩, (List.mem_append_right _ (List.mem_append_left _ (List.mem_of_getElem? (i := 7) rfl))), (List.mem_append_right _ (List.mem_append_right _ (List.mem_append_left _ (List.mem_of_getElem? (i := 153) rfl))))⟩,
  (List.forall_mem_cons.mpr ⟨⟨⟨(List.mem_append_right _ (List.mem_append_right _ (List.mem_append_left _ (List.mem_of_getElem? (i := 154) rfl)))), rfl⟩, (List.mem_append_right _ (List.mem_append_left _ (List.mem_of_getElem? (i := 7) rfl))), (List.mem_append_right _ (List.mem_append_right _ (List.mem_append_left _ (List.mem_of_getElem? (i := 153) rfl))))⟩,
  (List.forall_mem_cons.mpr ⟨⟨⟨(List.mem_append_right _ (List.mem_append_right _ (List.mem_append_left _ (List.mem_of_getElem? (i := 154) rfl)))), rfl⟩, (List.mem_append_right _ (List.mem_append_left _ (List.mem_of_getElem? (i := 7) rfl))), (List.mem_append_right _ (List.mem_append_right _ (List.mem_append_left _ (List.mem_of_getElem? (i := 153) rfl))))⟩,
  (fun _ h => absurd h List.not_mem_nil)⟩)⟩)⟩)⟩)⟩)⟩)⟩)⟩)⟩)⟩)⟩)⟩)⟩)⟩)⟩)⟩)⟩)⟩)⟩)⟩)
set_option maxRecDepth 100000 in
theorem q_mw11 : ∀ x ∈ q_m11, q_mP x := (List.forall_mem_cons.mpr ⟨⟨⟨(List.mem_append_right _ (List.mem_append_right _ (List.mem_append_left _ (List.mem_of_getElem? (i := 154) rfl)))), rfl⟩, (List.mem_append_right _ (List.mem_append_left _ (List.mem_of_getElem? (i := 7) rfl))), (List.mem_append_right _ (List.mem_append_right _ (List.mem_append_left _ (List.mem_of_getElem? (i := 153) rfl))))⟩,
  (List.forall_mem_cons.mpr ⟨⟨⟨(List.mem_append_right _ (List.mem_append_right _ (List.mem_append_left _ (List.mem_of_getElem? (i := 154) rfl)))), rfl⟩, (List.mem_append_right _ (List.mem_append_left _ (List.mem_of_getElem? (i := 7) rfl))), (List.mem_append_right _ (List.mem_append_right _ (List.mem_append_left _ (List.mem_of_getElem? (i := 153) rfl))))⟩,
  (List.forall_mem_cons.mpr ⟨⟨⟨(List.mem_append_right _ (List.mem_append_right _ (List.mem_append_left _ (List.mem_of_getElem? (i := 154) rfl)))), rfl⟩, (List.mem_append_right _ (List.mem_append_left _ (List.mem_of_getElem? (i := 7) rfl))), (List.mem_append_right _ (List.mem_append_right _ (List.mem_append_left _ (List.mem_of_getElem? (i := 153) rfl))))⟩,
  (List.forall_mem_cons.mpr ⟨⟨⟨(List.mem_append_right _ (List.mem_append_right _ (List.mem_append_left _ (List.mem_of_getElem? (i := 154) rfl)))), rfl⟩, (List.mem_append_right _ (List.mem_append_left _ (List.mem_of_getElem? (i := 7) rfl))), (List.mem_append_right _ (List.mem_append_right _ (List.mem_append_left _ (List.mem_of_getElem? (i := 153) rfl))))⟩,
  (List.forall_mem_cons.mpr ⟨⟨⟨(List.mem_append_right _ (List.mem_append_right _ (List.mem_append_left _ (List.mem_of_getElem? (i := 154) rfl)))), rfl⟩, (List.mem_append_right _ (List.mem_append_left _ (List.mem_of_getElem? (i := 7) rfl))), (List.mem_append_right _ (List.mem_append_right _ (List.mem_append_left _ (List.mem_of_getElem? (i := 153) rfl))))⟩,
  (List.forall_mem_cons.mpr ⟨⟨⟨(List.mem_append_right _ (List.mem_append_right _ (List.mem_append_left _ (List.mem_of_getElem? (i := 154) rfl)))), rfl⟩, (List.mem_append_right _ (List.mem_append_left _ (List.mem_of_getElem? (i := 7) rfl))), (List.mem_append_right _ (List.mem_append_right _ (List.mem_append_left _ (List.mem_of_getElem? (i := 153) rfl))))⟩,
  (List.forall_mem_cons.mpr ⟨⟨⟨(List.mem_append_right _ (List.mem_append_right _ (List.mem_append_left _ (List.mem_of_getElem? (i := 154) rfl)))), rfl⟩, (List.mem_append_right _ (List.mem_append_left _ (List.mem_of_getElem? (i := 7) rfl))), (List.mem_append_right _ (List.mem_append_right _ (List.mem_append_left _ (List.mem_of_getElem? (i := 153) rfl))))⟩,
  (List.forall_mem_cons.mpr ⟨⟨⟨(List.mem_append_right _ (List.mem_append_right _ (List.mem_append_left _ (List.mem_of_getElem? (i := 154) rfl)))), rfl⟩, (List.mem_append_right _ (List.mem_append_left _ (List.mem_of_getElem? (i := 7) rfl))), (List.mem_append_right _ (List.mem_append_right _ (List.mem_append_left _ (List.mem_of_getElem? (i := 153) rfl))))⟩,
  (List.forall_mem_cons.mpr ⟨⟨⟨(List.mem_append_right _ (List.mem_append_right _ (List.mem_append_left _ (List.mem_of_getElem? (i := 154) rfl)))), rfl⟩, (List.mem_append_right _ (List.mem_append_left _ (List.mem_of_getElem? (i := 7) rfl))), (List.mem_append_right _ (List.mem_append_right _ (List.mem_append_left _ (List.mem_of_getElem? (i := 153) rfl))))⟩,
  (List.forall_mem_cons.mpr ⟨⟨⟨(List.mem_append_right _ (List.mem_append_right _ (List.mem_append_left _ (List.mem_of_getElem? (i := 154) rfl)))), rfl⟩, (List.mem_append_right _ (List.mem_append_left _ (List.mem_of_getElem? (i := 7) rfl))), (List.mem_append_right _ (List.mem_append_right _ (List.mem_append_left _ (List.mem_of_getElem? (i := 153) rfl))))⟩,
  (List.forall_mem_cons.mpr ⟨⟨⟨(List.mem_append_right _ (List.mem_append_right _ (List.mem_append_left _ (List.mem_of_getElem? (i := 154) rfl)))), rfl⟩, (List.mem_append_right _ (List.mem_append_left _ (List.mem_of_getElem? (i := 7) rfl))), (List.mem_append_right _ (List.mem_append_right _ (List.mem_append_left _ (List.mem_of_getElem? (i := 153) rfl))))⟩,
  (List.forall_mem_cons.mpr ⟨⟨⟨(List.mem_append_right _ (List.mem_append_right _ (List.mem_append_left _ (List.mem_of_getElem? (i := 154) rfl)))), rfl⟩, (List.mem_append_right _ (List.mem_append_left _ (List.mem_of_getElem? (i := 7) rfl))), (List.mem_append_right _ (List.mem_append_right _ (List.mem_append_left _ (List.mem_of_getElem? (i := 153) rfl))))⟩,
  (List.forall_mem_cons.mpr ⟨⟨⟨(List.mem_append_right _ (List.mem_append_right _ (List.mem_append_left _ (List.mem_of_getElem? (i := 154) rfl)))), rfl⟩, (List.mem_append_right _ (List.mem_append_left _ (List.mem_of_getElem? (i := 7) rfl))), (List.mem_append_right _ (List.mem_append_right _ (List.mem_append_left _ (List.mem_of_getElem? (i := 153) rfl))))⟩,
  (List.forall_mem_cons.mpr ⟨⟨⟨(List.mem_append_right _ (List.mem_append_right _ (List.mem_append_left _ (List.mem_of_getElem? (i := 154) rfl)))), rfl⟩, (List.mem_append_right _ (List.mem_append_left _ (List.mem_of_getElem? (i := 7) rfl))), (List.mem_append_right _ (List.mem_append_right _ (List.mem_append_left _ (List.mem_of_getElem? (i := 153) rfl))))⟩,
  (List.forall_mem_cons.mpr ⟨⟨⟨(List.mem_append_right _ (List.mem_append_right _ (List.mem_append_left _ (List.mem_of_getElem? (i := 154) rfl)))), rfl⟩, (List.mem_append_right _ (List.mem_append_left _ (List.mem_of_getElem? (i := 7) rfl))), (List.mem_append_right _ (List.mem_append_right _ (List.mem_append_left _ (List.mem_of_getElem? (i := 153) rfl))))⟩,
  (List.forall_mem_cons.mpr ⟨⟨⟨(List.mem_append_right _ (List.mem_append_right _ (List.mem_append_left _ (List.mem_of_getElem? (i := 154) rfl)))), rfl⟩, (List.mem_append_right _ (List.mem_append_left _ (List.mem_of_getElem? (i := 7) rfl))), (List.mem_append_right _ (List.mem_append_right _ (List.mem_append_left _ (List.mem_of_getElem? (i := 153) rfl))))⟩,
  (List.forall_mem_cons.mpr ⟨⟨⟨(List.mem_append_right _ (List.mem_append_right _ (List.mem_append_left _ (List.mem_of_getElem? (i := 154) rfl)))), rfl⟩, (List.mem_append_right _ (List.mem_append_left _ (List.mem_of_getElem? (i := 7) rfl))), (List.mem_append_right _ (List.mem_append_right _ (List.mem_append_left _ (List.mem_of_getElem? (i := 153) rfl))))⟩,
  (List.forall_mem_cons.mpr ⟨⟨⟨(List.mem_append_right _ (List.mem_append_right _ (List.mem_append_left _ (List.mem_of_getElem? (i := 154) rfl)))), rfl⟩, (List.mem_append_right _ (List.mem_append_left _ (List.mem_of_getElem? (i := 7) rfl))), (List.mem_append_right _ (List.mem_append_right _ (List.mem_append_left _ (List.mem_of_getElem? (i := 153) rfl))))⟩,
  (List.forall_mem_cons.mpr ⟨⟨⟨(List.mem_append_right _ (List.mem_append_right _ (List.mem_append_left _ (List.mem_of_getElem? (i := 154) rfl)))), rfl⟩, (List.mem_append_right _ (List.mem_append_left _ (List.mem_of_getElem? (i := 7) rfl))), (List.mem_append_right _ (List.mem_append_right _ (List.mem_append_left _ (List.mem_of_getElem? (i := 153) rfl))))⟩,
  (List.forall_mem_cons.mpr ⟨⟨⟨(List.mem_append_right _ (List.mem_append_right _ (List.mem_append_left _ (List.mem_of_getElem? (i := 154) rfl)))), rfl⟩, (List.mem_append_right _ (List.mem_append_left _ (List.mem_of_getElem? (i := 7) rfl))), (List.mem_append_right _ (List.mem_append_right _ (List.mem_append_left _ (List.mem_of_getElem? (i := 153) rfl))))⟩,
  (fun _ h => absurd h List.not_mem_nil)⟩)⟩)⟩)⟩)⟩)⟩)⟩)⟩)⟩)⟩)⟩)⟩)⟩)⟩)⟩)⟩)⟩)⟩)⟩)⟩)
set_option maxRecDepth 100000 in
theorem q_mw12 : ∀ x ∈ q_m12, q_mP x := (List.forall_mem_cons.mpr ⟨⟨⟨(List.mem_append_right _ (List.mem_append_right _ (List.mem_append_left _ (List.mem_of_getElem? (i := 154) rfl)))), rfl⟩, (List.mem_append_right _ (List.mem_append_left _ (List.mem_of_getElem? (i := 7) rfl))), (List.mem_append_right _ (List.mem_append_right _ (List.mem_append_left _ (List.mem_of_getElem? (i := 153) rfl))))⟩,
  (List.forall_mem_cons.mpr ⟨⟨⟨(List.mem_append_right _ (List.mem_append_right _ (List.mem_append_left _ (List.mem_of_getElem? (i := 154) rfl)))), rfl⟩, (List.mem_append_right _ (List.mem_append_left _ (List.mem_of_getElem? (i := 7) rfl))), (List.mem_append_right _ (List.mem_append_right _ (List.mem_append_left _ (List.mem_of_getElem? (i := 153) rfl))))⟩,
  (List.forall_mem_cons.mpr ⟨⟨⟨(List.mem_append_right _ (List.mem_append_right _ (List.mem_append_left _ (List.mem_of_getElem? (i := 154) rfl)))), rfl⟩, (List.mem_append_right _ (List.mem_append_left _ (List.mem_of_getElem? (i := 7) rfl))), (List.mem_append_right _ (List.mem_append_right _ (List.mem_append_left _ (List.mem_of_getElem? (i := 153) rfl))))⟩,
  (List.forall_mem_cons.mpr ⟨⟨⟨(List.mem_append_right _ (List.mem_append_right _ (List.mem_append_left _ (List.mem_of_getElem? (i := 154) rfl)))), rfl⟩, (List.mem_append_right _ (List.mem_append_left _ (List.mem_of_getElem? (i := 7) rfl))), (List.mem_append_right _ (List.mem_append_right _ (List.mem_append_left _ (List.mem_of_getElem? (i := 153) rfl))))⟩,
  (List.forall_mem_cons.mpr ⟨⟨⟨(List.mem_append_right _ (List.mem_append_right _ (List.mem_append_left _ (List.mem_of_getElem? (i := 154) rfl)))), rfl⟩, (List.mem_append_right _ (List.mem_append_left _ (List.mem_of_getElem? (i := 7) rfl))), (List.mem_append_right _ (List.mem_append_right _ (List.mem_append_left _ (List.mem_of_getElem? (i := 153) rfl))))⟩,
  (List.forall_mem_cons.mpr ⟨⟨⟨(List.mem_append_right _ (List.mem_append_right _ (List.mem_append_left _ (List.mem_of_getElem? (i := 154) rfl)))), rfl⟩, (List.mem_append_right _ (List.mem_append_left _ (List.mem_of_getElem? (i := 7) rfl))), (List.mem_append_right _ (List.mem_append_right _ (List.mem_append_left _ (List.mem_of_getElem? (i := 153) rfl))))⟩,
  (List.forall_mem_cons.mpr ⟨⟨⟨(List.mem_append_right _ (List.mem_append_right _ (List.mem_append_left _ (List.mem_of_getElem? (i := 154) rfl)))), rfl⟩, (List.mem_append_right _ (List.mem_append_left _ (List.mem_of_getElem? (i := 7) rfl))), (List.mem_append_right _ (List.mem_append_right _ (List.mem_append_left _ (List.mem_of_getElem? (i := 153) rfl))))⟩,
  (List.forall_mem_cons.mpr ⟨⟨⟨(List.mem_append_right _ (List.mem_append_right _ (List.mem_append_left _ (List.mem_of_getElem? (i := 154) rfl)))), rfl⟩, (List.mem_append_right _ (List.mem_append_left _ (List.mem_of_getElem? (i := 7) rfl))), (List.mem_append_right _ (List.mem_append_right _ (List.mem_append_left _ (List.mem_of_getElem? (i := 153) rfl))))⟩,
  (List.forall_mem_cons.mpr ⟨⟨⟨(List.mem_append_right _ (List.mem_append_right _ (List.mem_append_left _ (List.mem_of_getElem? (i := 154) rfl)))), rfl⟩, (List.mem_append_right _ (List.mem_append_left _ (List.mem_of_getElem? (i := 7) rfl))), (List.mem_append_right _ (List.mem_append_right _ (List.mem_append_left _ (List.mem_of_getElem? (i := 153) rfl))))⟩,
  (List.forall_mem_cons.mpr ⟨⟨⟨(List.mem_append_right _ (List.mem_append_right _ (List.mem_append_left _ (List.mem_of_getElem? (i := 154) rfl)))), rfl⟩, (List.mem_append_right _ (List.mem_append_left _ (List.mem_of_getElem? (i := 7) rfl))), (List.mem_append_right _ (List.mem_append_right _ (List.mem_append_left _ (List.mem_of_getElem? (i := 153) rfl))))⟩,
  (List.forall_mem_cons.mpr ⟨⟨⟨(List.mem_append_right _ (List.mem_append_right _ (List.mem_append_left _ (List.mem_of_getElem? (i := 154) rfl)))), rfl⟩, (List.mem_append_right _ (List.mem_append_left _ (List.mem_of_getElem? (i := 7) rfl))), (List.mem_append_right _ (List.mem_append_right _ (List.mem_append_left _ (List.mem_of_getElem? (i := 153) rfl))))⟩,
  (List.forall_mem_cons.mpr ⟨⟨⟨(List.mem_append_right _ (List.mem_append_right _ (List.mem_append_left _ (List.mem_of_getElem? (i := 154) rfl)))), rfl⟩, (List.mem_append_right _ (List.mem_append_left _ (List.mem_of_getElem? (i := 7) rfl))), (List.mem_append_right _ (List.mem_append_right _ (List.mem_append_left _ (List.mem_of_getElem? (i := 153) rfl))))⟩,
  (List.forall_mem_cons.mpr ⟨⟨⟨(List.mem_append_right _ (List.mem_append_right _ (List.mem_append_left _ (List.mem_of_getElem? (i := 154) rfl)))), rfl⟩, (List.mem_append_right _ (List.mem_append_left _ (List.mem_of_getElem? (i := 7) rfl))), (List.mem_append_right _ (List.mem_append_right _ (List.mem_append_left _ (List.mem_of_getElem? (i := 153) rfl))))⟩,
  (List.forall_mem_cons.mpr ⟨⟨⟨(List.mem_append_right _ (List.mem_append_right _ (List.mem_append_left _ (List.mem_of_getElem? (i := 154) rfl)))), rfl⟩, (List.mem_append_right _ (List.mem_append_left _ (List.mem_of_getElem? (i := 7) rfl))), (List.mem_append_right _ (List.mem_append_right _ (List.mem_append_left _ (List.mem_of_getElem? (i := 153) rfl))))⟩,
  (List.forall_mem_cons.mpr ⟨⟨⟨(List.mem_append_right _ (List.mem_append_right _ (List.mem_append_left _ (List.mem_of_getElem? (i := 154) rfl)))), rfl⟩, (List.mem_append_right _ (List.mem_append_left _ (List.mem_of_getElem? (i := 7) rfl))), (List.mem_append_right _ (List.mem_append_right _ (List.mem_append_left _ (List.mem_of_getElem? (i := 153) rfl))))⟩,
  (List.forall_mem_cons.mpr ⟨⟨⟨(List.mem_append_right _ (List.mem_append_right _ (List.mem_append_left _ (List.mem_of_getElem? (i := 154) rfl)))), rfl⟩, (List.mem_append_right _ (List.mem_append_left _ (List.mem_of_getElem? (i := 7) rfl))), (List.mem_append_right _ (List.mem_append_right _ (List.mem_append_left _ (List.mem_of_getElem? (i := 153) rfl))))⟩,
  (List.forall_mem_cons.mpr ⟨⟨⟨(List.mem_append_right _ (List.mem_append_right _ (List.mem_append_left _ (List.mem_of_getElem? (i := 154) rfl)))), rfl⟩, (List.mem_append_right _ (List.mem_append_left _ (List.mem_of_getElem? (i := 7) rfl))), (List.mem_append_right _ (List.mem_append_right _ (List.mem_append_left _ (List.mem_of_getElem? (i := 153) rfl))))⟩,
  (List.forall_mem_cons.mpr ⟨⟨⟨(List.mem_append_right _ (List.mem_append_right _ (List.mem_append_left _ (List.mem_of_getElem? (i := 154) rfl)))), rfl⟩, (List.mem_append_right _ (List.mem_append_left _ (List.mem_of_getElem? (i := 7) rfl))), (List.mem_append_right _ (List.mem_append_right _ (List.mem_append_left _ (List.mem_of_getElem? (i := 153) rfl))))⟩,
  (List.forall_mem_cons.mpr ⟨⟨⟨(List.mem_append_right _ (List.mem_append_right _ (List.mem_append_left _ (List.mem_of_getElem? (i := 154) rfl)))), rfl⟩, (List.mem_append_right _ (List.mem_append_left _ (List.mem_of_getElem? (i := 7) rfl))), (List.mem_append_right _ (List.mem_append_right _ (List.mem_append_left _ (List.mem_of_getElem? (i := 153) rfl))))⟩,
  (List.forall_mem_cons.mpr ⟨⟨⟨(List.mem_append_right _ (List.mem_append_right _ (List.mem_append_left _ (List.mem_of_getElem? (i := 154) rfl)))), rfl⟩, (List.mem_append_right _ (List.mem_append_left _ (List.mem_of_getElem? (i := 7) rfl))), (List.mem_append_right _ (List.mem_append_right _ (List.mem_append_left _ (List.mem_of_getElem? (i := 153) rfl))))⟩,
  (fun _ h => absurd h List.not_mem_nil)⟩)⟩)⟩)⟩)⟩)⟩)⟩)⟩)⟩)⟩)⟩)⟩)⟩)⟩)⟩)⟩)⟩)⟩)⟩)⟩)
set_option maxRecDepth 100000 in
theorem q_mw13 : ∀ x ∈ q_m13, q_mP x := (List.forall_mem_cons.mpr ⟨⟨⟨(List.mem_append_right _ (List.mem_append_right _ (List.mem_append_left _ (List.mem_of_getElem? (i := 154) rfl)))), rfl⟩, (List.mem_append_right _ (List.mem_append_left _ (List.mem_of_getElem? (i := 7) rfl))), (List.mem_append_right _ (List.mem_append_right _ (List.mem_append_left _ (List.mem_of_getElem? (i := 153) rfl))))⟩,
  (List.forall_mem_cons.mpr ⟨⟨⟨(List.mem_append_right _ (List.mem_append_right _ (List.mem_append_left _ (List.mem_of_getElem? (i := 154) rfl)))), rfl⟩, (List.mem_append_right _ (List.mem_append_left _ (List.mem_of_getElem? (i := 7) rfl))), (List.mem_append_right _ (List.mem_append_right _ (List.mem_append_left _ (List.mem_of_getElem? (i := 153) rfl))))⟩,
  (List.forall_mem_cons.mpr ⟨⟨⟨(List.mem_append_right _ (List.mem_append_right _ (List.mem_append_left _ (List.mem_of_getElem? (i := 154) rfl)))), rfl⟩, (List.mem_append_right _ (List.mem_append_left _ (List.mem_of_getElem? (i := 7) rfl))), (List.mem_append_right _ (List.mem_append_right _ (List.mem_append_left _ (List.mem_of_getElem? (i := 153) rfl))))⟩,
  (List.forall_mem_cons.mpr ⟨⟨⟨(List.mem_append_right _ (List.mem_append_right _ (List.mem_append_left _ (List.mem_of_getElem? (i := 154) rfl)))), rfl⟩, (List.mem_append_right _ (List.mem_append_left _ (List.mem_of_getElem? (i := 7) rfl))), (List.mem_append_right _ (List.mem_append_right _ (List.mem_append_left _ (List.mem_of_getElem? (i := 153) rfl))))⟩,
  (List.forall_mem_cons.mpr ⟨⟨⟨(List.mem_append_right _ (List.mem_append_right _ (List.mem_append_left _ (List.mem_of_getElem? (i := 154) rfl)))), rfl⟩, (List.mem_append_right _ (List.mem_append_left _ (List.mem_of_getElem? (i := 7) rfl))), (List.mem_append_right _ (List.mem_append_right _ (List.mem_append_left _ (List.mem_of_getElem? (i := 153) rfl))))⟩,
  (List.forall_mem_cons.mpr ⟨⟨⟨(List.mem_append_right _ (List.mem_append_right _ (List.mem_append_left _ (List.mem_of_getElem? (i := 154) rfl)))), rfl⟩, (List.mem_append_right _ (List.mem_append_left _ (List.mem_of_getElem? (i := 7) rfl))), (List.mem_append_right _ (List.mem_append_right _ (List.mem_append_left _ (List.mem_of_getElem? (i := 153) rfl))))⟩,
  (List.forall_mem_cons.mpr ⟨⟨⟨(List.mem_append_right _ (List.mem_append_right _ (List.mem_append_left _ (List.mem_of_getElem? (i := 154) rfl)))), rfl⟩, (List.mem_append_right _ (List.mem_append_left _ (List.mem_of_getElem? (i := 7) rfl))), (List.mem_append_right _ (List.mem_append_right _ (List.mem_append_left _ (List.mem_of_getElem? (i := 153) rfl))))⟩,
  (List.forall_mem_cons.mpr ⟨⟨⟨(List.mem_append_right _ (List.mem_append_right _ (List.mem_append_left _ (List.mem_of_getElem? (i := 154) rfl)))), rfl⟩, (List.mem_append_right _ (List.mem_append_left _ (List.mem_of_getElem? (i := 7) rfl))), (List.mem_append_right _ (List.mem_append_right _ (List.mem_append_left _ (List.mem_of_getElem? (i := 153) rfl))))⟩,
  (List.forall_mem_cons.mpr ⟨⟨⟨(List.mem_append_right _ (List.mem_append_right _ (List.mem_append_left _ (List.mem_of_getElem? (i := 154) rfl)))), rfl⟩, (List.mem_append_right _ (List.mem_append_left _ (List.mem_of_getElem? (i := 7) rfl))), (List.mem_append_right _ (List.mem_append_right _ (List.mem_append_left _ (List.mem_of_getElem? (i := 153) rfl))))⟩,
  (List.forall_mem_cons.mpr ⟨⟨⟨(List.mem_append_right _ (List.mem_append_right _ (List.mem_append_left _ (List.mem_of_getElem? (i := 154) rfl)))), rfl⟩, (List.mem_append_right _ (List.mem_append_left _ (List.mem_of_getElem? (i := 7) rfl))), (List.mem_append_right _ (List.mem_append_right _ (List.mem_append_left _ (List.mem_of_getElem? (i := 153) rfl))))⟩,
  (List.forall_mem_cons.mpr ⟨⟨⟨(List.mem_append_right _ (List.mem_append_right _ (List.mem_append_left _ (List.mem_of_getElem? (i := 154) rfl)))), rfl⟩, (List.mem_append_right _ (List.mem_append_left _ (List.mem_of_getElem? (i := 7) rfl))), (List.mem_append_right _ (List.mem_append_right _ (List.mem_append_left _ (List.mem_of_getElem? (i := 153) rfl))))⟩,
  (List.forall_mem_cons.mpr ⟨⟨⟨(List.mem_append_right _ (List.mem_append_right _ (List.mem_append_left _ (List.mem_of_getElem? (i := 154) rfl)))), rfl⟩, (List.mem_append_right _ (List.mem_append_left _ (List.mem_of_getElem? (i := 7) rfl))), (List.mem_append_right _ (List.mem_append_right _ (List.mem_append_left _ (List.mem_of_getElem? (i := 153) rfl))))⟩,
  (List.forall_mem_cons.mpr ⟨⟨⟨(List.mem_append_right _ (List.mem_append_right _ (List.mem_append_left _ (List.mem_of_getElem? (i := 154) rfl)))), rfl⟩, (List.mem_append_right _ (List.mem_append_left _ (List.mem_of_getElem? (i := 7) rfl))), (List.mem_append_right _ (List.mem_append_right _ (List.mem_append_left _ (List.mem_of_getElem? (i := 153) rfl))))⟩,
  (List.forall_mem_cons.mpr ⟨⟨⟨(List.mem_append_right _ (List.mem_append_right _ (List.mem_append_left _ (List.mem_of_getElem? (i := 154) rfl)))), rfl⟩, (List.mem_append_right _ (List.mem_append_left _ (List.mem_of_getElem? (i := 7) rfl))), (List.mem_append_right _ (List.mem_append_right _ (List.mem_append_left _ (List.mem_of_getElem? (i := 153) rfl))))⟩,
  (List.forall_mem_cons.mpr ⟨⟨⟨(List.mem_append_right _ (List.mem_append_right _ (List.mem_append_left _ (List.mem_of_getElem? (i := 154) rfl)))), rfl⟩, (List.mem_append_right _ (List.mem_append_left _ (List.mem_of_getElem? (i := 7) rfl))), (List.mem_append_right _ (List.mem_append_right _ (List.mem_append_left _ (List.mem_of_getElem? (i := 153) rfl))))⟩,
  (List.forall_mem_cons.mpr ⟨⟨⟨(List.mem_append_right _ (List.mem_append_right _ (List.mem_append_left _ (List.mem_of_getElem? (i := 154) rfl)))), rfl⟩, (List.mem_append_right _ (List.mem_append_left _ (List.mem_of_getElem? (i := 7) rfl))), (List.mem_append_right _ (List.mem_append_right _ (List.mem_append_left _ (List.mem_of_getElem? (i := 153) rfl))))⟩,
  (List.forall_mem_cons.mpr ⟨⟨⟨(List.mem_append_right _ (List.mem_append_right _ (List.mem_append_left _ (List.mem_of_getElem? (i := 154) rfl)))), rfl⟩, (List.mem_append_right _ (List.mem_append_left _ (List.mem_of_getElem? (i := 7) rfl))), (List.mem_append_right _ (List.mem_append_right _ (List.mem_append_left _ (List.mem_of_getElem? (i := 153) rfl))))⟩,
  (List.forall_mem_cons.mpr ⟨⟨⟨(List.mem_append_right _ (List.mem_append_right _ (List.mem_append_left _ (List.mem_of_getElem? (i := 154) rfl)))), rfl⟩, (List.mem_append_right _ (List.mem_append_left _ (List.mem_of_getElem? (i := 7) rfl))), (List.mem_append_right _ (List.mem_append_right _ (List.mem_append_left _ (List.mem_of_getElem? (i := 153) rfl))))⟩,
  (List.forall_mem_cons.mpr ⟨⟨⟨(List.mem_append_right _ (List.mem_append_right _ (List.mem_append_left _ (List.mem_of_getElem? (i := 154) rfl)))), rfl⟩, (List.mem_append_right _ (List.mem_append_left _ (List.mem_of_getElem? (i := 7) rfl))), (List.mem_append_right _ (List.mem_append_right _ (List.mem_append_left _ (List.mem_of_getElem? (i := 153) rfl))))⟩,
  (List.forall_mem_cons.mpr ⟨⟨⟨(List.mem_append_right _ (List.mem_append_right _ (List.mem_append_left _ (List.mem_of_getElem? (i := 154) rfl)))), rfl⟩, (List.mem_append_right _ (List.mem_append_left _ (List.mem_of_getElem? (i := 7) rfl))), (List.mem_append_right _ (List.mem_append_right _ (List.mem_append_left _ (List.mem_of_getElem? (i := 153) rfl))))⟩,
  (fun _ h => absurd h List.not_mem_nil)⟩)⟩)⟩)⟩)⟩)⟩)⟩)⟩)⟩)⟩)⟩)⟩)⟩)⟩)⟩)⟩)⟩)⟩)⟩)⟩)
set_option maxRecDepth 100000 in
theorem q_mw14 : ∀ x ∈ q_m14, q_mP x := (List.forall_mem_cons.mpr ⟨⟨⟨(List.mem_append_right _ (List.mem_append_right _ (List.mem_append_left _ (List.mem_of_getElem? (i := 154) rfl)))), rfl⟩, (List.mem_append_right _ (List.mem_append_left _ (List.mem_of_getElem? (i := 7) rfl))), (List.mem_append_right _ (List.mem_append_right _ (List.mem_append_left _ (List.mem_of_getElem? (i := 153) rfl))))⟩,
  (List.forall_mem_cons.mpr ⟨⟨⟨(List.mem_append_right _ (List.mem_append_right _ (List.mem_append_left _ (List.mem_of_getElem? (i := 154) rfl)))), rfl⟩, (List.mem_append_right _ (List.mem_append_left _ (List.mem_of_getElem? (i := 7) rfl))), (List.mem_append_right _ (List.mem_append_right _ (List.mem_append_left _ (List.mem_of_getElem? (i := 153) rfl))))⟩,
  (List.forall_mem_cons.mpr ⟨⟨⟨(List.mem_append_right _ (List.mem_append_right _ (List.mem_append_left _ (List.mem_of_getElem? (i := 154) rfl)))), rfl⟩, (List.mem_append_right _ (List.mem_append_left _ (List.mem_of_getElem? (i := 7) rfl))), (List.mem_append_right _ (List.mem_append_right _ (List.mem_append_left _ (List.mem_of_getElem? (i := 153) rfl))))⟩,
  (List.forall_mem_cons.mpr ⟨⟨⟨(List.mem_append_right _ (List.mem_append_right _ (List.mem_append_left _ (List.mem_of_getElem? (i := 154) rfl)))), rfl⟩, (List.mem_append_right _ (List.mem_append_left _ (List.mem_of_getElem? (i := 7) rfl))), (List.mem_append_right _ (List.mem_append_right _ (List.mem_append_left _ (List.mem_of_getElem? (i := 153) rfl))))⟩,
  (List.forall_mem_cons.mpr ⟨⟨⟨(List.mem_append_right _ (List.mem_append_right _ (List.mem_append_left _ (List.mem_of_getElem? (i := 154) rfl)))), rfl⟩, (List.mem_append_right _ (List.mem_append_left _ (List.mem_of_getElem? (i := 7) rfl))), (List.mem_append_right _ (List.mem_append_right _ (List.mem_append_left _ (List.mem_of_getElem? (i := 153) rfl))))⟩,
  (List.forall_mem_cons.mpr ⟨⟨⟨(List.mem_append_right _ (List.mem_append_right _ (List.mem_append_left _ (List.mem_of_getElem? (i := 154) rfl)))), rfl⟩, (List.mem_append_right _ (List.mem_append_left _ (List.mem_of_getElem? (i := 7) rfl))), (List.mem_append_right _ (List.mem_append_right _ (List.mem_append_left _ (List.mem_of_getElem? (i := 153) rfl))))⟩,
  (List.forall_mem_cons.mpr ⟨⟨⟨(List.mem_append_right _ (List.mem_append_right _ (List.mem_append_left _ (List.mem_of_getElem? (i := 154) rfl)))), rfl⟩, (List.mem_append_right _ (List.mem_append_left _ (List.mem_of_getElem? (i := 7) rfl))), (List.mem_append_right _ (List.mem_append_right _ (List.mem_append_left _ (List.mem_of_getElem? (i := 153) rfl))))⟩,
  (List.forall_mem_cons.mpr ⟨⟨⟨(List.mem_append_right _ (List.mem_append_right _ (List.mem_append_left _ (List.mem_of_getElem? (i := 154) rfl)))), rfl⟩, (List.mem_append_right _ (List.mem_append_left _ (List.mem_of_getElem? (i := 7) rfl))), (List.mem_append_right _ (List.mem_append_right _ (List.mem_append_left _ (List.mem_of_getElem? (i := 153) rfl))))⟩,
  (List.forall_mem_cons.mpr ⟨⟨⟨(List.mem_append_right _ (List.mem_append_right _ (List.mem_append_left _ (List.mem_of_getElem? (i := 154) rfl)))), rfl⟩, (List.mem_append_right _ (List.mem_append_left _ (List.mem_of_getElem? (i := 7) rfl))), (List.mem_append_right _ (List.mem_append_right _ (List.mem_append_left _ (List.mem_of_getElem? (i := 153) rfl))))⟩,
  (List.forall_mem_cons.mpr ⟨⟨⟨(List.mem_append_right _ (List.mem_append_right _ (List.mem_append_left _ (List.mem_of_getElem? (i := 154) rfl)))), rfl⟩, (List.mem_append_right _ (List.mem_append_left _ (List.mem_of_getElem? (i := 7) rfl))), (List.mem_append_right _ (List.mem_append_right _ (List.mem_append_left _ (List.mem_of_getElem? (i := 153) rfl))))⟩,
  (List.forall_mem_cons.mpr ⟨⟨⟨(List.mem_append_right _ (List.mem_append_right _ (List.mem_append_left _ (List.mem_of_getElem? (i := 154) rfl)))), rfl⟩, (List.mem_append_right _ (List.mem_append_left _ (List.mem_of_getElem? (i := 7) rfl))), (List.mem_append_right _ (List.mem_append_right _ (List.mem_append_left _ (List.mem_of_getElem? (i := 153) rfl))))⟩,
  (List.forall_mem_cons.mpr ⟨⟨⟨(List.mem_append_right _ (List.mem_append_right _ (List.mem_append_left _ (List.mem_of_getElem? (i := 154) rfl)))), rfl⟩, (List.mem_append_right _ (List.mem_append_left _ (List.mem_of_getElem? (i := 7) rfl))), (List.mem_append_right _ (List.mem_append_right _ (List.mem_append_left _ (List.mem_of_getElem? (i := 153) rfl))))⟩,
  (List.forall_mem_cons.mpr ⟨⟨⟨(List.mem_append_right _ (List.mem_append_right _ (List.mem_append_left _ (List.mem_of_getElem? (i := 154) rfl)))), rfl⟩, (List.mem_append_right _ (List.mem_append_left _ (List.mem_of_getElem? (i := 7) rfl))), (List.mem_append_right _ (List.mem_append_right _ (List.mem_append_left _ (List.mem_of_getElem? (i := 153) rfl))))⟩,
  (List.forall_mem_cons.mpr ⟨⟨⟨(List.mem_append_right _ (List.mem_append_right _ (List.mem_append_left _ (List.mem_of_getElem? (i := 154) rfl)))), rfl⟩, (List.mem_append_right _ (List.mem_append_left _ (List.mem_of_getElem? (i := 7) rfl))), (List.mem_append_right _ (List.mem_append_right _ (List.mem_append_left _ (List.mem_of_getElem? (i := 153) rfl))))⟩,
  (List.forall_mem_cons.mpr ⟨⟨⟨(List.mem_append_right _ (List.mem_append_right _ (List.mem_append_left _ (List.mem_of_getElem? (i := 154) rfl)))), rfl⟩, (List.mem_append_right _ (List.mem_append_left _ (List.mem_of_getElem? (i := 7) rfl))), (List.mem_append_right _ (List.mem_append_right _ (List.mem_append_left _ (List.mem_of_getElem? (i := 153) rfl))))⟩,
  (List.forall_mem_cons.mpr ⟨⟨⟨(List.mem_append_right _ (List.mem_append_right _ (List.mem_append_left _ (List.mem_of_getElem? (i := 154) rfl)))), rfl⟩, (List.mem_append_right _ (List.mem_append_left _ (List.mem_of_getElem? (i := 7) rfl))), (List.mem_append_right _ (List.mem_append_right _ (List.mem_append_left _ (List.mem_of_getElem? (i := 153) rfl))))⟩,
  (List.forall_mem_cons.mpr ⟨⟨⟨(List.mem_append_right _ (List.mem_append_right _ (List.mem_append_left _ (List.mem_of_getElem? (i := 154) rfl)))), rfl⟩, (List.mem_append_right _ (List.mem_append_left _ (List.mem_of_getElem? (i := 7) rfl))), (List.mem_append_right _ (List.mem_append_right _ (List.mem_append_left _ (List.mem_of_getElem? (i := 153) rfl))))⟩,
  (List.forall_mem_cons.mpr ⟨⟨⟨(List.mem_append_right _ (List.mem_append_right _ (List.mem_append_left _ (List.mem_of_getElem? (i := 154) rfl)))), rfl⟩, (List.mem_append_right _ (List.mem_append_left _ (List.mem_of_getElem? (i := 7) rfl))), (List.mem_append_right _ (List.mem_append_right _ (List.mem_append_left _ (List.mem_of_getElem? (i := 153) rfl))))⟩,
  (List.forall_mem_cons.mpr ⟨⟨⟨(List.mem_append_right _ (List.mem_append_right _ (List.mem_append_left _ (List.mem_of_getElem? (i := 154) rfl)))), rfl⟩, (List.mem_append_right _ (List.mem_append_left _ (List.mem_of_getElem? (i := 7) rfl))), (List.mem_append_right _ (List.mem_append_right _ (List.mem_append_left _ (List.mem_of_getElem? (i := 153) rfl))))⟩,
  (List.forall_mem_cons.mpr ⟨⟨⟨(List.mem_append_right _ (List.mem_append_right _ (List.mem_append_left _ (List.mem_of_getElem? (i := 154) rfl)))), rfl⟩, (List.mem_append_right _ (List.mem_append_left _ (List.mem_of_getElem? (i := 7) rfl))), (List.mem_append_right _ (List.mem_append_right _ (List.mem_append_left _ (List.mem_of_getElem? (i := 153) rfl))))⟩,
  (fun _ h => absurd h List.not_mem_nil)⟩)⟩)⟩)⟩)⟩)⟩)⟩)⟩)⟩)⟩)⟩)⟩)⟩)⟩)⟩)⟩)⟩)⟩)⟩)⟩)
set_option maxRecDepth 100000 in
theorem q_mw15 : ∀ x ∈ q_m15, q_mP x := (List.forall_mem_cons.mpr ⟨⟨⟨(List.mem_append_right _ (List.mem_append_right _ (List.mem_append_left _ (List.mem_of_getElem? (i := 154) rfl)))), rfl⟩, (List.mem_append_right _ (List.mem_append_left _ (List.mem_of_getElem? (i := 7) rfl))), (List.mem_append_right _ (List.mem_append_right _ (List.mem_append_left _ (List.mem_of_getElem? (i := 153) rfl))))⟩,
  (List.forall_mem_cons.mpr ⟨⟨⟨(List.mem_append_right _ (List.mem_append_right _ (List.mem_append_left _ (List.mem_of_getElem? (i := 154) rfl)))), rfl⟩, (List.mem_append_right _ (List.mem_append_left _ (List.mem_of_getElem? (i := 7) rfl))), (List.mem_append_right _ (List.mem_append_right _ (List.mem_append_left _ (List.mem_of_getElem? (i := 153) rfl))))⟩,
  (List.forall_mem_cons.mpr ⟨⟨⟨(List.mem_append_right _ (List.mem_append_right _ (List.mem_append_left _ (List.mem_of_getElem? (i := 154) rfl)))), rfl⟩, (List.mem_append_right _ (List.mem_append_left _ (List.mem_of_getElem? (i := 7) rfl))), (List.mem_append_right _ (List.mem_append_right _ (List.mem_append_left _ (List.mem_of_getElem? (i := 153) rfl))))⟩,
  (List.forall_mem_cons.mpr ⟨⟨⟨(List.mem_append_right _ (List.mem_append_right _ (List.mem_append_left _ (List.mem_of_getElem? (i := 154) rfl)))), rfl⟩, (List.mem_append_right _ (List.mem_append_left _ (List.mem_of_getElem? (i := 7) rfl))), (List.mem_append_right _ (List.mem_append_right _ (List.mem_append_left _ (List.mem_of_getElem? (i := 153) rfl))))⟩,
  (List.forall_mem_cons.mpr ⟨⟨⟨(List.mem_append_right _ (List.mem_append_right _ (List.mem_append_left _ (List.mem_of_getElem? (i := 154) rfl)))), rfl⟩, (List.mem_append_right _ (List.mem_append_left _ (List.mem_of_getElem? (i := 7) rfl))), (List.mem_append_right _ (List.mem_append_right _ (List.mem_append_left _ (List.mem_of_getElem? (i := 153) rfl))))⟩,
  (List.forall_mem_cons.mpr ⟨⟨⟨(List.mem_append_right _ (List.mem_append_right _ (List.mem_append_left _ (List.mem_of_getElem? (i := 154) rfl)))), rfl⟩, (List.mem_append_right _ (List.mem_append_left _ (List.mem_of_getElem? (i := 7) rfl))), (List.mem_append_right _ (List.mem_append_right _ (List.mem_append_left _ (List.mem_of_getElem? (i := 153) rfl))))⟩,
  (List.forall_mem_cons.mpr ⟨⟨⟨(List.mem_append_right _ (List.mem_append_right _ (List.mem_append_left _ (List.mem_of_getElem? (i := 154) rfl)))), rfl⟩, (List.mem_append_right _ (List.mem_append_left _ (List.mem_of_getElem? (i := 7) rfl))), (List.mem_append_right _ (List.mem_append_right _ (List.mem_append_left _ (List.mem_of_getElem? (i := 153) rfl))))⟩,
  (List.forall_mem_cons.mpr ⟨⟨⟨(List.mem_append_right _ (List.mem_append_right _ (List.mem_append_left _ (List.mem_of_getElem? (i := 154) rfl)))), rfl⟩, (List.mem_append_right _ (List.mem_append_left _ (List.mem_of_getElem? (i := 7) rfl))), (List.mem_append_right _ (List.mem_append_right _ (List.mem_append_left _ (List.mem_of_getElem? (i := 153) rfl))))⟩,
  (List.forall_mem_cons.mpr ⟨⟨⟨(List.mem_append_right _ (List.mem_append_right _ (List.mem_append_left _ (List.mem_of_getElem? (i := 154) rfl)))), rfl⟩, (List.mem_append_right _ (List.mem_append_left _ (List.mem_of_getElem? (i := 7) rfl))), (List.mem_append_right _ (List.mem_append_right _ (List.mem_append_left _ (List.mem_of_getElem? (i := 153) rfl))))⟩,
  (List.forall_mem_cons.mpr ⟨⟨⟨(List.mem_append_right _ (List.mem_append_right _ (List.mem_append_left _ (List.mem_of_getElem? (i := 154) rfl)))), rfl⟩, (List.mem_append_right _ (List.mem_append_left _ (List.mem_of_getElem? (i := 7) rfl))), (List.mem_append_right _ (List.mem_append_right _ (List.mem_append_left _ (List.mem_of_getElem? (i := 153) rfl))))⟩,
  (List.forall_mem_cons.mpr ⟨⟨⟨(List.mem_append_right _ (List.mem_append_right _ (List.mem_append_left _ (List.mem_of_getElem? (i := 142) rfl)))), rfl⟩, (List.mem_append_right _ (List.mem_append_left _ (List.mem_of_getElem? (i := 7) rfl))), (List.mem_append_right _ (List.mem_append_right _ (List.mem_append_left _ (List.mem_of_getElem? (i := 141) rfl))))⟩,
  (List.forall_mem_cons.mpr ⟨⟨⟨(List.mem_append_right _ (List.mem_append_left _ (List.mem_of_getElem? (i := 171) rfl))), rfl⟩, (List.mem_append_right _ (List.mem_append_left _ (List.mem_of_getElem? (i := 7) rfl))), (List.mem_append_right _ (List.mem_append_left _ (List.mem_of_getElem? (i := 170) rfl)))⟩,
  (List.forall_mem_cons.mpr ⟨⟨⟨(List.mem_append_right _ (List.mem_append_right _ (List.mem_append_right _ (List.mem_append_right _ (List.mem_append_left _ (List.mem_of_getElem? (i := 113) rfl)))))), rfl⟩, (List.mem_append_right _ (List.mem_append_left _ (List.mem_of_getElem? (i := 7) rfl))), (List.mem_append_right _ (List.mem_append_right _ (List.mem_append_right _ (List.mem_append_right _ (List.mem_append_left _ (List.mem_of_getElem? (i := 112) rfl))))))⟩,
  (List.forall_mem_cons.mpr ⟨⟨⟨(List.mem_append_right _ (List.mem_append_right _ (List.mem_append_right _ (List.mem_append_right _ (List.mem_append_left _ (List.mem_of_getElem? (i := 106) rfl)))))), rfl⟩, (List.mem_append_right _ (List.mem_append_left _ (List.mem_of_getElem? (i := 7) rfl))), (List.mem_append_right _ (List.mem_append_right _ (List.mem_append_right _ (List.mem_append_right _ (List.mem_append_left _ (List.mem_of_getElem? (i := 105) rfl))))))⟩,
  (List.forall_mem_cons.mpr ⟨⟨⟨(List.mem_append_right _ (List.mem_append_right _ (List.mem_append_right _ (List.mem_append_right _ (List.mem_append_left _ (List.mem_of_getElem? (i := 45) rfl)))))), rfl⟩, (List.mem_append_right _ (List.mem_append_left _ (List.mem_of_getElem? (i := 7) rfl))), (List.mem_append_right _ (List.mem_append_right _ (List.mem_append_right _ (List.mem_append_right _ (List.mem_append_left _ (List.mem_of_getElem? (i := 44) rfl))))))⟩,
  (List.forall_mem_cons.mpr ⟨⟨⟨(List.mem_append_right _ (List.mem_append_right _ (List.mem_append_left _ (List.mem_of_getElem? (i := 174) rfl)))), rfl⟩, (List.mem_append_right _ (List.mem_append_left _ (List.mem_of_getElem? (i := 7) rfl))), (List.mem_append_right _ (List.mem_append_right _ (List.mem_append_left _ (List.mem_of_getElem? (i := 173) rfl))))⟩,
  (List.forall_mem_cons.mpr ⟨⟨⟨(List.mem_append_right _ (List.mem_append_right _ (List.mem_append_right _ (List.mem_append_right _ (List.mem_append_right _ (List.mem_of_getElem? (i := 78) rfl)))))), rfl⟩, (List.mem_append_right _ (List.mem_append_left _ (List.mem_of_getElem? (i := 7) rfl))), (List.mem_append_right _ (List.mem_append_right _ (List.mem_append_right _ (List.mem_append_right _ (List.mem_append_right _ (List.mem_of_getElem? (i := 77) rfl))))))⟩,
  (List.forall_mem_cons.mpr ⟨⟨⟨(List.mem_append_right _ (List.mem_append_right _ (List.mem_append_left _ (List.mem_of_getElem? (i := 154) rfl)))), rfl⟩, (List.mem_append_right _ (List.mem_append_left _ (List.mem_of_getElem? (i := 7) rfl))), (List.mem_append_right _ (List.mem_append_right _ (List.mem_append_left _ (List.mem_of_getElem? (i := 153) rfl))))⟩,
  (List.forall_mem_cons.mpr ⟨⟨⟨(List.mem_append_right _ (List.mem_append_right _ (List.mem_append_left _ (List.mem_of_getElem? (i := 154) rfl)))), rfl⟩, (List.mem_append_right _ (List.mem_append_left _ (List.mem_of_getElem? (i := 7) rfl))), (List.mem_append_right _ (List.mem_append_right _ (List.mem_append_left _ (List.mem_of_getElem? (i := 153) rfl))))⟩,
  (List.forall_mem_cons.mpr ⟨⟨⟨(List.mem_append_right _ (List.mem_append_right _ (List.mem_append_left _ (List.mem_of_getElem? (i := 154) rfl)))), rfl⟩, (List.mem_append_right _ (List.mem_append_left _ (List.mem_of_getElem? (i := 7) rfl))), (List.mem_append_right _ (List.mem_append_right _ (List.mem_append_left _ (List.mem_of_getElem? (i := 153) rfl))))⟩,
  (fun _ h => absurd h List.not_mem_nil)⟩)⟩)⟩)⟩)⟩)⟩)⟩)⟩)⟩)⟩)⟩)⟩)⟩)⟩)⟩)⟩)⟩)⟩)⟩)⟩)
set_option maxRecDepth 100000 in
theorem q_mw16 : ∀ x ∈ q_m16, q_mP x := (List.forall_mem_cons.mpr ⟨⟨⟨(List.mem_append_right _ (List.mem_append_right _ (List.mem_append_left _ (List.mem_of_getElem? (i := 154) rfl)))), rfl⟩, (List.mem_append_right _ (List.mem_append_left _ (List.mem_of_getElem? (i := 7) rfl))), (List.mem_append_right _ (List.mem_append_right _ (List.mem_append_left _ (List.mem_of_getElem? (i := 153) rfl))))⟩,
  (List.forall_mem_cons.mpr ⟨⟨⟨(List.mem_append_right _ (List.mem_append_right _ (List.mem_append_left _ (List.mem_of_getElem? (i := 154) rfl)))), rfl⟩, (List.mem_append_right _ (List.mem_append_left _ (List.mem_of_getElem? (i := 7) rfl))), (List.mem_append_right _ (List.mem_append_right _ (List.mem_append_left _ (List.mem_of_getElem? (i := 153) rfl))))⟩,
  (List.forall_mem_cons.mpr ⟨⟨⟨(List.mem_append_right _ (List.mem_append_right _ (List.mem_append_left _ (List.mem_of_getElem? (i := 154) rfl)))), rfl⟩, (List.mem_append_right _ (List.mem_append_left _ (List.mem_of_getElem? (i := 7) rfl))), (List.mem_append_right _ (List.mem_append_right _ (List.mem_append_left _ (List.mem_of_getElem? (i := 153) rfl))))⟩,
  (List.forall_mem_cons.mpr ⟨⟨⟨(List.mem_append_right _ (List.mem_append_right _ (List.mem_append_left _ (List.mem_of_getElem? (i := 154) rfl)))), rfl⟩, (List.mem_append_right _ (List.mem_append_left _ (List.mem_of_getElem? (i := 7) rfl))), (List.mem_append_right _ (List.mem_append_right _ (List.mem_append_left _ (List.mem_of_getElem? (i := 153) rfl))))⟩,
  (List.forall_mem_cons.mpr ⟨⟨⟨(List.mem_append_right _ (List.mem_append_right _ (List.mem_append_left _ (List.mem_of_getElem? (i := 154) rfl)))), rfl⟩, (List.mem_append_right _ (List.mem_append_left _ (List.mem_of_getElem? (i := 7) rfl))), (List.mem_append_right _ (List.mem_append_right _ (List.mem_append_left _ (List.mem_of_getElem? (i := 153) rfl))))⟩,
  (List.forall_mem_cons.mpr ⟨⟨⟨(List.mem_append_right _ (List.mem_append_right _ (List.mem_append_left _ (List.mem_of_getElem? (i := 154) rfl)))), rfl⟩, (List.mem_append_right _ (List.mem_append_left _ (List.mem_of_getElem? (i := 7) rfl))), (List.mem_append_right _ (List.mem_append_right _ (List.mem_append_left _ (List.mem_of_getElem? (i := 153) rfl))))⟩,
  (List.forall_mem_cons.mpr ⟨⟨⟨(List.mem_append_right _ (List.mem_append_right _ (List.mem_append_left _ (List.mem_of_getElem? (i := 154) rfl)))), rfl⟩, (List.mem_append_right _ (List.mem_append_left _ (List.mem_of_getElem? (i := 7) rfl))), (List.mem_append_right _ (List.mem_append_right _ (List.mem_append_left _ (List.mem_of_getElem? (i := 153) rfl))))⟩,
  (List.forall_mem_cons.mpr ⟨⟨⟨(List.mem_append_right _ (List.mem_append_right _ (List.mem_append_left _ (List.mem_of_getElem? (i := 154) rfl)))), rfl⟩, (List.mem_append_right _ (List.mem_append_left _ (List.mem_of_getElem? (i := 7) rfl))), (List.mem_append_right _ (List.mem_append_right _ (List.mem_append_left _ (List.mem_of_getElem? (i := 153) rfl))))⟩,
  (List.forall_mem_cons.mpr ⟨⟨⟨(List.mem_append_right _ (List.mem_append_right _ (List.mem_append_left _ (List.mem_of_getElem? (i := 154) rfl)))), rfl⟩, (List.mem_append_right _ (List.mem_append_left _ (List.mem_of_getElem? (i := 7) rfl))), (List.mem_append_right _ (List.mem_append_right _ (List.mem_append_left _ (List.mem_of_getElem? (i := 153) rfl))))⟩,
  (List.forall_mem_cons.mpr ⟨⟨⟨(List.mem_append_right _ (List.mem_append_right _ (List.mem_append_left _ (List.mem_of_getElem? (i := 154) rfl)))), rfl⟩, (List.mem_append_right _ (List.mem_append_left _ (List.mem_of_getElem? (i := 7) rfl))), (List.mem_append_right _ (List.mem_append_right _ (List.mem_append_left _ (List.mem_of_getElem? (i := 153) rfl))))⟩,
  (List.forall_mem_cons.mpr ⟨⟨⟨(List.mem_append_right _ (List.mem_append_right _ (List.mem_append_left _ (List.mem_of_getElem? (i := 154) rfl)))), rfl⟩, (List.mem_append_right _ (List.mem_append_left _ (List.mem_of_getElem? (i := 7) rfl))), (List.mem_append_right _ (List.mem_append_right _ (List.mem_append_left _ (List.mem_of_getElem? (i := 153) rfl))))⟩,
  (List.forall_mem_cons.mpr ⟨⟨⟨(List.mem_append_right _ (List.mem_append_right _ (List.mem_append_left _ (List.mem_of_getElem? (i := 154) rfl)))), rfl⟩, (List.mem_append_right _ (List.mem_append_left _ (List.mem_of_getElem? (i := 7) rfl))), (List.mem_append_right _ (List.mem_append_right _ (List.mem_append_left _ (List.mem_of_getElem? (i := 153) rfl))))⟩,
  (List.forall_mem_cons.mpr ⟨⟨⟨(List.mem_append_right _ (List.mem_append_right _ (List.mem_append_left _ (List.mem_of_getElem? (i := 154) rfl)))), rfl⟩, (List.mem_append_right _ (List.mem_append_left _ (List.mem_of_getElem? (i := 7) rfl))), (List.mem_append_right _ (List.mem_append_right _ (List.mem_append_left _ (List.mem_of_getElem? (i := 153) rfl))))⟩,
  (List.forall_mem_cons.mpr ⟨⟨⟨(List.mem_append_right _ (List.mem_append_right _ (List.mem_append_left _ (List.mem_of_getElem? (i := 154) rfl)))), rfl⟩, (List.mem_append_right _ (List.mem_append_left _ (List.mem_of_getElem? (i := 7) rfl))), (List.mem_append_right _ (List.mem_append_right _ (List.mem_append_left _ (List.mem_of_getElem? (i := 153) rfl))))⟩,
  (List.forall_mem_cons.mpr ⟨⟨⟨(List.mem_append_right _ (List.mem_append_right _ (List.mem_append_left _ (List.mem_of_getElem? (i := 154) rfl)))), rfl⟩, (List.mem_append_right _ (List.mem_append_left _ (List.mem_of_getElem? (i := 7) rfl))), (List.mem_append_right _ (List.mem_append_right _ (List.mem_append_left _ (List.mem_of_getElem? (i := 153) rfl))))⟩,
  (List.forall_mem_cons.mpr ⟨⟨⟨(List.mem_append_right _ (List.mem_append_right _ (List.mem_append_left _ (List.mem_of_getElem? (i := 154) rfl)))), rfl⟩, (List.mem_append_right _ (List.mem_append_left _ (List.mem_of_getElem? (i := 7) rfl))), (List.mem_append_right _ (List.mem_append_right _ (List.mem_append_left _ (List.mem_of_getElem? (i := 153) rfl))))⟩,
  (List.forall_mem_cons.mpr ⟨⟨⟨(List.mem_append_right _ (List.mem_append_right _ (List.mem_append_left _ (List.mem_of_getElem? (i := 154) rfl)))), rfl⟩, (List.mem_append_right _ (List.mem_append_left _ (List.mem_of_getElem? (i := 7) rfl))), (List.mem_append_right _ (List.mem_append_right _ (List.mem_append_left _ (List.mem_of_getElem? (i := 153) rfl))))⟩,
  (List.forall_mem_cons.mpr ⟨⟨⟨(List.mem_append_right _ (List.mem_append_right _ (List.mem_append_left _ (List.mem_of_getElem? (i := 154) rfl)))), rfl⟩, (List.mem_append_right _ (List.mem_append_left _ (List.mem_of_getElem? (i := 7) rfl))), (List.mem_append_right _ (List.mem_append_right _ (List.mem_append_left _ (List.mem_of_getElem? (i := 153) rfl))))⟩,
  (List.forall_mem_cons.mpr ⟨⟨⟨(List.mem_append_right _ (List.mem_append_right _ (List.mem_append_left _ (List.mem_of_getElem? (i := 154) rfl)))), rfl⟩, (List.mem_append_right _ (List.mem_append_left _ (List.mem_of_getElem? (i := 7) rfl))), (List.mem_append_right _ (List.mem_append_right _ (List.mem_append_left _ (List.mem_of_getElem? (i := 153) rfl))))⟩,
  (List.forall_mem_cons.mpr ⟨⟨⟨(List.mem_append_right _ (List.mem_append_right _ (List.mem_append_left _ (List.mem_of_getElem? (i := 154) rfl)))), rfl⟩, (List.mem_append_right _ (List.mem_append_left _ (List.mem_of_getElem? (i := 7) rfl))), (List.mem_append_right _ (List.mem_append_right _ (List.mem_append_left _ (List.mem_of_getElem? (i := 153) rfl))))⟩,
  (fun _ h => absurd h List.not_mem_nil)⟩)⟩)⟩)⟩)⟩)⟩)⟩)⟩)⟩)⟩)⟩)⟩)⟩)⟩)⟩)⟩)⟩)⟩)⟩)⟩)
set_option maxRecDepth 100000 in
theorem q_mw17a : ∀ x ∈ q_m17.take 11, q_mP x := (List.forall_mem_cons.mpr ⟨⟨⟨(List.mem_append_right _ (List.mem_append_right _ (List.mem_append_left _ (List.mem_of_getElem? (i := 154) rfl)))), rfl⟩, (List.mem_append_right _ (List.mem_append_left _ (List.mem_of_getElem? (i := 7) rfl))), (List.mem_append_right _ (List.mem_append_right _ (List.mem_append_left _ (List.mem_of_getElem? (i := 153) rfl))))⟩,
  (List.forall_mem_cons.mpr ⟨⟨⟨(List.mem_append_right _ (List.mem_append_right _ (List.mem_append_left _ (List.mem_of_getElem? (i := 154) rfl)))), rfl⟩, (List.mem_append_right _ (List.mem_append_left _ (List.mem_of_getElem? (i := 7) rfl))), (List.mem_append_right _ (List.mem_append_right _ (List.mem_append_left _ (List.mem_of_getElem? (i := 153) rfl))))⟩,
  (List.forall_mem_cons.mpr ⟨⟨⟨(List.mem_append_right _ (List.mem_append_right _ (List.mem_append_left _ (List.mem_of_getElem? (i := 154) rfl)))), rfl⟩, (List.mem_append_right _ (List.mem_append_left _ (List.mem_of_getElem? (i := 7) rfl))), (List.mem_append_right _ (List.mem_append_right _ (List.mem_append_left _ (List.mem_of_getElem? (i := 153) rfl))))⟩,
  (List.forall_mem_cons.mpr ⟨⟨⟨(List.mem_append_right _ (List.mem_append_right _ (List.mem_append_left _ (List.mem_of_getElem? (i := 154) rfl)))), rfl⟩, (List.mem_append_right _ (List.mem_append_left _ (List.mem_of_getElem? (i := 7) rfl))), (List.mem_append_right _ (List.mem_append_right _ (List.mem_append_left _ (List.mem_of_getElem? (i := 153) rfl))))⟩,
  (List.forall_mem_cons.mpr ⟨⟨⟨(List.mem_append_right _ (List.mem_append_right _ (List.mem_append_left _ (List.mem_of_getElem? (i := 154) rfl)))), rfl⟩, (List.mem_append_right _ (List.mem_append_left _ (List.mem_of_getElem? (i := 7) rfl))), (List.mem_append_right _ (List.mem_append_right _ (List.mem_append_left _ (List.mem_of_getElem? (i := 153) rfl))))⟩,
  (List.forall_mem_cons.mpr ⟨⟨⟨(List.mem_append_right _ (List.mem_append_right _ (List.mem_append_left _ (List.mem_of_getElem? (i := 154) rfl)))), rfl⟩, (List.mem_append_right _ (List.mem_append_left _ (List.mem_of_getElem? (i := 7) rfl))), (List.mem_append_right _ (List.mem_append_right _ (List.mem_append_left _ (List.mem_of_getElem? (i := 153) rfl))))⟩,
  (List.forall_mem_cons.mpr ⟨⟨⟨(List.mem_append_right _ (List.mem_append_right _ (List.mem_append_left _ (List.mem_of_getElem? (i := 154) rfl)))), rfl⟩, (List.mem_append_right _ (List.mem_append_left _ (List.mem_of_getElem? (i := 7) rfl))), (List.mem_append_right _ (List.mem_append_right _ (List.mem_append_left _ (List.mem_of_getElem? (i := 153) rfl))))⟩,
  (List.forall_mem_cons.mpr ⟨⟨⟨(List.mem_append_right _ (List.mem_append_right _ (List.mem_append_left _ (List.mem_of_getElem? (i := 154) rfl)))), rfl⟩, (List.mem_append_right _ (List.mem_append_left _ (List.mem_of_getElem? (i := 7) rfl))), (List.mem_append_right _ (List.mem_append_right _ (List.mem_append_left _ (List.mem_of_getElem? (i := 153) rfl))))⟩,
  (List.forall_mem_cons.mpr ⟨⟨⟨(List.mem_append_right _ (List.mem_append_right _ (List.mem_append_left _ (List.mem_of_getElem? (i := 154) rfl)))), rfl⟩, (List.mem_append_right _ (List.mem_append_left _ (List.mem_of_getElem? (i := 7) rfl))), (List.mem_append_right _ (List.mem_append_right _ (List.mem_append_left _ (List.mem_of_getElem? (i := 153) rfl))))⟩,
  (List.forall_mem_cons.mpr ⟨⟨⟨(List.mem_append_right _ (List.mem_append_right _ (List.mem_append_left _ (List.mem_of_getElem? (i := 154) rfl)))), rfl⟩, (List.mem_append_right _ (List.mem_append_left _ (List.mem_of_getElem? (i := 7) rfl))), (List.mem_append_right _ (List.mem_append_right _ (List.mem_append_left _ (List.mem_of_getElem? (i := 153) rfl))))⟩,
  (List.forall_mem_cons.mpr ⟨⟨⟨(List.mem_append_right _ (List.mem_append_right _ (List.mem_append_left _ (List.mem_of_getElem? (i := 154) rfl)))), rfl⟩, (List.mem_append_right _ (List.mem_append_left _ (List.mem_of_getElem? (i := 7) rfl))), (List.mem_append_right _ (List.mem_append_right _ (List.mem_append_left _ (List.mem_of_getElem? (i := 153) rfl))))⟩,
  (fun _ h => absurd h List.not_mem_nil)⟩)⟩)⟩)⟩)⟩)⟩)⟩)⟩)⟩)⟩)⟩)
set_option maxRecDepth 100000 in
theorem q_mw17b : ∀ x ∈ q_m17.drop 12, q_mP x := (List.forall_mem_cons.mpr ⟨⟨⟨(List.mem_append_right _ (List.mem_append_right _ (List.mem_append_right _ (List.mem_append_right _ (List.mem_append_left _ (List.mem_of_getElem? (i := 52) rfl)))))), rfl⟩, (List.mem_append_right _ (List.mem_append_left _ (List.mem_of_getElem? (i := 22) rfl))), (List.mem_append_right _ (List.mem_append_right _ (List.mem_append_right _ (List.mem_append_right _ (List.mem_append_left _ (List.mem_of_getElem? (i := 51) rfl))))))⟩,
  (fun _ h => absurd h List.not_mem_nil)⟩)
end
section
def q_mok (y : Nat) (x : q_MT) : Bool :=
  decide (plainName x.1.cls = true) && decide (x.1.cls ≠ "java/lang/invoke/MethodHandle" ∧ x.1.cls ≠ "java/lang/invoke/VarHandle") && decide ((parseMethodDescriptor x.1.desc).map (fun d => d.parameters.length) = q_nar[y]?) && decide (x.2.2.1 ≤ 18) && decide (x.1.cls = q_cn x.2.2.2.2.2.2.1) &&
  (match x.2.2.2.2.2.1 with
   | 0 => true
   | 1 => decide (x.2.2.2.2.1 = []) && decide (x.1.name ≠ "<init>")
   | 2 => decide (x.1.name = "<init>") && decide (x.2.2.2.2.1 = []) && decide (x.2.2.2.1 = none)
   | _ => false)
def q_mokL : Nat → List q_MT → Bool
  | y, x :: xs => (decide (y = q_law) || q_mok y x) && q_mokL (y + 1) xs
  | _, [] => true
set_option maxRecDepth 100000 in
theorem q_mok0 : q_mokL 0 q_m0 = true := by decide +kernel
set_option maxRecDepth 100000 in
theorem q_mok1 : q_mokL 20 q_m1 = true := by decide +kernel
set_option maxRecDepth 100000 in
theorem q_mok2 : q_mokL 40 q_m2 = true := by decide +kernel
set_option maxRecDepth 100000 in
theorem q_mok3 : q_mokL 60 q_m3 = true := by decide +kernel
set_option maxRecDepth 100000 in
theorem q_mok4 : q_mokL 80 q_m4 = true := by decide +kernel
set_option maxRecDepth 100000 in
theorem q_mok5 : q_mokL 100 q_m5 = true := by decide +kernel
set_option maxRecDepth 100000 in
theorem q_mok6 : q_mokL 120 q_m6 = true := by decide +kernel
set_option maxRecDepth 100000 in
theorem q_mok7 : q_mokL 140 q_m7 = true := by decide +kernel
set_option maxRecDepth 100000 in
theorem q_mok8 : q_mokL 160 q_m8 = true := by decide +kernel
set_option maxRecDepth 100000 in
theorem q_mok9 : q_mokL 180 q_m9 = true := by decide +kernel
set_option maxRecDepth 100000 in
theorem q_mok10 : q_mokL 200 q_m10 = true := by decide +kernel
set_option maxRecDepth 100000 in
theorem q_mok11 : q_mokL 220 q_m11 = true := by decide +kernel
set_option maxRecDepth 100000 in
theorem q_mok12 : q_mokL 240 q_m12 = true := by decide +kernel
set_option maxRecDepth 100000 in
theorem q_mok13 : q_mokL 260 q_m13 = true := by decide +kernel
set_option maxRecDepth 100000 in
theorem q_mok14 : q_mokL 280 q_m14 = true := by decide +kernel
set_option maxRecDepth 100000 in
theorem q_mok15 : q_mokL 300 q_m15 = true := by decide +kernel
set_option maxRecDepth 100000 in
theorem q_mok16 : q_mokL 320 q_m16 = true := by decide +kernel
set_option maxRecDepth 100000 in
theorem q_mok17 : q_mokL 340 q_m17 = true := by decide +kernel
end
section
/-- an instruction's own words in the table of links -/
def q_eok (o : Nat) (e : Nat × Instr × Nat × Nat) : Bool := match e.2.1 with
  | .getfield i | .putfield i => q_flp.any (fun x => decide (x.2 = (o, i, e.2.2.1, e.2.2.2)))
  | .new i => q_klp.any (fun x => decide (x.2 = (o, i, e.2.2.1)))
  | .anewarray i => q_klp.any (fun x => decide (x.2 = (o, i, e.2.2.1 + 1 + (e.2.2.1 - 5) * 2)))
  | .ldc i => if e.2.2.1 = 0 then q_cip.any (fun x => decide (x.2 = (o, i, e.2.2.2))) else decide (e.2.2.2 < q_sc.length ∧ (q_sc.getD e.2.2.2 default).1 = q_cn o ∧ (q_sc.getD e.2.2.2 default).2.1 = i)
  | .ldc_w i => q_cip.any (fun x => decide (x.2 = (o, i, e.2.2.2)))
  | .ldc2_w i => q_clp.any (fun x => decide (x.2 = (o, i, e.2.2.2)))
  | .invokestatic i => if e.2.2.1 = 999 then true else q_mlp.any (fun x => decide (x.2 = (o, i, e.2.2.1))) && (if 900 ≤ e.2.2.1 then decide (e.2.2.1 ∈ [910, 911, 912, 913]) else decide ((q_row e.2.2.1).2.2.2.2.2.1 = 0) && decide (q_nar[e.2.2.1]? = some e.2.2.2))
  | .invokevirtual i => q_mlp.any (fun x => decide (x.2 = (o, i, e.2.2.1))) && (if 900 ≤ e.2.2.1 then decide (e.2.2.1 ∈ [900, 901]) else decide ((q_row e.2.2.1).2.2.2.2.2.1 = 1) && decide (q_nar[e.2.2.1]? = some e.2.2.2))
  | .invokespecial i => if e.2.2.1 = 999 then true else q_mlp.any (fun x => decide (x.2 = (o, i, e.2.2.1))) && (if 900 ≤ e.2.2.1 then decide (e.2.2.1 = 914) else decide ((q_row e.2.2.1).2.2.2.2.2.1 = 2) && decide (q_nar[e.2.2.1]? = some e.2.2.2))
  | i => q_br i e.2.2.1 e.1
def q_xe (bytes : ByteArray) (o : Nat) (e : Nat × Instr × Nat × Nat) : Bool := decide (decode bytes e.1 = .ok (e.2.1, q_len e.2.1 e.2.2.2)) && q_eok o e && q_br e.2.1 e.2.2.1 e.1
def q_xok (x : q_MT) : Bool := x.2.2.2.2.2.2.2.all (q_xe x.2.1 x.2.2.2.2.2.2.1)
end
section
set_option maxRecDepth 100000 in
theorem q_xok0 : q_m0.all q_xok = true := by decide +kernel
set_option maxRecDepth 100000 in
theorem q_xok1 : q_m1.all q_xok = true := by decide +kernel
set_option maxRecDepth 100000 in
theorem q_xok2 : q_m2.all q_xok = true := by decide +kernel
end
section
set_option maxRecDepth 100000 in
theorem q_xok3 : q_m3.all q_xok = true := by decide +kernel
set_option maxRecDepth 100000 in
theorem q_xok4 : q_m4.all q_xok = true := by decide +kernel
set_option maxRecDepth 100000 in
theorem q_xok5 : q_m5.all q_xok = true := by decide +kernel
end
section
set_option maxRecDepth 100000 in
theorem q_xok6 : q_m6.all q_xok = true := by decide +kernel
set_option maxRecDepth 100000 in
theorem q_xok7 : q_m7.all q_xok = true := by decide +kernel
set_option maxRecDepth 100000 in
theorem q_xok8 : q_m8.all q_xok = true := by decide +kernel
end
section
set_option maxRecDepth 100000 in
theorem q_xok9 : q_m9.all q_xok = true := by decide +kernel
set_option maxRecDepth 100000 in
theorem q_xok10 : q_m10.all q_xok = true := by decide +kernel
set_option maxRecDepth 100000 in
theorem q_xok11 : q_m11.all q_xok = true := by decide +kernel
end
section
set_option maxRecDepth 100000 in
theorem q_xok12 : q_m12.all q_xok = true := by decide +kernel
set_option maxRecDepth 100000 in
theorem q_xok13 : q_m13.all q_xok = true := by decide +kernel
set_option maxRecDepth 100000 in
theorem q_xok14 : q_m14.all q_xok = true := by decide +kernel
end
section
set_option maxRecDepth 100000 in
theorem q_xok15 : q_m15.all q_xok = true := by decide +kernel
set_option maxRecDepth 100000 in
theorem q_xok16 : q_m16.all q_xok = true := by decide +kernel
set_option maxRecDepth 100000 in
theorem q_xl0 : ((q_k351.drop 0).take 100).all (q_xe code 11) = true := by decide +kernel
set_option maxRecDepth 100000 in
theorem q_xok17a : (q_m17.take 11).all q_xok = true := by decide +kernel
set_option maxRecDepth 100000 in
theorem q_xok17b : (q_m17.drop 12).all q_xok = true := by decide +kernel
end
section
theorem q_app {P : Nat → q_MT → Prop} {L1 L2 : List q_MT} {n k : Nat} (hn : L1.length = n) (h1 : ∀ (j : Nat) (z : q_MT), L1[j]? = some z → P (k + j) z) (h2 : ∀ (j : Nat) (z : q_MT), L2[j]? = some z → P (k + n + j) z) : ∀ (j : Nat) (z : q_MT), (L1 ++ L2)[j]? = some z → P (k + j) z := by
  intro j z hz
  by_cases hj : j < L1.length
  · rw [List.getElem?_append_left hj] at hz
    exact h1 j z hz
  · rw [List.getElem?_append_right (Nat.not_lt.mp hj)] at hz
    have := h2 _ z hz
    rw [hn] at this hj
    rwa [show k + n + (j - n) = k + j by omega] at this
theorem q_mokL_get : ∀ (L : List q_MT) (k : Nat), q_mokL k L = true → ∀ (j : Nat) (z : q_MT), L[j]? = some z → k + j = q_law ∨ q_mok (k + j) z = true
  | [], k, _, j, z, hz => by simp at hz
  | w :: L, k, h, j, z, hz => by
    simp only [q_mokL, Bool.and_eq_true, Bool.or_eq_true, decide_eq_true_eq] at h
    cases j with
    | zero =>
      simp only [List.getElem?_cons_zero, Option.some.injEq] at hz
      subst hz
      exact h.1
    | succ j =>
      rw [List.getElem?_cons_succ] at hz
      have := q_mokL_get L (k + 1) h.2 j z hz
      rwa [show k + 1 + j = k + (j + 1) by omega] at this
theorem q_take_get {P : q_MT → Prop} {L : List q_MT} {n k : Nat} (h1 : ∀ z ∈ L.take n, P z) (h2 : ∀ z ∈ L.drop (n + 1), P z) (hk : k + n = q_law) : ∀ (j : Nat) (z : q_MT), L[j]? = some z → k + j = q_law ∨ P z := by
  intro j z hz
  rcases Nat.lt_trichotomy j n with h | h | h
  · exact Or.inr (h1 z (List.mem_of_getElem? (i := j) (by rw [List.getElem?_take, if_pos h]; exact hz)))
  · exact Or.inl (by omega)
  · exact Or.inr (h2 z (List.mem_of_getElem? (i := j - (n + 1)) (by rw [List.getElem?_drop, show n + 1 + (j - (n + 1)) = j by omega]; exact hz)))
theorem q_rows {P : Nat → q_MT → Prop} (h0 : ∀ (j : Nat) (z : q_MT), q_m0[j]? = some z → P (0 + j) z) (h1 : ∀ (j : Nat) (z : q_MT), q_m1[j]? = some z → P (20 + j) z) (h2 : ∀ (j : Nat) (z : q_MT), q_m2[j]? = some z → P (40 + j) z) (h3 : ∀ (j : Nat) (z : q_MT), q_m3[j]? = some z → P (60 + j) z) (h4 : ∀ (j : Nat) (z : q_MT), q_m4[j]? = some z → P (80 + j) z) (h5 : ∀ (j : Nat) (z : q_MT), q_m5[j]? = some z → P (100 + j) z) (h6 : ∀ (j : Nat) (z : q_MT), q_m6[j]? = some z → P (120 + j) z) (h7 : ∀ (j : Nat) (z : q_MT), q_m7[j]? = some z → P (140 + j) z) (h8 : ∀ (j : Nat) (z : q_MT), q_m8[j]? = some z → P (160 + j) z) (h9 : ∀ (j : Nat) (z : q_MT), q_m9[j]? = some z → P (180 + j) z) (h10 : ∀ (j : Nat) (z : q_MT), q_m10[j]? = some z → P (200 + j) z) (h11 : ∀ (j : Nat) (z : q_MT), q_m11[j]? = some z → P (220 + j) z) (h12 : ∀ (j : Nat) (z : q_MT), q_m12[j]? = some z → P (240 + j) z) (h13 : ∀ (j : Nat) (z : q_MT), q_m13[j]? = some z → P (260 + j) z) (h14 : ∀ (j : Nat) (z : q_MT), q_m14[j]? = some z → P (280 + j) z) (h15 : ∀ (j : Nat) (z : q_MT), q_m15[j]? = some z → P (300 + j) z) (h16 : ∀ (j : Nat) (z : q_MT), q_m16[j]? = some z → P (320 + j) z) (h17 : ∀ (j : Nat) (z : q_MT), q_m17[j]? = some z → P (340 + j) z) : ∀ (j : Nat) (z : q_MT), q_mt[j]? = some z → P j z := by
  have e17 := h17
  have e16 := q_app (P := P) (n := 20) (k := 320) rfl h16 e17
  have e15 := q_app (P := P) (n := 20) (k := 300) rfl h15 e16
  have e14 := q_app (P := P) (n := 20) (k := 280) rfl h14 e15
  have e13 := q_app (P := P) (n := 20) (k := 260) rfl h13 e14
  have e12 := q_app (P := P) (n := 20) (k := 240) rfl h12 e13
  have e11 := q_app (P := P) (n := 20) (k := 220) rfl h11 e12
  have e10 := q_app (P := P) (n := 20) (k := 200) rfl h10 e11
  have e9 := q_app (P := P) (n := 20) (k := 180) rfl h9 e10
  have e8 := q_app (P := P) (n := 20) (k := 160) rfl h8 e9
  have e7 := q_app (P := P) (n := 20) (k := 140) rfl h7 e8
  have e6 := q_app (P := P) (n := 20) (k := 120) rfl h6 e7
  have e5 := q_app (P := P) (n := 20) (k := 100) rfl h5 e6
  have e4 := q_app (P := P) (n := 20) (k := 80) rfl h4 e5
  have e3 := q_app (P := P) (n := 20) (k := 60) rfl h3 e4
  have e2 := q_app (P := P) (n := 20) (k := 40) rfl h2 e3
  have e1 := q_app (P := P) (n := 20) (k := 20) rfl h1 e2
  have e0 := q_app (P := P) (n := 20) (k := 0) rfl h0 e1
  intro j z hz
  have := e0 j z hz
  rwa [Nat.zero_add] at this
theorem q_mt_len : q_mt.length = 353 := by decide +kernel
theorem q_mok_all : ∀ (j : Nat) (z : q_MT), q_mt[j]? = some z → j = q_law ∨ q_mok j z = true := q_rows (P := fun j z => j = q_law ∨ q_mok j z = true) (q_mokL_get q_m0 0 q_mok0) (q_mokL_get q_m1 20 q_mok1) (q_mokL_get q_m2 40 q_mok2) (q_mokL_get q_m3 60 q_mok3) (q_mokL_get q_m4 80 q_mok4) (q_mokL_get q_m5 100 q_mok5) (q_mokL_get q_m6 120 q_mok6) (q_mokL_get q_m7 140 q_mok7) (q_mokL_get q_m8 160 q_mok8) (q_mokL_get q_m9 180 q_mok9) (q_mokL_get q_m10 200 q_mok10) (q_mokL_get q_m11 220 q_mok11) (q_mokL_get q_m12 240 q_mok12) (q_mokL_get q_m13 260 q_mok13) (q_mokL_get q_m14 280 q_mok14) (q_mokL_get q_m15 300 q_mok15) (q_mokL_get q_m16 320 q_mok16) (q_mokL_get q_m17 340 q_mok17)
theorem q_mP_all : ∀ (j : Nat) (z : q_MT), q_mt[j]? = some z → j = q_law ∨ q_mP z := q_rows (P := fun j z => j = q_law ∨ q_mP z) (fun j z hz => Or.inr (q_mw0 z (List.mem_of_getElem? hz))) (fun j z hz => Or.inr (q_mw1 z (List.mem_of_getElem? hz))) (fun j z hz => Or.inr (q_mw2 z (List.mem_of_getElem? hz))) (fun j z hz => Or.inr (q_mw3 z (List.mem_of_getElem? hz))) (fun j z hz => Or.inr (q_mw4 z (List.mem_of_getElem? hz))) (fun j z hz => Or.inr (q_mw5 z (List.mem_of_getElem? hz))) (fun j z hz => Or.inr (q_mw6 z (List.mem_of_getElem? hz))) (fun j z hz => Or.inr (q_mw7 z (List.mem_of_getElem? hz))) (fun j z hz => Or.inr (q_mw8 z (List.mem_of_getElem? hz))) (fun j z hz => Or.inr (q_mw9 z (List.mem_of_getElem? hz))) (fun j z hz => Or.inr (q_mw10 z (List.mem_of_getElem? hz))) (fun j z hz => Or.inr (q_mw11 z (List.mem_of_getElem? hz))) (fun j z hz => Or.inr (q_mw12 z (List.mem_of_getElem? hz))) (fun j z hz => Or.inr (q_mw13 z (List.mem_of_getElem? hz))) (fun j z hz => Or.inr (q_mw14 z (List.mem_of_getElem? hz))) (fun j z hz => Or.inr (q_mw15 z (List.mem_of_getElem? hz))) (fun j z hz => Or.inr (q_mw16 z (List.mem_of_getElem? hz))) (q_take_get (n := 11) q_mw17a q_mw17b rfl)
end
section
theorem q_all_split {bytes : ByteArray} {o : Nat} {L : List (Nat × Instr × Nat × Nat)} {n : Nat} (h1 : (L.take n).all (q_xe bytes o) = true) (h2 : (L.drop n).all (q_xe bytes o) = true) : L.all (q_xe bytes o) = true := by
  rw [← List.take_append_drop n L, List.all_append, h1, h2]
  rfl
theorem q_xlaw : q_k351.all (q_xe code 11) = true := by
  exact (by have h := q_xl0; rw [List.drop_zero] at h; rwa [List.take_of_length_le (by decide +kernel)] at h)
theorem q_xok17 : ∀ (j : Nat) (z : q_MT), q_m17[j]? = some z → q_xok z = true := by
  intro j z hz
  rcases Nat.lt_trichotomy j 11 with h | h | h
  · exact List.all_eq_true.mp q_xok17a z (List.mem_of_getElem? (i := j) (by rw [List.getElem?_take, if_pos h]; exact hz))
  · subst h
    cases hz
    exact q_xlaw
  · exact List.all_eq_true.mp q_xok17b z (List.mem_of_getElem? (i := j - 12) (by rw [List.getElem?_drop, show 12 + (j - 12) = j by omega]; exact hz))
theorem q_xok_all : ∀ (j : Nat) (z : q_MT), q_mt[j]? = some z → q_xok z = true := q_rows (P := fun _ z => q_xok z = true) (fun j z hz => List.all_eq_true.mp q_xok0 z (List.mem_of_getElem? hz)) (fun j z hz => List.all_eq_true.mp q_xok1 z (List.mem_of_getElem? hz)) (fun j z hz => List.all_eq_true.mp q_xok2 z (List.mem_of_getElem? hz)) (fun j z hz => List.all_eq_true.mp q_xok3 z (List.mem_of_getElem? hz)) (fun j z hz => List.all_eq_true.mp q_xok4 z (List.mem_of_getElem? hz)) (fun j z hz => List.all_eq_true.mp q_xok5 z (List.mem_of_getElem? hz)) (fun j z hz => List.all_eq_true.mp q_xok6 z (List.mem_of_getElem? hz)) (fun j z hz => List.all_eq_true.mp q_xok7 z (List.mem_of_getElem? hz)) (fun j z hz => List.all_eq_true.mp q_xok8 z (List.mem_of_getElem? hz)) (fun j z hz => List.all_eq_true.mp q_xok9 z (List.mem_of_getElem? hz)) (fun j z hz => List.all_eq_true.mp q_xok10 z (List.mem_of_getElem? hz)) (fun j z hz => List.all_eq_true.mp q_xok11 z (List.mem_of_getElem? hz)) (fun j z hz => List.all_eq_true.mp q_xok12 z (List.mem_of_getElem? hz)) (fun j z hz => List.all_eq_true.mp q_xok13 z (List.mem_of_getElem? hz)) (fun j z hz => List.all_eq_true.mp q_xok14 z (List.mem_of_getElem? hz)) (fun j z hz => List.all_eq_true.mp q_xok15 z (List.mem_of_getElem? hz)) (fun j z hz => List.all_eq_true.mp q_xok16 z (List.mem_of_getElem? hz)) q_xok17
end
section
/-! places into addresses -/
def q_tv (ad : Nat → Nat) (v : Value) : Value := match v with
  | .ref i => .ref (ad i)
  | v => v
abbrev q_tl (ad : Nat → Nat) (lv : q_L) : q_L := lv.map (fun q => (q.1, q_tv ad q.2))
abbrev q_ts (ad : Nat → Nat) (st : List Value) : List Value := st.map (q_tv ad)
def q_te (ad : Nat → Nat) (tc : Nat → ClassId) (e : va_E) : va_E := match e with
  | .inl (t, n, .inr (.inr (.inr (.inr g)))) => .inl (tc t, n, .inr (.inr (.inr (.inr (fun j => (g j).map ad)))))
  | .inl (t, n, .inr (.inr (.inr (.inl g)))) => .inl (tc t, n, .inr (.inr (.inr (.inl g))))
  | .inl (t, n, .inr (.inr (.inl g))) => .inl (tc t, n, .inr (.inr (.inl g)))
  | .inl (t, n, .inr (.inl g)) => .inl (tc t, n, .inr (.inl g))
  | .inl (t, n, .inl g) => .inl (tc t, n, .inl g)
  | .inr (ci, fs) => .inr (ci, fs.map (q_tv ad))
def q_rz (ad : Nat → Nat) (tc : Nat → ClassId) (M : List va_E) : va_W := M.mapIdx (fun i e => (ad i, q_te ad tc e))
theorem q_tv_int (ad : Nat → Nat) (x : Int32) : q_tv ad (.int x) = .int x := rfl
theorem q_tv_cat (ad : Nat → Nat) (v : Value) : (q_tv ad v).category = v.category := by cases v <;> rfl
theorem q_ts_cat (ad : Nat → Nat) (st : List Value) : ((q_ts ad st).map fun v => v.category) = st.map fun v => v.category := by
  simp only [q_ts, List.map_map]
  exact List.map_congr_left (fun v _ => q_tv_cat ad v)
theorem q_tv_narrow {ad : Nat → Nat} {ty : FieldType} {v : Value} (h : narrow ty v = v) : narrow ty (q_tv ad v) = q_tv ad v := by
  cases v <;> first | exact h | (cases ty <;> rfl)
theorem q_tv_fits {ad : Nat → Nat} {ty : FieldType} {v : Value} (h : fits ty v = true) : fits ty (q_tv ad v) = true := by
  cases v <;> first | exact h | (cases ty <;> first | exact h | rfl | simp_all [fits, q_tv])
theorem q_tl_s1 (ad : Nat → Nat) (lv : q_L) (i : Nat) (v : Value) : (i, q_tv ad v) :: (q_tl ad lv).filter (fun q => !(q.1 == i) && !(q.1 + 1 == i && q.2.category == 2)) = q_tl ad (q_s1 lv i v) := by
  simp only [q_s1, q_tl, List.map_cons, List.filter_map]
  congr 2
  apply List.filter_congr
  intro q _
  simp only [Function.comp, q_tv_cat]
theorem q_tl_s2 (ad : Nat → Nat) (lv : q_L) (i : Nat) (v : Value) : (i, q_tv ad v) :: (q_tl ad lv).filter (fun q => !(q.1 == i) && (!(q.1 == i + 1) && !(q.1 + 1 == i && q.2.category == 2))) = q_tl ad (q_s2 lv i v) := by
  simp only [q_s2, q_tl, List.map_cons, List.filter_map]
  congr 2
  apply List.filter_congr
  intro q _
  simp only [Function.comp, q_tv_cat]
theorem q_ld_mem {lv : q_L} {i : Nat} {v : Value} (h : q_ld lv i = some v) : (i, v) ∈ lv := by
  unfold q_ld at h
  obtain ⟨q, h1, h2⟩ := Option.map_eq_some_iff.mp h
  have h3 := List.find?_some h1
  have h4 := List.mem_of_find?_eq_some h1
  simp only [beq_iff_eq] at h3
  subst h2; subst h3
  exact h4
theorem q_ld_at {ad : Nat → Nat} {ls : Array Slot} {nL : Nat} {lv : q_L} {i : Nat} {v : Value} (hl : lv_has ls nL (q_tl ad lv)) (h : q_ld lv i = some v) : ls[i]? = some (.val (q_tv ad v)) :=
  hl.2.2 (i, q_tv ad v) (List.mem_map.mpr ⟨(i, v), q_ld_mem h, rfl⟩)
theorem q_ld_k {ad : Nat → Nat} {lv : q_L} {i : Nat} {v : Value} (h : q_ld lv i = some v) : ∃ k : Nat, (q_tl ad lv)[k]? = some (i, q_tv ad v) := List.getElem?_of_mem (List.mem_map.mpr ⟨(i, v), q_ld_mem h, rfl⟩)
theorem q_rz_get (ad : Nat → Nat) (tc : Nat → ClassId) (M : List va_E) (k : Nat) : (q_rz ad tc M)[k]? = M[k]?.map (fun e => (ad k, q_te ad tc e)) := by
  unfold q_rz
  rw [List.getElem?_mapIdx]
theorem q_rz_at {ad : Nat → Nat} {tc : Nat → ClassId} {M : List va_E} {k : Nat} {e : va_E} (h : q_at M k = some e) : (q_rz ad tc M)[k]? = some (ad k, q_te ad tc e) := by
  unfold q_at at h
  split at h
  · rw [q_rz_get, h]; rfl
  · cases h
theorem q_rz_set (ad : Nat → Nat) (tc : Nat → ClassId) (M : List va_E) (k : Nat) (e : va_E) : (q_rz ad tc M).set k (ad k, q_te ad tc e) = q_rz ad tc (M.set k e) := by
  apply List.ext_getElem?
  intro j
  rw [q_rz_get, List.getElem?_set, List.getElem?_set, q_rz_get]
  have hlen : (q_rz ad tc M).length = M.length := by unfold q_rz; simp
  by_cases hj : k = j
  · subst hj
    rw [if_pos rfl, if_pos rfl, hlen]
    by_cases hk : k < M.length
    · rw [if_pos hk, if_pos hk]; rfl
    · rw [if_neg hk, if_neg hk]; rfl
  · rw [if_neg hj, if_neg hj]
/-- a value that names a place that is there -/
def q_vv (n : Nat) (v : Value) : Prop := ∀ i : Nat, v = .ref i → i < n ∨ q_big ≤ i
def q_ve (n : Nat) (e : va_E) : Prop := match e with
  | .inr (_, fs) => ∀ v ∈ fs, q_vv n v
  | .inl (_, _, .inr (.inr (.inr (.inr g)))) => ∀ (j i : Nat), g j = some i → i < n ∨ q_big ≤ i
  | _ => True
def q_vM (M : List va_E) : Prop := ∀ e ∈ M, q_ve M.length e
def q_vs (n : Nat) (st : List Value) : Prop := ∀ v ∈ st, q_vv n v
def q_vl (n : Nat) (lv : q_L) : Prop := ∀ q ∈ lv, q_vv n q.2
theorem q_vv.mono {n n' : Nat} {v : Value} (h : q_vv n v) (hn : n ≤ n') : q_vv n' v := fun i hi => (h i hi).imp (fun z => Nat.lt_of_lt_of_le z hn) id
theorem q_ve.mono {n n' : Nat} {e : va_E} (h : q_ve n e) (hn : n ≤ n') : q_ve n' e := by
  unfold q_ve at h ⊢
  split
  · exact fun v hv => (h v hv).mono hn
  · exact fun j i hi => (h j i hi).imp (fun z => Nat.lt_of_lt_of_le z hn) id
  · trivial
theorem q_vs.mono {n n' : Nat} {st : List Value} (h : q_vs n st) (hn : n ≤ n') : q_vs n' st := fun v hv => (h v hv).mono hn
theorem q_vl.mono {n n' : Nat} {lv : q_L} (h : q_vl n lv) (hn : n ≤ n') : q_vl n' lv := fun v hv => (h v hv).mono hn
/-- one more place -/
def q_ag (n : Nat) (ad ad' : Nat → Nat) : Prop := ∀ i : Nat, i < n ∨ q_big ≤ i → ad' i = ad i
theorem q_ag.rf {n : Nat} {ad : Nat → Nat} : q_ag n ad ad := fun _ _ => rfl
theorem q_ag.trans {n n' : Nat} {a b c : Nat → Nat} (h1 : q_ag n a b) (h2 : q_ag n' b c) (hn : n ≤ n') : q_ag n a c := fun i hi => (h2 i (hi.imp (fun z => Nat.lt_of_lt_of_le z hn) id)).trans (h1 i hi)
theorem q_tv_ag {n : Nat} {ad ad' : Nat → Nat} (h : q_ag n ad ad') {v : Value} (hv : q_vv n v) : q_tv ad' v = q_tv ad v := by
  cases v with
  | ref i => show Value.ref _ = Value.ref _; rw [h i (hv i rfl)]
  | _ => rfl
theorem q_ts_ag {n : Nat} {ad ad' : Nat → Nat} (h : q_ag n ad ad') {st : List Value} (hv : q_vs n st) : q_ts ad' st = q_ts ad st := List.map_congr_left (fun v hm => q_tv_ag h (hv v hm))
theorem q_tl_ag {n : Nat} {ad ad' : Nat → Nat} (h : q_ag n ad ad') {lv : q_L} (hv : q_vl n lv) : q_tl ad' lv = q_tl ad lv := List.map_congr_left (fun q hm => by rw [q_tv_ag h (hv q hm)])
theorem q_te_ag {n : Nat} {ad ad' : Nat → Nat} (h : q_ag n ad ad') {tc : Nat → ClassId} {e : va_E} (hv : q_ve n e) : q_te ad' tc e = q_te ad tc e := by
  unfold q_ve at hv
  match e, hv with
  | .inr (ci, fs), hv =>
    show Sum.inr (ci, _) = Sum.inr (ci, _)
    rw [List.map_congr_left (fun v hm => q_tv_ag h (hv v hm))]
  | .inl (t, n, .inr (.inr (.inr (.inr g)))), hv =>
    show Sum.inl (_, _, Sum.inr (Sum.inr (Sum.inr (Sum.inr _)))) = Sum.inl (_, _, Sum.inr (Sum.inr (Sum.inr (Sum.inr _))))
    have : (fun j => (g j).map ad') = (fun j => (g j).map ad) := by
      funext j
      cases hg : g j with
      | none => rfl
      | some i => show some (ad' i) = some (ad i); rw [h i (hv j i hg)]
    rw [this]
  | .inl (t, n, .inr (.inr (.inr (.inl g)))), hv => rfl
  | .inl (t, n, .inr (.inr (.inl g))), hv => rfl
  | .inl (t, n, .inr (.inl g)), hv => rfl
  | .inl (t, n, .inl g), hv => rfl
theorem q_rz_ag {n : Nat} {ad ad' : Nat → Nat} (h : q_ag n ad ad') {tc : Nat → ClassId} {M : List va_E} (hn : M.length ≤ n) (hv : ∀ e ∈ M, q_ve n e) : q_rz ad' tc M = q_rz ad tc M := by
  apply List.ext_getElem?
  intro j
  rw [q_rz_get, q_rz_get]
  cases hj : M[j]? with
  | none => rfl
  | some e =>
    have hl : j < M.length := (List.getElem?_eq_some_iff.mp hj).1
    show some (ad' j, q_te ad' tc e) = some (ad j, q_te ad tc e)
    rw [h j (Or.inl (Nat.lt_of_lt_of_le hl hn)), q_te_ag h (hv e (List.mem_of_getElem? hj))]
def q_ext (ad : Nat → Nat) (n q : Nat) : Nat → Nat := fun i => if i = n then q else ad i
theorem q_ext_ag {ad : Nat → Nat} {n q : Nat} (hn : n < q_big) : q_ag n ad (q_ext ad n q) := by
  intro i hi
  unfold q_ext
  rw [if_neg]
  rcases hi with h | h
  · exact Nat.ne_of_lt h
  · exact Nat.ne_of_gt (Nat.lt_of_lt_of_le hn h)
theorem q_rz_push {ad : Nat → Nat} {tc : Nat → ClassId} {M : List va_E} {e : va_E} {q : Nat} (hv : q_vM M) (he : q_ve M.length e) (hn : M.length < q_big) : q_rz ad tc M ++ [(q, q_te ad tc e)] = q_rz (q_ext ad M.length q) tc (M ++ [e]) := by
  have h1 : q_rz (q_ext ad M.length q) tc M = q_rz ad tc M := q_rz_ag (q_ext_ag hn) (Nat.le_refl _) hv
  apply List.ext_getElem?
  intro j
  have hlen : (q_rz ad tc M).length = M.length := by unfold q_rz; simp
  rw [q_rz_get]
  by_cases hj : j < M.length
  · rw [List.getElem?_append_left (by rw [hlen]; exact hj), List.getElem?_append_left hj, ← h1, q_rz_get]
  · by_cases hj2 : j = M.length
    · subst hj2
      rw [List.getElem?_append_right (by rw [hlen]; exact Nat.le_refl _), List.getElem?_append_right (Nat.le_refl _), hlen, Nat.sub_self]
      show some (q, q_te ad tc e) = some (q_ext ad M.length q M.length, q_te (q_ext ad M.length q) tc e)
      rw [q_te_ag (q_ext_ag hn) he]
      unfold q_ext
      rw [if_pos rfl]
    · rw [List.getElem?_eq_none (by rw [List.length_append, hlen]; simp; omega), List.getElem?_eq_none (by rw [List.length_append]; simp; omega)]
      rfl
end
section
/-! the mini-machine's instructions on the stack and the locals, and the machine's -/
section QP
variable {p : Program} {l : Launch} {e : Env} {R : Room} {s : State} {m : MethodId} {args : Array Value} {below : List Frame} {meth : Method} {c : Code} {H : Heap} {locs : List Loc} {cells slots : Nat} {Q : State → Prop}
set_option maxHeartbeats 4000000 in
theorem q_p1_ok {cc : ByteArray} (hx : p.tables.exec = Jvm.exec) (hb : c.code = cc) {i : Instr} {a b pc nL : Nat} {lv lv' : q_L} {st st' : List Value} {pc' : Nat} (h : q_p1 i a pc nL lv st = some (pc', lv', st')) (hdg : decode cc pc = .ok (i, q_len i b)) (hbr : q_br i a pc = true) {ad : Nat → Nat} {ls : Array Slot} (hl : lv_has ls nL (q_tl ad lv))
    (k : ∀ ls' : Array Slot, lv_has ls' nL (q_tl ad lv') → W p l e R s m args below meth c H locs cells slots Q (F0 m pc' ls' (q_ts ad st'))) : W p l e R s m args below meth c H locs cells slots Q (F0 m pc ls (q_ts ad st)) := by
  unfold q_p1 at h
  split at h
  · cases h; exact lv_iconst hx hb hdg rfl (k ls hl)
  · cases h; exact lv_bipush hx hb hdg rfl (k ls hl)
  · cases h; exact lv_sipush hx hb hdg rfl (k ls hl)
  · cases h; exact lv_lconst hx hb hdg rfl (k ls hl)
  · split at h
    · rename_i h0; subst h0; cases h; exact lv_fconst0 hx hb hdg (k ls hl)
    · cases h
  · split at h
    · rename_i h0; subst h0; cases h; exact lv_dconst0 hx hb hdg (k ls hl)
    · cases h
  · cases h; exact lv_null hx hb hdg (k ls hl)
  · split at h
    · rename_i hq; cases h; exact lv_iload hx hb hdg (q_ld_at hl hq) (k ls hl)
    · cases h
  · split at h
    · rename_i hq; cases h; exact lv_iload_n hx hb hdg rfl (q_ld_at hl hq) (k ls hl)
    · cases h
  · split at h
    · rename_i hq; cases h; exact lv_lload hx hb hdg (q_ld_at hl hq) (k ls hl)
    · cases h
  · split at h
    · rename_i hq; cases h; exact lv_lload_n hx hb hdg rfl (q_ld_at hl hq) (k ls hl)
    · cases h
  · split at h
    · rename_i hq; cases h; exact lv_fload hx hb hdg (q_ld_at hl hq) (k ls hl)
    · cases h
  · split at h
    · rename_i hq; cases h; exact lv_dload hx hb hdg (q_ld_at hl hq) (k ls hl)
    · cases h
  · split at h
    · rename_i hq; cases h; exact lv_aload hx hb hdg (q_ld_at hl hq) (k ls hl)
    · cases h
  · split at h
    · rename_i hq; cases h; exact lv_aload_n hx hb hdg rfl (q_ld_at hl hq) (k ls hl)
    · cases h
  · split at h
    · split at h
      · rename_i hk; cases h; exact lv_istore hx hb hdg hl hk (q_tl_s1 ad lv _ (.int _)) k
      · cases h
    · cases h
  · split at h
    · split at h
      · rename_i hk; cases h; exact lv_istore_n hx hb hdg rfl hl hk (q_tl_s1 ad lv _ (.int _)) k
      · cases h
    · cases h
  · split at h
    · split at h
      · rename_i hk; cases h; exact lv_lstore hx hb hdg hl hk (q_tl_s2 ad lv _ (.long _)) k
      · cases h
    · cases h
  · split at h
    · split at h
      · rename_i hk; cases h; exact lv_lstore_n hx hb hdg rfl hl hk (q_tl_s2 ad lv _ (.long _)) k
      · cases h
    · cases h
  · split at h
    · split at h
      · rename_i hk; cases h; exact lv_fstore hx hb hdg hl hk (q_tl_s1 ad lv _ (.float _)) k
      · cases h
    · cases h
  · split at h
    · split at h
      · rename_i hk; cases h; exact lv_dstore hx hb hdg hl hk (q_tl_s2 ad lv _ (.double _)) k
      · cases h
    · cases h
  · split at h
    · split at h
      · rename_i hk; cases h; exact lv_astore hx hb hdg hl hk (q_tl_s1 ad lv _ (.ref _)) k
      · cases h
    · cases h
  · split at h
    · split at h
      · rename_i hk; cases h; exact lv_astore_n hx hb hdg rfl hl hk (q_tl_s1 ad lv _ (.ref _)) k
      · cases h
    · cases h
  · split at h
    · rename_i hq
      split at h
      · rename_i hk
        cases h
        obtain ⟨k0, hk0⟩ := q_ld_k (ad := ad) hq
        exact lv_iinc hx hb hdg hl hk0 rfl hk (q_tl_s1 ad lv _ (.int _)) k
      · cases h
    · cases h
  · split at h
    · cases h; exact lv_iadd hx hb hdg (k ls hl)
    · cases h
  · split at h
    · cases h; exact lv_isub hx hb hdg (k ls hl)
    · cases h
  · split at h
    · cases h; exact lv_imul hx hb hdg (k ls hl)
    · cases h
  · split at h
    · split at h
      · cases h
      · rename_i hne; cases h; exact lv_idiv hx hb hdg hne (k ls hl)
    · cases h
  · split at h
    · split at h
      · cases h
      · rename_i hne; cases h; exact lv_irem hx hb hdg hne (k ls hl)
    · cases h
  · split at h
    · cases h; exact lv_ineg hx hb hdg (k ls hl)
    · cases h
  · split at h
    · cases h; exact lv_iand hx hb hdg (k ls hl)
    · cases h
  · split at h
    · cases h; exact lv_ior hx hb hdg (k ls hl)
    · cases h
  · split at h
    · cases h; exact lv_ixor hx hb hdg (k ls hl)
    · cases h
  · split at h
    · cases h; exact lv_ishl hx hb hdg (k ls hl)
    · cases h
  · split at h
    · cases h; exact lv_ishr hx hb hdg (k ls hl)
    · cases h
  · split at h
    · cases h; exact lv_ladd hx hb hdg (k ls hl)
    · cases h
  · split at h
    · cases h; exact lv_lsub hx hb hdg (k ls hl)
    · cases h
  · split at h
    · cases h; exact lv_lmul hx hb hdg (k ls hl)
    · cases h
  · split at h
    · cases h; exact lv_land hx hb hdg (k ls hl)
    · cases h
  · split at h
    · cases h; exact lv_lor hx hb hdg (k ls hl)
    · cases h
  · split at h
    · cases h; exact lv_lxor hx hb hdg (k ls hl)
    · cases h
  · split at h
    · cases h; exact lv_lshl hx hb hdg rfl (k ls hl)
    · cases h
  · split at h
    · cases h; exact lv_lshr hx hb hdg rfl (k ls hl)
    · cases h
  · split at h
    · cases h; exact lv_lushr hx hb hdg rfl (k ls hl)
    · cases h
  · split at h
    · cases h; exact lv_i2l hx hb hdg rfl (k ls hl)
    · cases h
  · split at h
    · cases h; exact lv_l2i hx hb hdg rfl (k ls hl)
    · cases h
  · split at h
    · cases h; exact lv_i2b hx hb hdg rfl (k ls hl)
    · cases h
  · split at h
    · cases h; exact lv_i2f hx hb hdg (k ls hl)
    · cases h
  · split at h
    · cases h; exact lv_i2d hx hb hdg (k ls hl)
    · cases h
  · split at h
    · split at h
      · rename_i hne; cases h; exact lv_f2d hx hb hdg hne (k ls hl)
      · cases h
    · cases h
  · split at h
    · split at h
      · rename_i hne; cases h; exact lv_fdiv hx hb hdg hne (k ls hl)
      · cases h
    · cases h
  · split at h
    · split at h
      · rename_i hne; cases h; exact lv_ddiv hx hb hdg hne (k ls hl)
      · cases h
    · cases h
  · split at h
    · cases h; exact W.lcmp hx hb hdg (k ls hl)
    · cases h
  · split at h
    · cases h; exact lv_fcmp hx hb hdg (k ls hl)
    · cases h
  · split at h
    · cases h; exact lv_dcmp hx hb hdg (k ls hl)
    · cases h
  · split at h
    · split at h
      · rename_i hv; cases h; exact lv_dup hx hb hdg ((q_tv_cat ad _).trans hv) (k ls hl)
      · cases h
    · cases h
  · split at h
    · split at h
      · rename_i hv; cases h; exact lv_dup2_11 hx hb hdg ((q_tv_cat ad _).trans hv.1) ((q_tv_cat ad _).trans hv.2) (k ls hl)
      · cases h
    · cases h
  · split at h
    · split at h
      · rename_i hv; cases h; exact lv_pop hx hb hdg ((q_tv_cat ad _).trans hv) (k ls hl)
      · cases h
    · cases h
  · cases h
    have ht : _ = _ := of_decide_eq_true hbr
    exact lv_goto hx hb hdg ht (k ls hl)
  · rename_i cd off
    have ht : (pc : Int) + off = (a : Int) := of_decide_eq_true hbr
    split at h
    · rename_i x r
      cases h
      cases cd
      · exact lv_if_eq hx hb hdg ht (fun z => by have q : q_c .eq x 0 = true := decide_eq_true z; rw [if_pos q] at k; exact k ls hl) (fun z => by have q : ¬ q_c .eq x 0 = true := fun w => z (of_decide_eq_true w); rw [if_neg q] at k; exact k ls hl)
      · exact lv_if_ne hx hb hdg ht (fun z => by have q : q_c .ne x 0 = true := decide_eq_true z; rw [if_pos q] at k; exact k ls hl) (fun z => by have q : ¬ q_c .ne x 0 = true := fun w => (of_decide_eq_true w : ¬ x = 0) z; rw [if_neg q] at k; exact k ls hl)
      · exact lv_if_lt hx hb hdg ht (fun z => by have q : q_c .lt x 0 = true := decide_eq_true z; rw [if_pos q] at k; exact k ls hl) (fun z => by have q : ¬ q_c .lt x 0 = true := fun w => z (of_decide_eq_true w); rw [if_neg q] at k; exact k ls hl)
      · exact lv_if_ge hx hb hdg ht (fun z => by have q : q_c .ge x 0 = true := decide_eq_true z; rw [if_pos q] at k; exact k ls hl) (fun z => by have q : ¬ q_c .ge x 0 = true := fun w => z (of_decide_eq_true w); rw [if_neg q] at k; exact k ls hl)
      · exact lv_if_gt hx hb hdg ht (fun z => by have q : q_c .gt x 0 = true := decide_eq_true z; rw [if_pos q] at k; exact k ls hl) (fun z => by have q : ¬ q_c .gt x 0 = true := fun w => z (of_decide_eq_true w); rw [if_neg q] at k; exact k ls hl)
      · exact lv_if_le hx hb hdg ht (fun z => by have q : q_c .le x 0 = true := decide_eq_true z; rw [if_pos q] at k; exact k ls hl) (fun z => by have q : ¬ q_c .le x 0 = true := fun w => z (of_decide_eq_true w); rw [if_neg q] at k; exact k ls hl)
    · cases h
  · rename_i cd off
    have ht : (pc : Int) + off = (a : Int) := of_decide_eq_true hbr
    split at h
    · rename_i y x r
      cases h
      cases cd
      · exact lv_icmp_eq hx hb hdg ht (fun z => by have q : q_c .eq x y = true := decide_eq_true z; rw [if_pos q] at k; exact k ls hl) (fun z => by have q : ¬ q_c .eq x y = true := fun w => z (of_decide_eq_true w); rw [if_neg q] at k; exact k ls hl)
      · exact lv_icmp_ne hx hb hdg ht (fun z => by have q : q_c .ne x y = true := decide_eq_true z; rw [if_pos q] at k; exact k ls hl) (fun z => by have q : ¬ q_c .ne x y = true := fun w => (of_decide_eq_true w : ¬ x = y) z; rw [if_neg q] at k; exact k ls hl)
      · exact lv_icmp_lt hx hb hdg ht (fun z => by have q : q_c .lt x y = true := decide_eq_true z; rw [if_pos q] at k; exact k ls hl) (fun z => by have q : ¬ q_c .lt x y = true := fun w => z (of_decide_eq_true w); rw [if_neg q] at k; exact k ls hl)
      · exact lv_icmp_ge hx hb hdg ht (fun z => by have q : q_c .ge x y = true := decide_eq_true z; rw [if_pos q] at k; exact k ls hl) (fun z => by have q : ¬ q_c .ge x y = true := fun w => z (of_decide_eq_true w); rw [if_neg q] at k; exact k ls hl)
      · exact lv_icmp_gt hx hb hdg ht (fun z => by have q : q_c .gt x y = true := decide_eq_true z; rw [if_pos q] at k; exact k ls hl) (fun z => by have q : ¬ q_c .gt x y = true := fun w => z (of_decide_eq_true w); rw [if_neg q] at k; exact k ls hl)
      · exact lv_icmp_le hx hb hdg ht (fun z => by have q : q_c .le x y = true := decide_eq_true z; rw [if_pos q] at k; exact k ls hl) (fun z => by have q : ¬ q_c .le x y = true := fun w => z (of_decide_eq_true w); rw [if_neg q] at k; exact k ls hl)
    · cases h
  · have ht : _ = _ := of_decide_eq_true hbr
    split at h
    · cases h; exact lv_ifnull hx hb hdg (k ls hl)
    · cases h; exact lv_ifnullN hx hb hdg ht (k ls hl)
    · cases h
  · have ht : _ = _ := of_decide_eq_true hbr
    split at h
    · cases h; exact lv_ifnonnull hx hb hdg ht (k ls hl)
    · cases h; exact lv_ifnonnullN hx hb hdg (k ls hl)
    · cases h
  · split at h
    · rename_i x r
      obtain ⟨t, ht, hz⟩ := Option.map_eq_some_iff.mp h
      cases hz
      unfold q_sw at ht
      split at ht
      · rename_i ho
        split at ht
        · rename_i hp; cases ht; exact lv_tableOut hx hb hdg ho (Int.toNat_of_nonneg hp).symm (k ls hl)
        · cases ht
      · rename_i ho
        split at ht
        · rename_i off hoff
          split at ht
          · rename_i hp; cases ht; exact lv_tableIn hx hb hdg (fun z => ho (Or.inl z)) (fun z => ho (Or.inr z)) hoff (Int.toNat_of_nonneg hp).symm (k ls hl)
          · cases ht
        · cases ht
    · cases h
  · cases h
end QP
end
section
/-! the mini-machine's reads, writes and makings, and the machine's -/
def q_aty (t : Nat) : FieldType := match t with
  | 0 => .int
  | 1 => .long
  | 2 => .byte
  | 3 => .byte
  | 4 => .byte
  | 5 => .object "FadingTrumps$Table"
  | _ => .object "FadingTrumps$Trick"
def q_tys (tc : Nat → ClassId) : List (ClassId × FieldType) := (List.range 7).map (fun t => (tc t, q_aty t))
theorem q_tys_get {tc : Nat → ClassId} {t : Nat} (h : t < 7) : (q_tys tc)[t]? = some (tc t, q_aty t) := by
  unfold q_tys
  rw [List.getElem?_map, List.getElem?_range h]
  rfl
theorem q_N_lt {a b : Nat} (h : b < q_N a) : a < 12 := by
  rcases Nat.lt_or_ge a 12 with z | z
  · exact z
  · obtain ⟨n, rfl⟩ : ∃ n, a = n + 12 := ⟨a - 12, by omega⟩
    exact absurd h (Nat.not_lt_zero b)
theorem q_cl_get {a : Nat} (h : a < 12) : q_cl[a]? = some (q_cn a, q_T a, q_N a) := by
  have : ∀ a, a < 12 → q_cl[a]? = some (q_cn a, q_T a, q_N a) := by
    intro a ha
    match a, ha with
    | 0, _ => rfl
    | 1, _ => rfl
    | 2, _ => rfl
    | 3, _ => rfl
    | 4, _ => rfl
    | 5, _ => rfl
    | 6, _ => rfl
    | 7, _ => rfl
    | 8, _ => rfl
    | 9, _ => rfl
    | 10, _ => rfl
    | 11, _ => rfl
    | n + 12, h => omega
  exact this a h
theorem q_ty_ok : ∀ a, a < 12 → ∀ k, k < q_N a → parseFieldDescriptor (q_T a k).2.2.1 = some (q_y a k) := by decide +kernel
theorem q_nm_ok : ∀ a, a < 12 → ∀ k, k < q_N a → ∀ j, j < q_N a → k ≠ j → (q_T a k).2.1 ≠ (q_T a j).2.1 := by decide +kernel
set_option maxRecDepth 100000 in
theorem q_in_ok : ∀ a, a < 12 → ∀ w ∈ u_ws (q_cn a) (q_T a) (q_N a), w ∈ q_Tw := by decide +kernel
set_option maxRecDepth 100000 in
theorem q_ins_ok : ∀ a, a < 12 → Cond.instantiable (q_cn a) (q_N a) ∈ q_Tw ∧ Cond.initialized (q_cn a) ∈ q_Tw := by decide +kernel
set_option maxRecDepth 100000 in
theorem q_arr_ok : ∀ t, t < 5 → Cond.arrayClass (q_aty t) ∈ q_Tw := by decide +kernel
theorem q_fl_mem {o i a b : Nat} (h : q_flp.any (fun x => decide (x.2 = (o, i, a, b))) = true) : q_fw o i a b ∈ q_Tw := by
  obtain ⟨x, hx, hd⟩ := List.any_eq_true.mp h
  have hd := of_decide_eq_true hd
  have := q_walk_Tw q_flp_ok (List.mem_map.mpr ⟨x, hx, rfl⟩)
  dsimp only at this
  rw [hd] at this
  exact this
theorem q_ml_mem {o i a : Nat} (h : q_mlp.any (fun x => decide (x.2 = (o, i, a))) = true) : Cond.methodLink (q_cn o) i (q_mn a) ∈ q_Tw := by
  obtain ⟨x, hx, hd⟩ := List.any_eq_true.mp h
  have hd := of_decide_eq_true hd
  have := q_walk_Tw q_mlp_ok (List.mem_map.mpr ⟨x, hx, rfl⟩)
  dsimp only at this
  rw [hd] at this
  exact this
theorem q_kl_mem {o i a : Nat} (h : q_klp.any (fun x => decide (x.2 = (o, i, a))) = true) : Cond.classLink (q_cn o) i (q_kn a) ∈ q_Tw := by
  obtain ⟨x, hx, hd⟩ := List.any_eq_true.mp h
  have hd := of_decide_eq_true hd
  have := q_walk_Tw q_klp_ok (List.mem_map.mpr ⟨x, hx, rfl⟩)
  dsimp only at this
  rw [hd] at this
  exact this
theorem q_ci_mem {o i b : Nat} (h : q_cip.any (fun x => decide (x.2 = (o, i, b))) = true) : Cond.constant (q_cn o) i (Int32.ofNat b) ∈ q_Tw := by
  obtain ⟨x, hx, hd⟩ := List.any_eq_true.mp h
  have hd := of_decide_eq_true hd
  have := q_walk_Tw q_cip_ok (List.mem_map.mpr ⟨x, hx, rfl⟩)
  dsimp only at this
  rw [hd] at this
  exact this
theorem q_cl_mem {o i b : Nat} (h : q_clp.any (fun x => decide (x.2 = (o, i, b))) = true) : Cond.constantLong (q_cn o) i (Int64.ofNat b) ∈ q_Tw := by
  obtain ⟨x, hx, hd⟩ := List.any_eq_true.mp h
  have hd := of_decide_eq_true hd
  have := q_walk_Tw q_clp_ok (List.mem_map.mpr ⟨x, hx, rfl⟩)
  dsimp only at this
  rw [hd] at this
  exact this
theorem q_tv_rf (ad : Nat → Nat) (r : Option Nat) : q_tv ad (va_rf r) = va_rf (r.map ad) := by cases r <;> rfl
theorem q_te_i (ad : Nat → Nat) (tc : Nat → ClassId) (t n : Nat) (x : (Nat → Int32) ⊕ (Nat → Int64) ⊕ (Nat → UInt32) ⊕ (Nat → UInt64) ⊕ (Nat → Option Nat)) : ∃ x', q_te ad tc (.inl (t, n, x)) = .inl (tc t, n, x') := by
  rcases x with f | f | f | f | g
  · exact ⟨_, rfl⟩
  · exact ⟨_, rfl⟩
  · exact ⟨_, rfl⟩
  · exact ⟨_, rfl⟩
  · exact ⟨_, rfl⟩
section QH
variable {p : Program} {l : Launch} {e : Env} {R : Room} {s : State} {m : MethodId} {args : Array Value} {below : List Frame} {meth : Method} {c : Code} {H : Heap} {locs : List Loc} {cells slots : Nat} {Q : State → Prop}
variable {cc : ByteArray} {D : va_G} {tc : Nat → ClassId} {A : Nat → Prop} {ad : Nat → Nat} {M : List va_E} {o a b pc pc' : Nat} {i : Instr} {st st' : List Value} {ls : Array Slot}
set_option maxHeartbeats 4000000 in
theorem q_p2_ok (hx : p.tables.exec = Jvm.exec) (hb : c.code = cc) {X : q_X} (h : q_p2 X M i a b pc st = some (pc', st')) (hdg : decode cc pc = .ok (i, q_len i b)) (hts : ∀ w ∈ q_Tw, w.before args s = true) (hlk : q_eok o (pc, i, a, b) = true) (hown : s.vm.findClass (q_cn o) = some m.cls)
    (hK : va_K D q_cl (q_tys tc) s) (hP : va_P D q_cl (q_rz ad tc M) H) (hS : va_S A s.heap H locs) (hX : va_X (ad q_big) X.1 X.2 s s.heap) (hbl : ad q_big < s.heap.size) (hbA : ¬ A (ad q_big))
    (k : W p l e R s m args below meth c H locs cells slots Q (F0 m pc' ls (q_ts ad st'))) : W p l e R s m args below meth c H locs cells slots Q (F0 m pc ls (q_ts ad st)) := by
  unfold q_p2 at h
  split at h
  · split at h
    · rename_i id r
      split at h
      · rename_i ci fs hat
        split at h
        · rename_i hc
          obtain ⟨rfl, hbN⟩ := hc
          split at h
          · rename_i v hv
            cases h
            have ha := q_N_lt hbN
            exact va_get hx hb hts (q_in_ok _ ha) hown hK hP id (q_rz_at hat) (q_cl_get ha) b hbN (hts _ (q_fl_mem hlk)) (fun _ z => z) (v := q_tv ad v) (by rw [List.getElem?_map, hv]; rfl) hdg k
          · cases h
        · cases h
      · cases h
    · cases h
  · split at h
    · rename_i j id r
      split at h
      · rename_i hid
        subst hid
        split at h
        · cases h
        · rename_i hin
          cases h
          exact va_sld hx hb hX hbl hbA hS hin hdg k
      · split at h
        · rename_i t n f hat
          split at h
          · rename_i hc
            obtain ⟨rfl, hin⟩ := hc
            cases h
            exact va_iald hx hb hK hP id 0 (q_rz_at hat) (q_tys_get (by decide)) hin hdg k
          · cases h
        · cases h
    · cases h
  · split at h
    · rename_i j id r
      split at h
      · rename_i t n f hat
        split at h
        · rename_i hc
          obtain ⟨ht, hin⟩ := hc
          cases h
          subst ht
          exact va_bald hx hb hK hP id 2 (q_rz_at hat) (q_tys_get (by decide)) hin hdg k
        · cases h
      · cases h
    · cases h
  · split at h
    · rename_i j id r
      split at h
      · rename_i t n f hat
        split at h
        · rename_i hc
          obtain ⟨rfl, hin⟩ := hc
          cases h
          exact va_lald hx hb hK hP id 1 (q_rz_at hat) (q_tys_get (by decide)) hin hdg k
        · cases h
      · cases h
    · cases h
  · split at h
    · rename_i j id r
      split at h
      · rename_i t n f hat
        split at h
        · rename_i hc
          obtain ⟨ht, hin⟩ := hc
          cases h
          have k : W p l e R s m args below meth c H locs cells slots Q (F0 m (pc + 1) ls (va_rf ((f j.toNatClampNeg).map ad) :: q_ts ad r)) := by
            rw [← q_tv_rf]; exact k
          rcases ht with rfl | rfl
          · exact va_aldq (C := "FadingTrumps$Table") hx hb hK hP id 5 (q_rz_at hat) (q_tys_get (by decide)) hin hdg k
          · exact va_aldq (C := "FadingTrumps$Trick") hx hb hK hP id 6 (q_rz_at hat) (q_tys_get (by decide)) hin hdg k
        · cases h
      · cases h
    · cases h
  · split at h
    · rename_i id r
      split at h
      · rename_i hid
        subst hid
        cases h
        exact va_slen hx hb hX hbl hbA hS hdg k
      · split at h
        · rename_i t n x hat
          split at h
          · rename_i ht
            cases h
            obtain ⟨x', hx'⟩ := q_te_i ad tc t n x
            have hw := q_rz_at (ad := ad) (tc := tc) hat
            rw [hx'] at hw
            exact va_alen hx hb hK hP id t hw (q_tys_get ht) rfl hdg k
          · cases h
        · cases h
    · cases h
  · cases h
set_option maxHeartbeats 4000000 in
theorem q_p3_ok (hx : p.tables.exec = Jvm.exec) (hb : c.code = cc) {init : Bool} {M' : List va_E} (h : q_p3 o init M i a b pc st = some (pc', st', M')) (hdg : decode cc pc = .ok (i, q_len i b)) (hts : ∀ w ∈ q_Tw, w.before args s = true) (hlk : q_eok o (pc, i, a, b) = true) (hown : s.vm.findClass (q_cn o) = some m.cls) (hinit : init = true → meth.name = "<init>")
    (hK : va_K D q_cl (q_tys tc) s) (hP : va_P D q_cl (q_rz ad tc M) H) (hD : va_D A (q_rz ad tc M)) (hS : va_S A s.heap H locs)
    (k : ∀ (H1 : Heap) (locs1 : List Loc), va_P D q_cl (q_rz ad tc M') H1 → va_D A (q_rz ad tc M') → va_S A s.heap H1 locs1 → W p l e R s m args below meth c H1 locs1 cells slots Q (F0 m pc' ls (q_ts ad st'))) : W p l e R s m args below meth c H locs cells slots Q (F0 m pc ls (q_ts ad st)) := by
  unfold q_p3 at h
  split at h
  · split at h
    · rename_i v id r
      split at h
      · rename_i ci fs hat
        split at h
        · rename_i hc
          obtain ⟨rfl, hbN, hbl, hn, hf, hfin⟩ := hc
          cases h
          have ha := q_N_lt hbN
          have hrs : (q_rz ad tc M).set id (ad id, .inr (ci, (fs.map (q_tv ad)).set b (q_tv ad v))) = q_rz ad tc (M.set id (.inr (ci, fs.set b v))) := by
            rw [← q_rz_set]
            show _ = (q_rz ad tc M).set id (ad id, .inr (ci, (fs.set b v).map (q_tv ad)))
            rw [List.map_set]
          unfold q_fin at hfin
          rw [Bool.or_eq_true] at hfin
          have hfin' : (q_T ci b).2.2.2 = false ∨ ((q_T ci b).2.2.2 = true ∧ init = true ∧ (q_T ci b).1 = q_cn o) := by
            cases hz : (q_T ci b).2.2.2 with
            | false => exact Or.inl rfl
            | true =>
              rw [hz] at hfin
              simp only [Bool.not_true, Bool.false_eq_true, false_or, Bool.and_eq_true, decide_eq_true_eq] at hfin
              exact Or.inr ⟨rfl, hfin⟩
          rcases hfin' with hz | ⟨hz, hi, hd⟩
          · exact va_put hx hb hts (q_in_ok _ ha) (q_y ci) (q_ty_ok _ ha) (q_nm_ok _ ha) hown hK hP hD hS id (q_rz_at hat) (q_cl_get ha) b hbN (hts _ (q_fl_mem hlk)) (fun _ z => z) hz (q_ty_ok _ ha _ hbN) (q_tv_narrow hn) (q_tv_fits hf) (by simpa using hbl) hdg (fun H1 locs1 h1 h2 h3 => k H1 locs1 (by rw [← hrs]; exact h1) (by rw [← hrs]; exact h2) h3)
          · exact va_putF hx hb hts (q_in_ok _ ha) (q_y ci) (q_ty_ok _ ha) (q_nm_ok _ ha) hown hK hP hD hS id (q_rz_at hat) (q_cl_get ha) b hbN (hts _ (q_fl_mem hlk)) (fun _ z => z) hz (hinit hi) hd (q_ty_ok _ ha _ hbN) (q_tv_narrow hn) (q_tv_fits hf) (by simpa using hbl) hdg (fun H1 locs1 h1 h2 h3 => k H1 locs1 (by rw [← hrs]; exact h1) (by rw [← hrs]; exact h2) h3)
        · cases h
      · cases h
    · cases h
  · split at h
    · rename_i x j id r
      split at h
      · rename_i t n f hat
        split at h
        · rename_i hc
          obtain ⟨rfl, hin⟩ := hc
          cases h
          exact va_iast hx hb hK hP hD hS id 0 (q_rz_at hat) (q_tys_get (by decide)) hin hdg (fun H1 locs1 h1 h2 h3 => k H1 locs1 (by rw [← q_rz_set]; exact h1) (by rw [← q_rz_set]; exact h2) h3)
        · cases h
      · cases h
    · cases h
  · split at h
    · rename_i x j id r
      split at h
      · rename_i t n f hat
        split at h
        · rename_i hin
          split at h
          · rename_i ht
            subst ht
            cases h
            exact va_bast hx hb hK hP hD hS id 2 (q_rz_at hat) (q_tys_get (by decide)) hin hdg (fun H1 locs1 h1 h2 h3 => k H1 locs1 (by rw [← q_rz_set]; exact h1) (by rw [← q_rz_set]; exact h2) h3)
          · cases h
        · cases h
      · cases h
    · cases h
  · split at h
    · rename_i x j id r
      split at h
      · rename_i t n f hat
        split at h
        · rename_i hc
          obtain ⟨rfl, hin⟩ := hc
          cases h
          exact va_last hx hb hK hP hD hS id 1 (q_rz_at hat) (q_tys_get (by decide)) hin hdg (fun H1 locs1 h1 h2 h3 => k H1 locs1 (by rw [← q_rz_set]; exact h1) (by rw [← q_rz_set]; exact h2) h3)
        · cases h
      · cases h
    · cases h
  · split at h
    · rename_i v j id r
      split at h
      · rename_i t n f ci fs hat hatv
        split at h
        · rename_i hc
          obtain ⟨ht, hin⟩ := hc
          cases h
          have hrs : ∀ (t : Nat), (q_rz ad tc M).set id (ad id, .inl (tc t, n, .inr (.inr (.inr (.inr (va_up (fun j => (f j).map ad) j.toNatClampNeg (some (ad v)))))))) = q_rz ad tc (M.set id (.inl (t, n, .inr (.inr (.inr (.inr (va_up f j.toNatClampNeg (some v)))))))) := by
            intro t
            rw [← q_rz_set]
            show _ = (q_rz ad tc M).set id (ad id, .inl (tc t, n, .inr (.inr (.inr (.inr (fun z => (va_up f j.toNatClampNeg (some v) z).map ad))))))
            have e9 : va_up (fun j => (f j).map ad) j.toNatClampNeg (some (ad v)) = (fun z => (va_up f j.toNatClampNeg (some v) z).map ad) := by
              funext z
              unfold va_up
              split <;> rfl
            rw [e9]
          rcases ht with ⟨rfl, rfl⟩ | ⟨rfl, rfl⟩
          · exact va_astq (r := (q_cn 6, q_T 6, q_N 6)) hx hb hK hP hD hS id 5 v 6 (q_rz_at hat) (q_tys_get (by decide)) (q_rz_at hatv) (q_cl_get (by decide)) hin hdg (fun H1 locs1 h1 h2 h3 => k H1 locs1 (by rw [← hrs]; exact h1) (by rw [← hrs]; exact h2) h3)
          · exact va_astq (r := (q_cn 9, q_T 9, q_N 9)) hx hb hK hP hD hS id 6 v 9 (q_rz_at hat) (q_tys_get (by decide)) (q_rz_at hatv) (q_cl_get (by decide)) hin hdg (fun H1 locs1 h1 h2 h3 => k H1 locs1 (by rw [← hrs]; exact h1) (by rw [← hrs]; exact h2) h3)
        · cases h
      · cases h
    · cases h
  · cases h
end QH
end
section
/-! places stay places -/
theorem q_vs_nil {n : Nat} : q_vs n [] := fun _ h => absurd h List.not_mem_nil
theorem q_vs_c {n : Nat} {v : Value} {r : List Value} : q_vs n (v :: r) ↔ q_vv n v ∧ q_vs n r := by
  unfold q_vs
  exact List.forall_mem_cons
theorem q_vv_i {n : Nat} {x : Int32} : q_vv n (.int x) := fun i h => by cases h
theorem q_vv_l {n : Nat} {x : Int64} : q_vv n (.long x) := fun i h => by cases h
theorem q_vv_f {n : Nat} {x : UInt32} : q_vv n (.float x) := fun i h => by cases h
theorem q_vv_d {n : Nat} {x : UInt64} : q_vv n (.double x) := fun i h => by cases h
theorem q_vv_n {n : Nat} : q_vv n .null := fun i h => by cases h
theorem q_vl_ld {n : Nat} {lv : q_L} {i : Nat} {v : Value} (hl : q_vl n lv) (h : q_ld lv i = some v) : q_vv n v := hl (i, v) (q_ld_mem h)
theorem q_vl_s1 {n : Nat} {lv : q_L} {i : Nat} {v : Value} (hl : q_vl n lv) (hv : q_vv n v) : q_vl n (q_s1 lv i v) := by
  intro q hq
  rcases List.mem_cons.mp hq with rfl | hq
  · exact hv
  · exact hl q (List.mem_filter.mp hq).1
theorem q_vl_s2 {n : Nat} {lv : q_L} {i : Nat} {v : Value} (hl : q_vl n lv) (hv : q_vv n v) : q_vl n (q_s2 lv i v) := by
  intro q hq
  rcases List.mem_cons.mp hq with rfl | hq
  · exact hv
  · exact hl q (List.mem_filter.mp hq).1
set_option maxHeartbeats 4000000 in
theorem q_p1_v {n : Nat} {i : Instr} {a pc nL pc' : Nat} {lv lv' : q_L} {st st' : List Value} (h : q_p1 i a pc nL lv st = some (pc', lv', st')) (hl : q_vl n lv) (hs : q_vs n st) : q_vl n lv' ∧ q_vs n st' := by
  unfold q_p1 at h
  (repeat' split at h) <;> first
    | (cases h; done)
    | (rename_i hq; cases h; exact ⟨hl, q_vs_c.mpr ⟨q_vl_ld hl hq, hs⟩⟩)
    | (cases h; exact ⟨hl, hs⟩)
    | (cases h; exact ⟨q_vl_s1 hl q_vv_i, hs⟩)
    | (cases h; simp only [q_vs_c] at hs ⊢; first
        | exact ⟨hl, q_vv_i, hs⟩
        | exact ⟨hl, q_vv_l, hs⟩
        | exact ⟨hl, q_vv_f, hs⟩
        | exact ⟨hl, q_vv_d, hs⟩
        | exact ⟨hl, q_vv_n, hs⟩
        | exact ⟨hl, q_vv_i, hs.2⟩
        | exact ⟨hl, q_vv_l, hs.2⟩
        | exact ⟨hl, q_vv_f, hs.2⟩
        | exact ⟨hl, q_vv_d, hs.2⟩
        | exact ⟨hl, q_vv_i, hs.2.2⟩
        | exact ⟨hl, q_vv_l, hs.2.2⟩
        | exact ⟨hl, q_vv_f, hs.2.2⟩
        | exact ⟨hl, q_vv_d, hs.2.2⟩
        | exact ⟨q_vl_s1 hl hs.1, hs.2⟩
        | exact ⟨q_vl_s2 hl hs.1, hs.2⟩
        | exact ⟨hl, hs.1, hs.1, hs.2⟩
        | exact ⟨hl, hs.1, hs.2.1, hs.1, hs.2.1, hs.2.2⟩
        | exact ⟨hl, hs⟩
        | exact ⟨hl, hs.2⟩
        | exact ⟨hl, hs.2.2⟩
        | exact ⟨q_vl_s1 hl q_vv_i, hs⟩)
    | (obtain ⟨t, -, hz⟩ := Option.map_eq_some_iff.mp h; cases hz; exact ⟨hl, (q_vs_c.mp hs).2⟩)
theorem q_pk_v {n : Nat} {i : Instr} {a b pc pc' : Nat} {st st' : List Value} (h : q_pk i a b pc st = some (pc', st')) (hs : q_vs n st) : q_vs n st' := by
  unfold q_pk at h
  (repeat' split at h) <;> first
    | (cases h; done)
    | (cases h; exact q_vs_c.mpr ⟨q_vv_i, hs⟩)
    | (cases h; exact q_vs_c.mpr ⟨q_vv_l, hs⟩)
    | (cases h; exact q_vs_c.mpr ⟨fun j hj => by cases hj; exact Or.inr (by omega), hs⟩)
theorem q_at_mem {M : List va_E} {id : Nat} {e : va_E} (h : q_at M id = some e) : e ∈ M := by
  unfold q_at at h
  split at h
  · exact List.mem_of_getElem? h
  · cases h
theorem q_p2_v {X : q_X} {M : List va_E} {i : Instr} {a b pc pc' : Nat} {st st' : List Value} (h : q_p2 X M i a b pc st = some (pc', st')) (hM : q_vM M) (hs : q_vs M.length st) : q_vs M.length st' := by
  unfold q_p2 at h
  split at h
  · split at h
    · split at h
      · rename_i hat
        split at h
        · split at h
          · rename_i v hv
            cases h
            have h1 : ∀ v ∈ _, q_vv M.length v := hM _ (q_at_mem hat)
            exact q_vs_c.mpr ⟨h1 v (List.mem_of_getElem? hv), (q_vs_c.mp hs).2⟩
          · cases h
        · cases h
      · cases h
    · cases h
  · (repeat' split at h) <;> first | (cases h; done) | (cases h; exact q_vs_c.mpr ⟨q_vv_i, (q_vs_c.mp (q_vs_c.mp hs).2).2⟩)
  · (repeat' split at h) <;> first | (cases h; done) | (cases h; exact q_vs_c.mpr ⟨q_vv_i, (q_vs_c.mp (q_vs_c.mp hs).2).2⟩)
  · (repeat' split at h) <;> first | (cases h; done) | (cases h; exact q_vs_c.mpr ⟨q_vv_l, (q_vs_c.mp (q_vs_c.mp hs).2).2⟩)
  · (repeat' split at h) <;> first | (cases h; done) | (cases h; exact q_vs_c.mpr ⟨q_vv_d, (q_vs_c.mp (q_vs_c.mp hs).2).2⟩)
  · split at h
    · rename_i j id r
      split at h
      · rename_i t n f hat
        split at h
        · cases h
          refine q_vs_c.mpr ⟨fun i hi => ?_, (q_vs_c.mp (q_vs_c.mp hs).2).2⟩
          have h1 : ∀ (j i : Nat), f j = some i → i < M.length ∨ q_big ≤ i := hM _ (q_at_mem hat)
          cases hf : f j.toNatClampNeg with
          | none => rw [hf] at hi; cases hi
          | some z => rw [hf] at hi; cases hi; exact h1 _ _ hf
        · cases h
      · cases h
    · cases h
  · (repeat' split at h) <;> first | (cases h; done) | (cases h; exact q_vs_c.mpr ⟨q_vv_i, (q_vs_c.mp hs).2⟩)
  · cases h
theorem q_vM_set {M : List va_E} {id : Nat} {e : va_E} (hM : q_vM M) (he : q_ve M.length e) : q_vM (M.set id e) := by
  intro x hx
  rw [List.length_set]
  rcases List.mem_or_eq_of_mem_set hx with h | h
  · exact hM x h
  · rw [h]; exact he
theorem q_p3_v {o : Nat} {init : Bool} {M M' : List va_E} {i : Instr} {a b pc pc' : Nat} {st st' : List Value} (h : q_p3 o init M i a b pc st = some (pc', st', M')) (hM : q_vM M) (hs : q_vs M.length st) : q_vM M' ∧ M'.length = M.length ∧ q_vs M.length st' := by
  unfold q_p3 at h
  split at h
  · split at h
    · rename_i v id r
      split at h
      · rename_i ci fs hat
        split at h
        · cases h
          have h1 : ∀ v ∈ fs, q_vv M.length v := hM _ (q_at_mem hat)
          refine ⟨q_vM_set hM (fun z hz => ?_), List.length_set, (q_vs_c.mp (q_vs_c.mp hs).2).2⟩
          rcases List.mem_or_eq_of_mem_set hz with h | h
          · exact h1 z h
          · rw [h]; exact (q_vs_c.mp hs).1
        · cases h
      · cases h
    · cases h
  · (repeat' split at h) <;> first | (cases h; done) | (cases h; exact ⟨q_vM_set hM trivial, List.length_set, (q_vs_c.mp (q_vs_c.mp (q_vs_c.mp hs).2).2).2⟩)
  · (repeat' split at h) <;> first | (cases h; done) | (cases h; exact ⟨q_vM_set hM trivial, List.length_set, (q_vs_c.mp (q_vs_c.mp (q_vs_c.mp hs).2).2).2⟩)
  · (repeat' split at h) <;> first | (cases h; done) | (cases h; exact ⟨q_vM_set hM trivial, List.length_set, (q_vs_c.mp (q_vs_c.mp (q_vs_c.mp hs).2).2).2⟩)
  · (repeat' split at h) <;> first | (cases h; done) | (cases h; exact ⟨q_vM_set hM trivial, List.length_set, (q_vs_c.mp (q_vs_c.mp (q_vs_c.mp hs).2).2).2⟩)
  · split at h
    · rename_i v j id r
      split at h
      · rename_i t n f ci fs hat hatv
        split at h
        · cases h
          have h1 : ∀ (j i : Nat), f j = some i → i < M.length ∨ q_big ≤ i := hM _ (q_at_mem hat)
          refine ⟨q_vM_set hM (fun z w hw => ?_), List.length_set, (q_vs_c.mp (q_vs_c.mp (q_vs_c.mp hs).2).2).2⟩
          unfold va_up at hw
          split at hw
          · cases hw; exact (q_vs_c.mp hs).1 _ rfl
          · exact h1 z w hw
        · cases h
      · cases h
    · cases h
  · cases h
theorem q_p4_v {n : Nat} {i : Instr} {a pc pc' : Nat} {st st' : List Value} {e : va_E} {k : Nat} (h : q_p4 i a pc st = some (pc', st', e, k)) (hs : q_vs n st) : q_vs n st' := by
  unfold q_p4 at h
  split at h
  · split at h
    · cases h; exact hs
    · cases h
  · split at h
    · split at h
      · cases h
      · obtain ⟨e0, -, hz⟩ := Option.map_eq_some_iff.mp h
        cases hz
        exact (q_vs_c.mp hs).2
    · cases h
  · split at h
    · split at h
      · cases h
      · split at h
        · cases h; exact (q_vs_c.mp hs).2
        · cases h
    · cases h
  · cases h
theorem q_p4_e {n : Nat} {i : Instr} {a pc pc' : Nat} {st st' : List Value} {e : va_E} {k : Nat} (h : q_p4 i a pc st = some (pc', st', e, k)) : q_ve n e := by
  unfold q_p4 at h
  split at h
  · split at h
    · cases h
      intro v hv0 i hi
      obtain ⟨j, -, hj⟩ := List.mem_map.mp hv0
      rw [← hj] at hi
      cases hq : q_y a j <;> rw [hq] at hi <;> cases hi
    · cases h
  · rename_i t
    split at h
    · split at h
      · cases h
      · obtain ⟨e0, h0, hz⟩ := Option.map_eq_some_iff.mp h
        cases hz
        cases t <;> cases h0 <;> trivial
    · cases h
  · split at h
    · split at h
      · cases h
      · split at h
        · cases h; exact fun j i hi => by cases hi
        · cases h
    · cases h
  · cases h
theorem q_vM_push {M : List va_E} {e : va_E} (hM : q_vM M) (he : q_ve M.length e) : q_vM (M ++ [e]) := by
  intro x hx
  have hl : M.length ≤ (M ++ [e]).length := by rw [List.length_append]; omega
  rcases List.mem_append.mp hx with h | h
  · exact (hM x h).mono hl
  · rw [List.mem_singleton.mp h]; exact he.mono hl
/-- the state is a state of places -/
def q_V (lv : q_L) (st : List Value) (M : q_M) : Prop := q_vl M.1.length lv ∧ q_vs M.1.length st ∧ q_vM M.1
/-- the later state has at least as much -/
def q_le (M M' : q_M) : Prop := M.1.length ≤ M'.1.length ∧ M.2.1 ≤ M'.2.1 ∧ M.2.2 ≤ M'.2.2
theorem q_le.rf {M : q_M} : q_le M M := ⟨Nat.le_refl _, Nat.le_refl _, Nat.le_refl _⟩
theorem q_le.tr {a b c : q_M} (h1 : q_le a b) (h2 : q_le b c) : q_le a c := ⟨Nat.le_trans h1.1 h2.1, Nat.le_trans h1.2.1 h2.2.1, Nat.le_trans h1.2.2 h2.2.2⟩
theorem q_stp_v {X : q_X} {o nL : Nat} {init : Bool} {i : Instr} {a b pc pc' : Nat} {lv lv' : q_L} {st st' : List Value} {M M' : q_M} (h : q_stp X o init nL i a b pc lv st M = some (pc', lv', st', M')) (hV : q_V lv st M) : q_V lv' st' M' ∧ q_le M M' := by
  obtain ⟨hl, hs, hM⟩ := hV
  unfold q_stp at h
  split at h
  · rename_i hq
    cases h
    obtain ⟨h1, h2⟩ := q_p1_v hq hl hs
    exact ⟨⟨h1, h2, hM⟩, q_le.rf⟩
  · split at h
    · rename_i hq
      cases h
      exact ⟨⟨hl, q_pk_v hq hs, hM⟩, q_le.rf⟩
    · split at h
      · rename_i hq
        cases h
        exact ⟨⟨hl, q_p2_v hq hM hs, hM⟩, q_le.rf⟩
      · split at h
        · rename_i hq
          cases h
          obtain ⟨h1, h2, h3⟩ := q_p3_v hq hM hs
          exact ⟨⟨fun q hq => by dsimp only; rw [h2]; exact hl q hq, fun v hv => by dsimp only; rw [h2]; exact h3 v hv, h1⟩, ⟨by dsimp only; rw [h2]; exact Nat.le_refl _, Nat.le_refl _, Nat.le_refl _⟩⟩
        · split at h
          · rename_i e n hq
            split at h
            · rename_i hM2
              cases h
              have hl9 : M.1.length ≤ (M.1 ++ [e]).length := by rw [List.length_append]; omega
              refine ⟨⟨hl.mono hl9, q_vs_c.mpr ⟨fun i hi => ?_, (q_p4_v hq hs).mono hl9⟩, q_vM_push hM (q_p4_e hq)⟩, ⟨hl9, Nat.le_succ _, Nat.le_add_right _ _⟩⟩
              cases hi
              exact Or.inl (by dsimp only; rw [List.length_append]; simp)
            · cases h
          · cases h
end
section
/-! makings, constants of the pool, one instruction whole -/
theorem q_kn_lt {a : Nat} (h : a < 12) : q_kn a = q_cn a := by
  match a, h with
  | 0, _ => rfl
  | 1, _ => rfl
  | 2, _ => rfl
  | 3, _ => rfl
  | 4, _ => rfl
  | 5, _ => rfl
  | 6, _ => rfl
  | 7, _ => rfl
  | 8, _ => rfl
  | 9, _ => rfl
  | 10, _ => rfl
  | 11, _ => rfl
  | n + 12, h => omega
theorem q_tv_df (ad : Nat → Nat) (ty : FieldType) : q_tv ad (defaultValue ty) = defaultValue ty := by cases ty <;> rfl
theorem q_df_V (a j : Nat) (h : j < q_N a) : defaultValue (q_y a j) = vp_V ((List.range (q_N a)).map (fun j => defaultValue (q_y a j))) j := by
  unfold vp_V
  rw [List.getD_eq_getElem?_getD, List.getElem?_map, List.getElem?_range h]
  rfl
theorem q_df_map (ad : Nat → Nat) (a : Nat) : ((List.range (q_N a)).map (fun j => defaultValue (q_y a j))).map (q_tv ad) = (List.range (q_N a)).map (fun j => defaultValue (q_y a j)) := by
  rw [List.map_map]
  exact List.map_congr_left (fun j _ => q_tv_df ad _)
theorem q_cA {D : va_G} {cl : List vw_C} {tc : Nat → ClassId} {s : State} {cA : ClassId} {t : Nat} (ht : t < 7) (hK : va_K D cl (q_tys tc) s) (hK' : va_K D cl (q_tys tc ++ [(cA, q_aty t)]) s) : cA = tc t := by
  have h1 := (hK.2 t _ (q_tys_get ht)).2
  have hlen : (q_tys tc).length = 7 := by simp [q_tys]
  have h2 := (hK'.2 7 (cA, q_aty t) (by rw [List.getElem?_append_right (by rw [hlen]; exact Nat.le_refl _), hlen]; rfl)).2
  dsimp only at h1 h2
  match t, ht, h1, h2 with
  | 0, _, h1, h2 => exact Option.some.inj (h2.symm.trans h1)
  | 1, _, h1, h2 => exact Option.some.inj (h2.symm.trans h1)
  | 2, _, h1, h2 => exact Option.some.inj (h2.symm.trans h1)
  | 3, _, h1, h2 => exact Option.some.inj (h2.symm.trans h1)
  | 4, _, h1, h2 => exact Option.some.inj (h2.symm.trans h1)
  | 5, _, h1, h2 =>
    obtain ⟨_, _, _, _, _, g1⟩ := h1
    obtain ⟨_, _, _, _, _, g2⟩ := h2
    exact Option.some.inj (g2.symm.trans g1)
  | 6, _, h1, h2 =>
    obtain ⟨_, _, _, _, _, g1⟩ := h1
    obtain ⟨_, _, _, _, _, g2⟩ := h2
    exact Option.some.inj (g2.symm.trans g1)
  | n + 7, h, _, _ => omega
section QMk
variable {p : Program} {l : Launch} {e : Env} {R : Room} {s : State} {m : MethodId} {args : Array Value} {below : List Frame} {meth : Method} {c : Code} {H : Heap} {locs : List Loc} {cells slots : Nat} {Q : State → Prop}
variable {cc : ByteArray} {D : va_G} {tc : Nat → ClassId} {A : Nat → Prop} {ad : Nat → Nat} {M : List va_E} {o a b pc pc' : Nat} {i : Instr} {st st' : List Value} {ls : Array Slot}
set_option maxHeartbeats 4000000 in
theorem q_p4_ok (hx : p.tables.exec = Jvm.exec) (hb : c.code = cc) {en : va_E} {n : Nat} (h : q_p4 i a pc st = some (pc', st', en, n)) (hdg : decode cc pc = .ok (i, q_len i b)) (hts : ∀ w ∈ q_Tw, w.before args s = true) (hlk : q_eok o (pc, i, a, b) = true) (hown : s.vm.findClass (q_cn o) = some m.cls)
    (hK : va_K D q_cl (q_tys tc) s) (hP : va_P D q_cl (q_rz ad tc M) H) (hD : va_D A (q_rz ad tc M)) (hS : va_S A s.heap H locs) (hA : ∀ q, s.heap.size ≤ q → A q) (hAO : va_AO "FadingTrumps$Table" s ∧ va_AO "FadingTrumps$Trick" s) (hv : q_vM M) (hM : M.length < q_big) (hcells : cells + 1 ≤ R.cells) (hslots : slots + n ≤ R.slots)
    (k : ∀ (q : Nat) (H1 : Heap), q_ve M.length en → va_P D q_cl (q_rz (q_ext ad M.length q) tc (M ++ [en])) H1 → va_D A (q_rz (q_ext ad M.length q) tc (M ++ [en])) → va_S A s.heap H1 locs → W p l e R s m args below meth c H1 locs (cells + 1) (slots + n) Q (F0 m pc' ls (.ref q :: q_ts ad st'))) : W p l e R s m args below meth c H locs cells slots Q (F0 m pc ls (q_ts ad st)) := by
  unfold q_p4 at h
  split at h
  · split at h
    · rename_i ha
      cases h
      have hkl := q_kl_mem hlk
      dsimp only at hkl
      rw [q_kn_lt ha] at hkl
      have hve : q_ve M.length (.inr (a, (List.range (q_N a)).map (fun j => defaultValue (q_y a j)))) := by
        intro v hv0 i hi
        obtain ⟨j, -, hj⟩ := List.mem_map.mp hv0
        rw [← hj] at hi
        cases hq : q_y a j <;> rw [hq] at hi <;> cases hi
      refine va_new (ci := a) (fs := (List.range (q_N a)).map (fun j => defaultValue (q_y a j))) hx hb hts (q_in_ok _ ha) (q_y a) (q_ty_ok _ ha) hown (hts _ hkl) (hts _ (q_ins_ok a ha).1) (hts _ (q_ins_ok a ha).2) hK hP hD hS hA (q_cl_get ha) (fun j hj => q_df_V a j hj) hcells hslots hdg (fun q H1 h1 h2 h3 => ?_)
      have e1 : (q, (.inr (a, (List.range (q_N a)).map (fun j => defaultValue (q_y a j))) : va_E)) = (q, q_te ad tc (.inr (a, (List.range (q_N a)).map (fun j => defaultValue (q_y a j))))) := by
        show _ = (q, (.inr (a, _) : va_E))
        rw [q_df_map]
      rw [e1, q_rz_push hv hve hM] at h1 h2
      exact k q H1 hve h1 h2 h3
    · cases h
  · rename_i t
    split at h
    · rename_i n0 r
      split at h
      · cases h
      · rename_i hn
        obtain ⟨e0, he0, hz⟩ := Option.map_eq_some_iff.mp h
        cases hz
        have hn0 : ¬ n0 < 0 := fun z => hn (Or.inl z)
        have hn1 : n0.toNatClampNeg ≤ 20000 := Nat.not_lt.mp (fun z => hn (Or.inr z))
        have key : ∀ (t0 : Nat) (a0 : vp_A), t0 < 7 → q_ve M.length (.inl (t0, a0)) → (∀ cA : ClassId, q_te ad tc (.inl (t0, a0)) = .inl (tc t0, a0)) → ∀ (q : Nat) (cA : ClassId) (H1 : Heap), va_K D q_cl (q_tys tc ++ [(cA, q_aty t0)]) s → va_P D q_cl (q_rz ad tc M ++ [(q, .inl (cA, a0))]) H1 → va_D A (q_rz ad tc M ++ [(q, .inl (cA, a0))]) → va_P D q_cl (q_rz (q_ext ad M.length q) tc (M ++ [.inl (t0, a0)])) H1 ∧ va_D A (q_rz (q_ext ad M.length q) tc (M ++ [.inl (t0, a0)])) := by
          intro t0 a0 ht0 hve hte q cA H1 hK1 hP1 hD1
          rw [q_cA ht0 hK hK1, ← hte 0, q_rz_push hv hve hM] at hP1 hD1
          exact ⟨hP1, hD1⟩
        cases t with
        | int =>
          cases he0
          refine va_newa (atype := .int) (ty := .int) (a0 := (n0.toNatClampNeg, .inl (fun _ => 0))) hx hb (hts _ (q_arr_ok 0 (by decide))) rfl hK hP hD hS hA (fun cA => rfl) hn0 rfl (by show _ * 4 ≤ _; omega) hcells hslots hdg (fun q cA H1 g1 g2 g3 g4 => ?_)
          obtain ⟨z1, z2⟩ := key 0 (n0.toNatClampNeg, .inl (fun _ => 0)) (by decide) trivial (fun _ => rfl) q cA H1 g1 g2 g3
          exact k q H1 trivial z1 z2 g4
        | long =>
          cases he0
          refine va_newa (atype := .long) (ty := .long) (a0 := (n0.toNatClampNeg, .inr (.inl (fun _ => 0)))) hx hb (hts _ (q_arr_ok 1 (by decide))) rfl hK hP hD hS hA (fun cA => rfl) hn0 rfl (by show _ * 8 ≤ _; omega) hcells hslots hdg (fun q cA H1 g1 g2 g3 g4 => ?_)
          obtain ⟨z1, z2⟩ := key 1 (n0.toNatClampNeg, .inr (.inl (fun _ => 0))) (by decide) trivial (fun _ => rfl) q cA H1 g1 g2 g3
          exact k q H1 trivial z1 z2 g4
        | byte =>
          cases he0
          refine va_newa (atype := .byte) (ty := .byte) (a0 := (n0.toNatClampNeg, .inl (fun _ => 0))) hx hb (hts _ (q_arr_ok 2 (by decide))) rfl hK hP hD hS hA (fun cA => rfl) hn0 rfl (by show _ * 1 ≤ _; omega) hcells hslots hdg (fun q cA H1 g1 g2 g3 g4 => ?_)
          obtain ⟨z1, z2⟩ := key 2 (n0.toNatClampNeg, .inl (fun _ => 0)) (by decide) trivial (fun _ => rfl) q cA H1 g1 g2 g3
          exact k q H1 trivial z1 z2 g4
        | _ => cases he0
    · cases h
  · split at h
    · rename_i idx n0 r
      split at h
      · cases h
      · rename_i hn
        have hn0 : ¬ n0 < 0 := fun z => hn (Or.inl z)
        have hn1 : n0.toNatClampNeg ≤ 20000 := Nat.not_lt.mp (fun z => hn (Or.inr z))
        split at h
        · rename_i ha
          cases h
          have hve : ∀ t : Nat, q_ve M.length (.inl (t, n0.toNatClampNeg, .inr (.inr (.inr (.inr (fun _ => none)))))) := fun t j i hi => by cases hi
          have hkl := q_kl_mem hlk
          dsimp only at hkl
          rcases ha with rfl | rfl
          · refine va_newq (C := "FadingTrumps$Table") hx hb hown (hts _ hkl) hAO.1 hK hP hD hS hA hn0 rfl (by omega) hcells hslots hdg (fun q cA H1 g1 g2 g3 g4 => ?_)
            rw [q_cA (t := 5) (by decide) hK g1] at g2 g3
            have e1 : (q, (.inl (tc 5, n0.toNatClampNeg, .inr (.inr (.inr (.inr (fun _ => none))))) : va_E)) = (q, q_te ad tc (.inl (5, n0.toNatClampNeg, .inr (.inr (.inr (.inr (fun _ => none))))))) := rfl
            rw [e1, q_rz_push hv (hve 5) hM] at g2 g3
            exact k q H1 (hve 5) g2 g3 g4
          · refine va_newq (C := "FadingTrumps$Trick") hx hb hown (hts _ hkl) hAO.2 hK hP hD hS hA hn0 rfl (by omega) hcells hslots hdg (fun q cA H1 g1 g2 g3 g4 => ?_)
            rw [q_cA (t := 6) (by decide) hK g1] at g2 g3
            have e1 : (q, (.inl (tc 6, n0.toNatClampNeg, .inr (.inr (.inr (.inr (fun _ => none))))) : va_E)) = (q, q_te ad tc (.inl (6, n0.toNatClampNeg, .inr (.inr (.inr (.inr (fun _ => none))))))) := rfl
            rw [e1, q_rz_push hv (hve 6) hM] at g2 g3
            exact k q H1 (hve 6) g2 g3 g4
        · cases h
    · cases h
  · cases h
/-- the String constants of the class files lie where ad says -/
def q_St (ad : Nat → Nat) (s : State) : Prop := ∀ b : Nat, b < q_sc.length → vk_R (q_sc.getD b default).1 (q_sc.getD b default).2.1 (q_sc.getD b default).2.2.1 (ad (q_big + 1 + b)) s
theorem q_pk_ok (hx : p.tables.exec = Jvm.exec) (hb : c.code = cc) (h : q_pk i a b pc st = some (pc', st')) (hdg : decode cc pc = .ok (i, q_len i b)) (hts : ∀ w ∈ q_Tw, w.before args s = true) (hlk : q_eok o (pc, i, a, b) = true) (hown : s.vm.findClass (q_cn o) = some m.cls) (hZ : q_St ad s)
    (k : W p l e R s m args below meth c H locs cells slots Q (F0 m pc' ls (q_ts ad st'))) : W p l e R s m args below meth c H locs cells slots Q (F0 m pc ls (q_ts ad st)) := by
  unfold q_pk at h
  split at h
  · split at h
    · rename_i idx ha
      subst ha
      cases h
      exact lv_ldc hx hb hown (hts _ (q_ci_mem hlk)) hdg k
    · rename_i idx ha
      cases h
      have hlk2 : decide (b < q_sc.length ∧ (q_sc.getD b default).1 = q_cn o ∧ (q_sc.getD b default).2.1 = idx) = true := by
        have h9 : (if a = 0 then q_cip.any (fun x => decide (x.2 = (o, idx, b))) else decide (b < q_sc.length ∧ (q_sc.getD b default).1 = q_cn o ∧ (q_sc.getD b default).2.1 = idx)) = true := hlk
        rw [if_neg ha] at h9
        exact h9
      obtain ⟨h1, h2, h3⟩ := of_decide_eq_true hlk2
      have hz := hZ b h1
      rw [h2, h3] at hz
      exact va_ldcS hx hb hown hz hdg k
  · split at h
    · rename_i idx ha
      subst ha
      cases h
      exact lv_ldcw hx hb hown (hts _ (q_ci_mem hlk)) hdg k
    · cases h
  · cases h
    exact lv_ldc2 hx hb hown (hts _ (q_cl_mem hlk)) hdg k
  · cases h
set_option maxHeartbeats 4000000 in
/-- one instruction -/
theorem q_stp_ok (hx : p.tables.exec = Jvm.exec) (hb : c.code = cc) {X : q_X} {init : Bool} {nL : Nat} {lv lv' : q_L} {Mw Mw' : q_M} (h : q_stp X o init nL i a b pc lv st Mw = some (pc', lv', st', Mw')) (hdg : decode cc pc = .ok (i, q_len i b)) (hts : ∀ w ∈ q_Tw, w.before args s = true) (hlk : q_eok o (pc, i, a, b) = true) (hbr : q_br i a pc = true) (hown : s.vm.findClass (q_cn o) = some m.cls) (hinit : init = true → meth.name = "<init>") (hZ : q_St ad s)
    (hK : va_K D q_cl (q_tys tc) s) (hP : va_P D q_cl (q_rz ad tc Mw.1) H) (hD : va_D A (q_rz ad tc Mw.1)) (hS : va_S A s.heap H locs) (hA : ∀ q, s.heap.size ≤ q → A q) (hX : va_X (ad q_big) X.1 X.2 s s.heap) (hbl : ad q_big < s.heap.size) (hbA : ¬ A (ad q_big)) (hAO : va_AO "FadingTrumps$Table" s ∧ va_AO "FadingTrumps$Trick" s)
    (hv : q_vM Mw.1) (hvs : q_vs Mw.1.length st) (hvl : q_vl Mw.1.length lv) (hl : lv_has ls nL (q_tl ad lv)) (hR1 : Mw'.2.1 + cells ≤ R.cells + Mw.2.1) (hR2 : Mw'.2.2 + slots ≤ R.slots + Mw.2.2)
    (k : ∀ (ad' : Nat → Nat) (H1 : Heap) (locs1 : List Loc) (ls' : Array Slot) (cells' slots' : Nat), q_ag Mw.1.length ad ad' → cells' + Mw.2.1 = cells + Mw'.2.1 → slots' + Mw.2.2 = slots + Mw'.2.2 → lv_has ls' nL (q_tl ad' lv') → va_P D q_cl (q_rz ad' tc Mw'.1) H1 → va_D A (q_rz ad' tc Mw'.1) → va_S A s.heap H1 locs1 →
      W p l e R s m args below meth c H1 locs1 cells' slots' Q (F0 m pc' ls' (q_ts ad' st'))) : W p l e R s m args below meth c H locs cells slots Q (F0 m pc ls (q_ts ad st)) := by
  unfold q_stp at h
  split at h
  · rename_i hq
    cases h
    exact q_p1_ok hx hb hq hdg hbr hl (fun ls' hl' => k ad H locs ls' cells slots q_ag.rf rfl rfl hl' hP hD hS)
  · split at h
    · rename_i hq
      cases h
      exact q_pk_ok hx hb hq hdg hts hlk hown hZ (k ad H locs ls cells slots q_ag.rf rfl rfl hl hP hD hS)
    · split at h
      · rename_i hq
        cases h
        exact q_p2_ok hx hb hq hdg hts hlk hown hK hP hS hX hbl hbA (k ad H locs ls cells slots q_ag.rf rfl rfl hl hP hD hS)
      · split at h
        · rename_i hq
          cases h
          exact q_p3_ok hx hb hq hdg hts hlk hown hinit hK hP hD hS (fun H1 locs1 g1 g2 g3 => k ad H1 locs1 ls cells slots q_ag.rf rfl rfl hl g1 g2 g3)
        · split at h
          · rename_i pc9 st9 en n hq
            split at h
            · rename_i hM
              cases h
              dsimp only at hR1 hR2
              refine q_p4_ok hx hb hq hdg hts hlk hown hK hP hD hS hA hAO hv hM (by omega) (by omega) (fun q H1 hve g1 g2 g3 => ?_)
              have hag := q_ext_ag (ad := ad) (q := q) hM
              have hst : q_vs Mw.1.length st9 := q_p4_v hq hvs
              have kk := k (q_ext ad Mw.1.length q) H1 locs ls (cells + 1) (slots + n) hag (by dsimp only; omega) (by dsimp only; omega) (by rw [q_tl_ag hag hvl]; exact hl) g1 g2 g3
              have e1 : q_ts (q_ext ad Mw.1.length q) (.ref Mw.1.length :: st9) = .ref q :: q_ts ad st9 := by
                show Value.ref (q_ext ad Mw.1.length q Mw.1.length) :: q_ts _ _ = _
                rw [q_ts_ag hag hst]
                unfold q_ext
                rw [if_pos rfl]
              rw [e1] at kk
              exact kk
            · cases h
          · cases h
end QMk
end
section
/-! members of the JDK that the mini-machine tells by rows -/
theorem q_w_max_s : Cond.static Lib.Math.max.name ∈ q_Tw := List.mem_filter.mpr ⟨(List.mem_append_right _ (List.mem_append_right _ (List.mem_append_right _ (List.mem_append_right _ (List.mem_append_right _ (List.mem_of_getElem? (i := 98) rfl)))))), rfl⟩
theorem q_w_max_c : Cond.code Lib.Math.max.name Lib.Math.max.code 2 (some .int) ∈ q_Tw := List.mem_filter.mpr ⟨(List.mem_append_right _ (List.mem_append_right _ (List.mem_append_right _ (List.mem_append_right _ (List.mem_append_right _ (List.mem_of_getElem? (i := 99) rfl)))))), rfl⟩
theorem q_w_min_s : Cond.static Lib.Math.min.name ∈ q_Tw := List.mem_filter.mpr ⟨(List.mem_append_right _ (List.mem_append_right _ (List.mem_append_right _ (List.mem_append_left _ (List.mem_of_getElem? (i := 17) rfl))))), rfl⟩
theorem q_w_min_c : Cond.code Lib.Math.min.name Lib.Math.min.code 2 (some .int) ∈ q_Tw := List.mem_filter.mpr ⟨(List.mem_append_right _ (List.mem_append_right _ (List.mem_append_right _ (List.mem_append_left _ (List.mem_of_getElem? (i := 18) rfl))))), rfl⟩
theorem q_w_abs_s : Cond.static Lib.Math.abs.name ∈ q_Tw := List.mem_filter.mpr ⟨(List.mem_append_right _ (List.mem_append_right _ (List.mem_append_right _ (List.mem_append_right _ (List.mem_append_right _ (List.mem_of_getElem? (i := 110) rfl)))))), rfl⟩
theorem q_w_abs_c : Cond.code Lib.Math.abs.name Lib.Math.abs.code 1 (some .int) ∈ q_Tw := List.mem_filter.mpr ⟨(List.mem_append_right _ (List.mem_append_right _ (List.mem_append_right _ (List.mem_append_right _ (List.mem_append_right _ (List.mem_of_getElem? (i := 111) rfl)))))), rfl⟩
theorem q_w_math : Cond.initialized "java/lang/Math" ∈ q_Tw := List.mem_filter.mpr ⟨(List.mem_append_right _ (List.mem_append_left _ (List.mem_of_getElem? (i := 13) rfl))), rfl⟩
theorem q_w_ac_n : Cond.native arraycopyName ∈ q_Tw := List.mem_filter.mpr ⟨(List.mem_append_right _ (List.mem_append_right _ (List.mem_append_right _ (List.mem_append_right _ (List.mem_append_left _ (List.mem_of_getElem? (i := 110) rfl)))))), rfl⟩
theorem q_w_ac_s : Cond.static arraycopyName ∈ q_Tw := List.mem_filter.mpr ⟨(List.mem_append_right _ (List.mem_append_right _ (List.mem_append_right _ (List.mem_append_right _ (List.mem_append_left _ (List.mem_of_getElem? (i := 109) rfl)))))), rfl⟩
theorem q_w_sys : Cond.initialized "java/lang/System" ∈ q_Tw := List.mem_filter.mpr ⟨(List.mem_append_right _ (List.mem_append_left _ (List.mem_of_getElem? (i := 23) rfl))), rfl⟩
theorem q_w_ob_i : Cond.instanceMethod Lib.objectInit ∈ q_Tw := List.mem_filter.mpr ⟨(List.mem_append_right _ (List.mem_append_left _ (List.mem_of_getElem? (i := 31) rfl))), rfl⟩
theorem q_w_ob_c : Cond.code Lib.objectInit ⟨#[0xb1]⟩ 1 none ∈ q_Tw := List.mem_filter.mpr ⟨(List.mem_append_right _ (List.mem_append_left _ (List.mem_of_getElem? (i := 32) rfl))), rfl⟩

theorem q_min_sw (x y : Int32) : (if x < y then x else y) = (if y < x then y else x) := by
  simp only [Int32.lt_iff_toInt_lt]
  split <;> split <;> first
    | rfl
    | omega
    | (apply Int32.toInt_inj.mp; omega)
section QJ
variable {p : Program} {l : Launch} {e : Env} {R : Room} {s : State} {m : MethodId} {args : Array Value} {below : List Frame} {meth : Method} {c : Code} {H : Heap} {locs : List Loc} {cells slots : Nat} {Q : State → Prop}
variable {cc : ByteArray} {D : va_G} {tc : Nat → ClassId} {A : Nat → Prop} {ad : Nat → Nat} {M M' : List va_E} {o a b pc : Nat} {i : Instr} {st st' : List Value} {ls : Array Slot}
theorem q_eok_jdk {idx : Nat} (h : q_eok o (pc, .invokestatic idx, a, b) = true ∧ i = .invokestatic idx ∨ q_eok o (pc, .invokevirtual idx, a, b) = true ∧ i = .invokevirtual idx ∨ q_eok o (pc, .invokespecial idx, a, b) = true ∧ i = .invokespecial idx ∧ a ≠ 999) (ha : 900 ≤ a) (ha9 : a ≠ 999) :
    Cond.methodLink (q_cn o) idx (q_mn a) ∈ q_Tw ∧ ((i = .invokestatic idx ∧ a ∈ [910, 911, 912, 913]) ∨ (i = .invokevirtual idx ∧ a ∈ [900, 901]) ∨ (i = .invokespecial idx ∧ a = 914)) := by
  rcases h with ⟨h, rfl⟩ | ⟨h, rfl⟩ | ⟨h, rfl, hn⟩
  · simp only [q_eok, if_neg ha9, if_pos ha, Bool.and_eq_true, decide_eq_true_eq] at h
    exact ⟨q_ml_mem h.1, Or.inl ⟨rfl, h.2⟩⟩
  · simp only [q_eok, if_pos ha, Bool.and_eq_true, decide_eq_true_eq] at h
    exact ⟨q_ml_mem h.1, Or.inr (Or.inl ⟨rfl, h.2⟩)⟩
  · simp only [q_eok, if_neg hn, if_pos ha, Bool.and_eq_true, decide_eq_true_eq] at h
    exact ⟨q_ml_mem h.1, Or.inr (Or.inr ⟨rfl, h.2⟩)⟩
set_option maxHeartbeats 4000000 in
theorem q_jdk_ok (hx : p.tables.exec = Jvm.exec) (hb : c.code = cc) {X : q_X} (h : q_jdk X M a st = some (st', M')) {idx : Nat} (hk : Cond.methodLink (q_cn o) idx (q_mn a) ∈ q_Tw ∧ ((i = .invokestatic idx ∧ a ∈ [910, 911, 912, 913]) ∨ (i = .invokevirtual idx ∧ a ∈ [900, 901]) ∨ (i = .invokespecial idx ∧ a = 914))) (hdg : decode cc pc = .ok (i, 3)) (hts : ∀ w ∈ q_Tw, w.before args s = true) (hown : s.vm.findClass (q_cn o) = some m.cls) (hsz : c.maxLocals = ls.size)
    (hK : va_K D q_cl (q_tys tc) s) (hP : va_P D q_cl (q_rz ad tc M) H) (hD : va_D A (q_rz ad tc M)) (hS : va_S A s.heap H locs) (hRf : 4 ≤ R.frames) (hRl : 120 ≤ R.locals) (hRc : cells ≤ R.cells) (hRs : slots ≤ R.slots) (hsum : (st.map fun v => v.category).sum ≤ 16)
    (hstr : ∀ (j : Nat) (r : List Value), j < q_sc.length → (r.map fun v => v.category).sum ≤ 16 → (i = .invokevirtual idx → a = 900 → W p l e R s m args below meth c H locs cells slots Q (F0 m (pc + 3) ls (.int (Int32.ofNat (q_sc.getD j default).2.2.2.length) :: q_ts ad r)) → W p l e R s m args below meth c H locs cells slots Q (F0 m pc ls (.ref (ad (q_big + 1 + j)) :: q_ts ad r))) ∧
      (∀ k : Int32, ¬ (k < 0 ∨ (q_sc.getD j default).2.2.2.length ≤ k.toNatClampNeg) → i = .invokevirtual idx → a = 901 → W p l e R s m args below meth c H locs cells slots Q (F0 m (pc + 3) ls (.int ((q_sc.getD j default).2.2.2.getD k.toNatClampNeg 0) :: q_ts ad r)) → W p l e R s m args below meth c H locs cells slots Q (F0 m pc ls (.int k :: .ref (ad (q_big + 1 + j)) :: q_ts ad r))))
    (k : ∀ (H1 : Heap) (locs1 : List Loc), va_P D q_cl (q_rz ad tc M') H1 → va_D A (q_rz ad tc M') → va_S A s.heap H1 locs1 → W p l e R s m args below meth c H1 locs1 cells slots Q (F0 m (pc + 3) ls (q_ts ad st'))) : W p l e R s m args below meth c H locs cells slots Q (F0 m pc ls (q_ts ad st)) := by
  obtain ⟨hml, hk⟩ := hk
  have hml := hts _ hml
  unfold q_jdk at h
  split at h
  · split at h
    · rename_i id r
      split at h
      · rename_i hid
        obtain ⟨h1, h2⟩ := hid
        cases h
        have e1 : q_big + 1 + (id - q_big - 1) = id := by omega
        have hi : i = .invokevirtual idx := by
          rcases hk with ⟨_, z⟩ | ⟨z, _⟩ | ⟨_, z⟩
          · simp at z
          · exact z
          · simp at z
        have hs := (hstr (id - q_big - 1) r h2 (by simp only [List.map_cons, List.sum_cons] at hsum; omega)).1 hi rfl (k H locs hP hD hS)
        rw [e1] at hs
        exact hs
      · cases h
    · cases h
  · split at h
    · rename_i j id r
      split at h
      · rename_i hid
        obtain ⟨h1, h2, h3⟩ := hid
        cases h
        have e1 : q_big + 1 + (id - q_big - 1) = id := by omega
        have hi : i = .invokevirtual idx := by
          rcases hk with ⟨_, z⟩ | ⟨z, _⟩ | ⟨_, z⟩
          · simp at z
          · exact z
          · simp at z
        have hs := (hstr (id - q_big - 1) r h2 (by simp only [List.map_cons, List.sum_cons] at hsum; omega)).2 j h3 hi rfl (k H locs hP hD hS)
        rw [e1] at hs
        exact hs
      · cases h
    · cases h
  · split at h
    · rename_i y x r
      cases h
      have hi : i = .invokestatic idx := by
        rcases hk with ⟨z, _⟩ | ⟨_, z⟩ | ⟨_, z⟩
        · exact z
        · simp at z
        · simp at z
      rw [hi] at hdg
      simp only [List.map_cons, List.sum_cons] at hsum
      exact va_mmax hx hb hsz hown hml (hts _ q_w_max_s) (hts _ q_w_math) (hts _ q_w_max_c) (by omega) (by rw [q_ts_cat]; omega) hRc hRs hdg (k H locs hP hD hS)
    · cases h
  · split at h
    · rename_i y x r
      cases h
      have hi : i = .invokestatic idx := by
        rcases hk with ⟨z, _⟩ | ⟨_, z⟩ | ⟨_, z⟩
        · exact z
        · simp at z
        · simp at z
      rw [hi] at hdg
      simp only [List.map_cons, List.sum_cons] at hsum
      have k9 := k H locs hP hD hS
      rw [q_min_sw] at k9
      exact va_mmin hx hb hsz hown hml (hts _ q_w_min_s) (hts _ q_w_math) (hts _ q_w_min_c) (by omega) (by rw [q_ts_cat]; omega) hRc hRs hdg k9
    · cases h
  · split at h
    · rename_i x r
      cases h
      have hi : i = .invokestatic idx := by
        rcases hk with ⟨z, _⟩ | ⟨_, z⟩ | ⟨_, z⟩
        · exact z
        · simp at z
        · simp at z
      rw [hi] at hdg
      simp only [List.map_cons, List.sum_cons] at hsum
      exact va_mabs hx hb hsz hown hml (hts _ q_w_abs_s) (hts _ q_w_math) (hts _ q_w_abs_c) (by omega) (by rw [q_ts_cat]; omega) hRc hRs hdg (k H locs hP hD hS)
    · cases h
  · split at h
    · rename_i n dp d sp sr r
      split at h
      · cases h
      · rename_i hneg
        have hi : i = .invokestatic idx := by
          rcases hk with ⟨z, _⟩ | ⟨_, z⟩ | ⟨_, z⟩
          · exact z
          · simp at z
          · simp at z
        rw [hi] at hdg
        simp only [List.map_cons, List.sum_cons] at hsum
        have hnf : nativeFrameWords "java/lang/System" "arraycopy" 5 + 11 ≤ 100 := by decide
        split at h
        · rename_i n0 f n1 g hs0 hd0
          split at h
          · rename_i hc
            cases h
            exact va_copyi (ty := .int) hx hb hsz hown hml (hts _ q_w_ac_n) (hts _ q_w_ac_s) (hts _ q_w_sys) hK hP hD hS sr d 0 0 (q_rz_at hs0) (q_rz_at hd0) (q_tys_get (by decide)) (q_tys_get (by decide)) rfl (fun z => hneg (Or.inl z)) (fun z => hneg (Or.inr (Or.inl z))) (fun z => hneg (Or.inr (Or.inr z))) hc.1 hc.2 (fun _ _ => rfl) (by omega) (by rw [q_ts_cat]; omega) hdg (fun H1 locs1 h1 h2 h3 => k H1 locs1 (by rw [← q_rz_set]; exact h1) (by rw [← q_rz_set]; exact h2) h3)
          · cases h
        · rename_i n0 f n1 g hs0 hd0
          split at h
          · rename_i hc
            cases h
            exact va_copyl (ty := .long) hx hb hsz hown hml (hts _ q_w_ac_n) (hts _ q_w_ac_s) (hts _ q_w_sys) hK hP hD hS sr d 1 1 (q_rz_at hs0) (q_rz_at hd0) (q_tys_get (by decide)) (q_tys_get (by decide)) rfl (fun z => hneg (Or.inl z)) (fun z => hneg (Or.inr (Or.inl z))) (fun z => hneg (Or.inr (Or.inr z))) hc.1 hc.2 (fun _ _ => rfl) (by omega) (by rw [q_ts_cat]; omega) hdg (fun H1 locs1 h1 h2 h3 => k H1 locs1 (by rw [← q_rz_set]; exact h1) (by rw [← q_rz_set]; exact h2) h3)
          · cases h
        · cases h
    · cases h
  · split at h
    · rename_i id r
      cases h
      have hi : i = .invokespecial idx := by
        rcases hk with ⟨_, z⟩ | ⟨_, z⟩ | ⟨z, _⟩
        · simp at z
        · simp at z
        · exact z
      rw [hi] at hdg
      simp only [List.map_cons, List.sum_cons] at hsum
      exact W.objInit hx hb hown hml (hts _ q_w_ob_i) (hts _ q_w_ob_c) rfl (by show ls.size = _; rw [hsz]) rfl hdg (by omega) (by show 2 * 0 + _ + 12 ≤ _; rw [q_ts_cat]; omega) (k H locs hP hD hS)
    · cases h
  · cases h
theorem q_jdk_v {X : q_X} (h : q_jdk X M a st = some (st', M')) (hM : q_vM M) (hs : q_vs M.length st) : q_vM M' ∧ M'.length = M.length ∧ q_vs M.length st' := by
  unfold q_jdk at h
  (repeat' split at h) <;> first
    | (cases h; done)
    | (cases h; exact ⟨hM, rfl, q_vs_c.mpr ⟨q_vv_i, (q_vs_c.mp (q_vs_c.mp hs).2).2⟩⟩)
    | (cases h; exact ⟨hM, rfl, q_vs_c.mpr ⟨q_vv_i, (q_vs_c.mp hs).2⟩⟩)
    | (cases h; exact ⟨hM, rfl, (q_vs_c.mp hs).2⟩)
    | (cases h; exact ⟨q_vM_set hM trivial, List.length_set, (q_vs_c.mp (q_vs_c.mp (q_vs_c.mp (q_vs_c.mp (q_vs_c.mp hs).2).2).2).2).2⟩)
end QJ
end
section
/-! a run of the mini-machine: f instructions at most on any road, d calls deep -/
def q_inv (i : Instr) : Option Nat := match i with
  | .invokestatic k | .invokevirtual k | .invokespecial k => some k
  | _ => none
def q_isnew (i : Instr) : Option Nat := match i with
  | .new k => some k
  | _ => none
/-- where a handler's store stands, and behind it -/
def q_hst (i : Option (Instr × Nat × Nat)) : Option (Nat × Nat) := match i with
  | some (.astore k, _) => some (k, 2)
  | some (.astore_n k, _) => some ((k : Nat), 1)
  | _ => none
def q_IA : String := "java/lang/IllegalArgumentException"
/-- the row of a table that takes what was thrown here -/
def q_hd : List (Nat × Nat × Nat × Nat) → Nat → String → Option Nat
  | [], _, _ => none
  | x :: r, pc, E => if x.1 ≤ pc ∧ pc < x.2.1 then (if q_cty E x.2.2.2 = true then some x.2.2.1 else if E = q_IA ∧ x.2.2.2 = 18 then q_hd r pc E else none) else q_hd r pc E
/-- the receiver is an object of the method's class -/
def q_rcv (k o : Nat) (as : List Value) (M : List va_E) : Bool := match k with
  | 0 => true
  | 1 => (match as with | .ref id :: _ => (match q_at M id with | some (.inr (ci, _)) => decide (ci = o) | _ => false) | _ => false)
  | _ => (match as with | .ref _ :: _ => true | _ => false)
def q_ex (X : q_X) : Nat → Nat → Nat → Nat → q_L → List Value → q_M → Option (q_O × q_M)
  | 0, _, _, _, _, _, _ => none
  | f + 1, d, y, pc, lv, st, M =>
    match q_ins (q_row y).2.2.2.2.2.2.2 pc with
    | none => none
    | some (i, a, b) =>
      match q_end (q_row y).2.2.2.1 i st with
      | some v => some (.inl v, M)
      | none =>
        match q_stp X (q_row y).2.2.2.2.2.2.1 ((q_row y).2.2.2.2.2.1 == 2) (q_row y).2.2.1 i a b pc lv st M with
        | some (pc', lv', st', M') => q_ex X f d y pc' lv' st' M'
        | none =>
          match q_isnew i with
          | some _ => if (q_row y).2.2.2.2.1 = [] ∧ (st.map fun v => v.category).sum ≤ 8 then (q_exn a).map (fun E => (.inr E, (M.1, M.2.1 + 1, M.2.2 + 6))) else none
          | none =>
            match q_inv i with
            | none => none
            | some _ =>
              if 900 ≤ a then
                (match q_jdk X M.1 a st with
                 | some (st', M') => if (st.map fun v => v.category).sum ≤ 16 ∧ a ≠ 999 then q_ex X f d y (pc + 3) lv st' (M', M.2) else none
                 | none => none)
              else
                (match d, q_args (q_row a).2.2.2.2.2.1 b st with
                 | d' + 1, some (as, rest) =>
                   if (rest.map fun v => v.category).sum ≤ 8 ∧ a < q_mt.length ∧ a ≠ q_law ∧ (lg_sl as).length ≤ (q_row a).2.2.1 ∧ q_rcv (q_row a).2.2.2.2.2.1 (q_row a).2.2.2.2.2.2.1 as M.1 = true then
                     (match q_ex X f d' a 0 (lv_args 0 as) [] M with
                      | some (.inl v, M') => q_ex X f d y (pc + 3) lv (v.toList ++ rest) M'
                      | some (.inr E, M') =>
                        (match q_hd (q_row y).2.2.2.2.1 pc E with
                         | some h => (match q_hst (q_ins (q_row y).2.2.2.2.2.2.2 h) with
                           | some (k, n) => if k < (q_row y).2.2.1 then q_ex X f d y (h + n) ((q_s1 lv k .null).drop 1) [] M' else none
                           | none => none)
                         | none => if (q_row y).2.2.2.2.1 = [] then some (.inr E, M') else none)
                      | none => none)
                   else none
                 | _, _ => none)
theorem q_args_v {n k j : Nat} {st as rest : List Value} (h : q_args k j st = some (as, rest)) (hs : q_vs n st) : q_vs n as ∧ q_vs n rest := by
  unfold q_args at h
  (repeat' split at h) <;> first
    | (cases h; done)
    | (cases h; exact ⟨fun v hv => hs v (List.mem_of_mem_take (List.mem_reverse.mp hv)), fun v hv => hs v (List.mem_of_mem_drop hv)⟩)
theorem q_lva_v {n : Nat} : ∀ (as : List Value) (k : Nat), q_vs n as → q_vl n (lv_args k as)
  | [], _, _ => fun q hq => absurd hq List.not_mem_nil
  | v :: as, k, hs => by
    intro q hq
    rcases List.mem_cons.mp hq with rfl | hq
    · exact hs v List.mem_cons_self
    · exact q_lva_v as _ (fun w hw => hs w (List.mem_cons_of_mem _ hw)) q hq
theorem q_end_v {n : Nat} {rt : Option FieldType} {i : Instr} {st : List Value} {v : Value} (h : q_end rt i st = some (some v)) (hs : q_vs n st) : q_vv n v := by
  unfold q_end at h
  (repeat' split at h) <;> first
    | (cases h; done)
    | (cases h; exact hs _ List.mem_cons_self)
theorem q_vl_drop {n k : Nat} {lv : q_L} (hl : q_vl n lv) : q_vl n ((q_s1 lv k .null).drop 1) := fun q hq => by
  show q_vv n q.2
  exact hl q (List.mem_filter.mp hq).1
theorem q_vs_app {n : Nat} {a b : List Value} (ha : q_vs n a) (hb : q_vs n b) : q_vs n (a ++ b) := fun v hv => (List.mem_append.mp hv).elim (ha v) (hb v)
set_option maxHeartbeats 1000000 in
theorem q_ex_v (X : q_X) : ∀ (f d y pc : Nat) (lv : q_L) (st : List Value) (M : q_M) (r : q_O) (Me : q_M), q_ex X f d y pc lv st M = some (r, Me) → q_V lv st M → q_vM Me.1 ∧ q_le M Me ∧ ∀ v, r = .inl (some v) → q_vv Me.1.length v := by
  intro f
  induction f with
  | zero => intro d y pc lv st M r Me h; simp [q_ex] at h
  | succ f ih =>
    intro d y pc lv st M r Me h hV
    rw [q_ex] at h
    split at h
    · cases h
    · rename_i i a b hins
      split at h
      · rename_i v hend
        cases h
        exact ⟨hV.2.2, q_le.rf, fun v hv => by cases hv; exact q_end_v hend hV.2.1⟩
      · split at h
        · rename_i pc' lv' st' M' hstp
          obtain ⟨h1, h2⟩ := q_stp_v hstp hV
          obtain ⟨g1, g2, g3⟩ := ih _ _ _ _ _ _ _ _ h h1
          exact ⟨g1, h2.tr g2, g3⟩
        · split at h
          · split at h
            · obtain ⟨E, -, hz⟩ := Option.map_eq_some_iff.mp h
              cases hz
              exact ⟨hV.2.2, ⟨Nat.le_refl _, Nat.le_succ _, Nat.le_add_right _ _⟩, fun v hv => by cases hv⟩
            · cases h
          · split at h
            · cases h
            · split at h
              · split at h
                · rename_i st' M' hj
                  split at h
                  · obtain ⟨h1, h2, h3⟩ := q_jdk_v hj hV.2.2 hV.2.1
                    obtain ⟨g1, g2, g3⟩ := ih _ _ _ _ _ _ _ _ h ⟨fun q hq => by dsimp only; rw [h2]; exact hV.1 q hq, fun v hv => by dsimp only; rw [h2]; exact h3 v hv, h1⟩
                    exact ⟨g1, ⟨by have := g2.1; dsimp only at this; rw [h2] at this; exact this, g2.2⟩, g3⟩
                  · cases h
                · cases h
              · split at h
                · rename_i d' as rest hargs
                  split at h
                  · obtain ⟨v1, v2⟩ := q_args_v hargs hV.2.1
                    split at h
                    · rename_i v M' hcall
                      obtain ⟨g1, g2, g3⟩ := ih _ _ _ _ _ _ _ _ hcall ⟨q_lva_v as 0 v1, q_vs_nil, hV.2.2⟩
                      have hvv : q_vs M'.1.length v.toList := by
                        cases v with
                        | none => exact q_vs_nil
                        | some v => exact q_vs_c.mpr ⟨g3 v rfl, q_vs_nil⟩
                      obtain ⟨k1, k2, k3⟩ := ih _ _ _ _ _ _ _ _ h ⟨hV.1.mono g2.1, q_vs_app hvv (v2.mono g2.1), g1⟩
                      exact ⟨k1, g2.tr k2, k3⟩
                    · rename_i E M' hcall
                      obtain ⟨g1, g2, g3⟩ := ih _ _ _ _ _ _ _ _ hcall ⟨q_lva_v as 0 v1, q_vs_nil, hV.2.2⟩
                      split at h
                      · split at h
                        · split at h
                          · obtain ⟨k1, k2, k3⟩ := ih _ _ _ _ _ _ _ _ h ⟨q_vl_drop (hV.1.mono g2.1), q_vs_nil, g1⟩
                            exact ⟨k1, g2.tr k2, k3⟩
                          · cases h
                        · cases h
                      · split at h
                        · cases h
                          exact ⟨g1, g2, fun v hv => by cases hv⟩
                        · cases h
                    · cases h
                  · cases h
                · cases h
end
section
/-! what holds of the state beside a world; a call's contract by a run of the mini-machine -/
/-- the String constants' contents, and String's own static -/
def q_Sx (A : Nat → Prop) (ad : Nat → Nat) (s : State) (H : Heap) : Prop :=
  (∀ j : Nat, j < q_sc.length → ∃ av : Nat, va_O "java/lang/String" (ad (q_big + 1 + j)) A s H ∧ va_OF "java/lang/String" "coder" "B" (.int 0) (ad (q_big + 1 + j)) A s H ∧ va_OF "java/lang/String" "value" "[B" (.ref av) (ad (q_big + 1 + j)) A s H ∧ va_T .byte av (q_sc.getD j default).2.2.2.length (fun k => .int ((q_sc.getD j default).2.2.2.getD k 0)) A s H) ∧
  va_Z "java/lang/String" "COMPACT_STRINGS" "Z" (.int 1) A s H ∧ va_Zq "jdk/internal/util/Preconditions" "SIOOBE_FORMATTER" "Ljava/util/function/BiFunction;" A s H
theorem q_Sx.moved {A : Nat → Prop} {ad : Nat → Nat} {u U : State} {H : Heap} (hvm : u.vm.Alike U.vm) (h : q_Sx A ad u H) : q_Sx A ad U H := by
  refine ⟨fun j hj => ?_, va_Z.moved hvm h.2.1, va_Zq.moved hvm h.2.2⟩
  obtain ⟨av, h1, h2, h3, h4⟩ := h.1 j hj
  exact ⟨av, va_O.moved hvm h1, va_OF.moved hvm h2, va_OF.moved hvm h3, va_T.moved hvm h4⟩
theorem q_Sx.kept {A : Nat → Prop} {ad : Nat → Nat} {U : State} {H H1 : Heap} (h : q_Sx A ad U H) (hq : ∀ a : Nat, a < H.size → ¬ A a → H1[a]? = H[a]?) : q_Sx A ad U H1 := by
  refine ⟨fun j hj => ?_, h.2.1.kept hq, h.2.2.kept hq⟩
  obtain ⟨av, h1, h2, h3, h4⟩ := h.1 j hj
  exact ⟨av, h1.kept hq, h2.kept hq, h3.kept hq, h4.kept hq⟩
theorem q_Sx.ag {A : Nat → Prop} {n : Nat} {ad ad' : Nat → Nat} {U : State} {H : Heap} (hag : q_ag n ad ad') (h : q_Sx A ad U H) : q_Sx A ad' U H := by
  refine ⟨fun j hj => ?_, h.2⟩
  obtain ⟨av, h1, h2, h3, h4⟩ := h.1 j hj
  have e : ad' (q_big + 1 + j) = ad (q_big + 1 + j) := hag _ (Or.inr (by omega))
  exact ⟨av, by rw [e]; exact h1, by rw [e]; exact h2, by rw [e]; exact h3, h4⟩
theorem q_St.ag {n : Nat} {ad ad' : Nat → Nat} {s : State} (hag : q_ag n ad ad') (h : q_St ad s) : q_St ad' s := by
  intro b hb
  rw [hag (q_big + 1 + b) (Or.inr (by omega))]
  exact h b hb
def q_Cx (D : va_G) (tc : Nat → ClassId) (A : Nat → Prop) (ad : Nat → Nat) (X : q_X) (s : State) : Prop :=
  va_K D q_cl (q_tys tc) s ∧ q_St ad s ∧ (va_X (ad q_big) X.1 X.2 s s.heap ∧ ad q_big < s.heap.size ∧ ¬ A (ad q_big)) ∧ (va_AO "FadingTrumps$Table" s ∧ va_AO "FadingTrumps$Trick" s) ∧
  (∀ q : Nat, s.heap.size ≤ q → A q) ∧ q_Sx A ad s s.heap
theorem q_Cx.step {D : va_G} {tc : Nat → ClassId} {A : Nat → Prop} {ad : Nat → Nat} {X : q_X} {s U : State} {locs : List Loc} (h : q_Cx D tc A ad X s) (hW : s.WarmedH U.vm) (hS : va_S A s.heap U.heap locs) : q_Cx D tc A ad X U := by
  obtain ⟨h1, h2, ⟨h3, h4, h5⟩, ⟨h6, h7⟩, h11, h12⟩ := h
  have hk := hS.2.1
  refine ⟨h1.moved hW.alike, fun b hb => (h2 b hb).warm hW, ⟨(h3.kept (hk _ h4 h5)).moved hW.alike, Nat.lt_of_lt_of_le h4 hS.1, h5⟩, ⟨h6.moved hW.alike, h7.moved hW.alike⟩, fun q hq => h11 q (Nat.le_trans hS.1 hq), (h12.kept hk).moved hW.alike⟩
theorem q_Cx.ag {D : va_G} {tc : Nat → ClassId} {A : Nat → Prop} {n : Nat} {ad ad' : Nat → Nat} {X : q_X} {s : State} (hag : q_ag n ad ad') (h : q_Cx D tc A ad X s) : q_Cx D tc A ad' X s := by
  obtain ⟨h1, h2, ⟨h3, h4, h5⟩, h6, h11, h12⟩ := h
  have e : ad' q_big = ad q_big := hag _ (Or.inr (Nat.le_refl _))
  exact ⟨h1, h2.ag hag, ⟨by rw [e]; exact h3, by rw [e]; exact h4, by rw [e]; exact h5⟩, h6, h11, h12.ag hag⟩
/-- the frame's own facts -/
def q_Fr (p : Program) (s : State) (m : MethodId) (args : Array Value) (meth : Method) (c : Code) (y : Nat) : Prop :=
  p.tables.exec = Jvm.exec ∧ c.code = (q_row y).2.1 ∧ c.maxLocals = (q_row y).2.2.1 ∧ (∀ w ∈ q_Tw, w.before args s = true) ∧ s.vm.findClass (q_cn (q_row y).2.2.2.2.2.2.1) = some m.cls ∧ ((q_row y).2.2.2.2.2.1 = 2 → meth.name = "<init>") ∧ c.exceptionTable.toList = tableOf (q_row y).2.2.2.2.1 ∧ meth.locks = false
def q_Wd (D : va_G) (tc : Nat → ClassId) (A : Nat → Prop) (ad0 : Nat → Nat) (n0 : Nat) (s : State) (ad : Nat → Nat) (H : Heap) (locs : List Loc) (M : List va_E) : Prop :=
  q_ag n0 ad0 ad ∧ n0 ≤ M.length ∧ va_P D q_cl (q_rz ad tc M) H ∧ va_D A (q_rz ad tc M) ∧ va_S A s.heap H locs
/-- the ends of a walk: an answer, a throw of its own, a throw that came from a call -/
def q_Ends (D : va_G) (tc : Nat → ClassId) (A : Nat → Prop) (p : Program) (l : Launch) (e : Env) (R : Room) (s : State) (m : MethodId) (args : Array Value) (below : List Frame) (meth : Method) (c : Code) (Q : State → Prop) (y : Nat) (ad0 : Nat → Nat) (n0 : Nat) (r : q_O) (Me : q_M) : Prop :=
  (∀ v : Option Value, r = .inl v → ∀ (pc b : Nat) (i : Instr) (st : List Value) (ad : Nat → Nat) (H : Heap) (locs : List Loc) (ls : Array Slot) (cells slots : Nat), q_end (q_row y).2.2.2.1 i st = some v → decode (q_row y).2.1 pc = .ok (i, q_len i b) → q_Wd D tc A ad0 n0 s ad H locs Me.1 → cells ≤ R.cells → slots ≤ R.slots → W p l e R s m args below meth c H locs cells slots Q (F0 m pc ls (q_ts ad st)))
def q_Sim (l : Launch) (D : va_G) (tc : Nat → ClassId) (A : Nat → Prop) (X : q_X) (f : Nat) : Prop :=
  ∀ (d y pc : Nat) (lv : q_L) (st : List Value) (Mw : q_M) (r : q_O) (Me : q_M), q_ex X f d y pc lv st Mw = some (r, Me) → (∃ v : Option Value, r = .inl v) → q_V lv st Mw →
  ∀ (p : Program) (e : Env) (R : Room) (s : State) (m : MethodId) (args : Array Value) (below : List Frame) (meth : Method) (c : Code) (Q : State → Prop) (ad0 : Nat → Nat) (n0 : Nat), q_Fr p s m args meth c y → q_Cx D tc A ad0 X s → d + 4 ≤ R.frames → 37 * d + 120 ≤ R.locals → q_Ends D tc A p l e R s m args below meth c Q y ad0 n0 r Me →
  ∀ (ad : Nat → Nat) (H : Heap) (locs : List Loc) (ls : Array Slot) (cells slots : Nat), q_Wd D tc A ad0 n0 s ad H locs Mw.1 → lv_has ls (q_row y).2.2.1 (q_tl ad lv) → Me.2.1 + cells ≤ R.cells + Mw.2.1 → Me.2.2 + slots ≤ R.slots + Mw.2.2 →
  W p l e R s m args below meth c H locs cells slots Q (F0 m pc ls (q_ts ad st))
/-- a callee's contract -/
def q_Qc (D : va_G) (tc : Nat → ClassId) (A : Nat → Prop) (ad : Nat → Nat) (n : Nat) (r : q_O) (Me : q_M) : Array Value → State → Outcome → State → Prop := fun _ st o t =>
  ∃ (v : Option Value) (ad' : Nat → Nat), r = .inl v ∧ o = .returned (v.map (q_tv ad')) ∧ q_ag n ad ad' ∧ va_P D q_cl (q_rz ad' tc Me.1) t.heap ∧ va_D A (q_rz ad' tc Me.1) ∧ va_F A st t
def q_XC : String → State → State → Prop := fun _ _ _ => False
abbrev q_rm (d : Nat) (M Me : q_M) : Room := { frames := d + 4, cells := Me.2.1 - M.2.1, slots := Me.2.2 - M.2.2, locals := 37 * d + 120 }
def q_Pc (D : va_G) (tc : Nat → ClassId) (A : Nat → Prop) (ad : Nat → Nat) (X : q_X) (as : List Value) (M : q_M) : Array Value → State → Prop := va_Pc (q_ts ad as) (fun U => q_Cx D tc A ad X U ∧ va_P D q_cl (q_rz ad tc M.1) U.heap ∧ va_D A (q_rz ad tc M.1))
theorem q_lva_ts (ad : Nat → Nat) : ∀ (as : List Value) (k : Nat), lv_args k (q_ts ad as) = q_tl ad (lv_args k as)
  | [], _ => rfl
  | v :: as, k => by
    show (k, q_tv ad v) :: lv_args (if (q_tv ad v).category = 2 then k + 2 else k + 1) (q_ts ad as) = (k, q_tv ad v) :: q_tl ad (lv_args (if v.category = 2 then k + 2 else k + 1) as)
    rw [q_tv_cat, q_lva_ts ad as]
theorem q_Pc_blind {D : va_G} {tc : Nat → ClassId} {A : Nat → Prop} {ad : Nat → Nat} {X : q_X} {as : List Value} {M : q_M} : FrameBlind (q_Pc D tc A ad X as M) := by
  intro a U g mk h
  obtain ⟨h1, h2, h3, h4⟩ := h
  exact ⟨h1, h2.step (U := U.calling g mk a) (locs := []) (State.WarmedH.refl U) va_S.rf, h3, h4⟩
end
section
/-! THE MACHINE DOES WHAT THE MINI-MACHINE DOES -/
theorem q_row_get {y : Nat} (h : y < q_mt.length) : q_mt[y]? = some (q_row y) := by
  unfold q_row
  rw [List.getD_eq_getElem?_getD, List.getElem?_eq_getElem h]
  rfl
theorem q_ins_lt {y pc : Nat} {e : Instr × Nat × Nat} (h : q_ins (q_row y).2.2.2.2.2.2.2 pc = some e) : y < q_mt.length := by
  rcases Nat.lt_or_ge y q_mt.length with z | z
  · exact z
  · unfold q_row at h
    rw [List.getD_eq_getElem?_getD, List.getElem?_eq_none z] at h
    simp [q_ins] at h
theorem q_at_ok {y pc a b : Nat} {i : Instr} (h : q_ins (q_row y).2.2.2.2.2.2.2 pc = some (i, a, b)) : decode (q_row y).2.1 pc = .ok (i, q_len i b) ∧ q_eok (q_row y).2.2.2.2.2.2.1 (pc, i, a, b) = true ∧ q_br i a pc = true := by
  have hx := q_xok_all y _ (q_row_get (q_ins_lt h))
  unfold q_ins at h
  obtain ⟨e, h1, h2⟩ := Option.map_eq_some_iff.mp h
  have h3 := List.find?_some h1
  have h4 := List.mem_of_find?_eq_some h1
  simp only [beq_iff_eq] at h3
  obtain ⟨e1, e2⟩ := e
  dsimp only at h2 h3
  subst h2; subst h3
  have h5 := List.all_eq_true.mp hx _ h4
  simp only [q_xe, Bool.and_eq_true, decide_eq_true_eq] at h5
  exact ⟨h5.1.1, h5.1.2, h5.2⟩
set_option maxRecDepth 100000 in
theorem q_hh_all : q_mt.all (fun x => decide (x.2.2.2.2.1 = [])) = true := by decide +kernel
theorem q_hh {y : Nat} (hy : y < q_mt.length) : (q_row y).2.2.2.2.1 = [] := of_decide_eq_true (List.all_eq_true.mp q_hh_all _ (List.mem_of_getElem? (q_row_get hy)))
theorem q_ws {a : Nat} (ha : a < q_mt.length) (hne : a ≠ q_law) : ∀ w ∈ q_cw (q_row a) :: q_Tw, w ∈ q_Tw := by
  intro w hw
  rcases List.mem_cons.mp hw with rfl | hw
  · rcases q_mP_all a _ (q_row_get ha) with h | h
    · exact absurd h hne
    · exact List.mem_filter.mpr h.1
  · exact hw
theorem q_mok_row {a : Nat} (ha : a < q_mt.length) (hne : a ≠ q_law) : q_mok a (q_row a) = true := (q_mok_all a _ (q_row_get ha)).resolve_left hne
theorem q_mP_row {a : Nat} (ha : a < q_mt.length) (hne : a ≠ q_law) : q_mP (q_row a) := (q_mP_all a _ (q_row_get ha)).resolve_left hne
theorem q_lg_len (ad : Nat → Nat) : ∀ (as : List Value), (lg_sl (q_ts ad as)).length = (lg_sl as).length
  | [] => rfl
  | v :: as => by
    have h : ∀ (v : Value) (r : List Value), (lg_sl (v :: r)).length = (if v.category = 2 then 2 else 1) + (lg_sl r).length := by
      intro v r
      cases v <;> simp [lg_sl, Value.category] <;> omega
    show (lg_sl (q_tv ad v :: q_ts ad as)).length = _
    rw [h, h, q_tv_cat, q_lg_len ad as]
theorem q_args_spec {k n : Nat} {st as rest : List Value} (h : q_args k n st = some (as, rest)) : st = as.reverse ++ rest ∧ as.length = (if k = 0 then n else n + 1) := by
  unfold q_args at h
  split at h
  · rename_i hk
    split at h
    · cases h
      rw [if_pos hk, List.reverse_reverse, List.take_append_drop]
      exact ⟨rfl, by rw [List.length_reverse, List.length_take]; omega⟩
    · cases h
  · rename_i hk
    split at h
    · cases h
      rw [if_neg hk, List.reverse_reverse, List.take_append_drop]
      exact ⟨rfl, by rw [List.length_reverse, List.length_take]; omega⟩
    · cases h
section QS
variable {l : Launch} {D : va_G} {tc : Nat → ClassId} {A : Nat → Prop} {X : q_X} {f : Nat}
set_option maxHeartbeats 4000000 in
theorem q_body (IH : q_Sim l D tc A X f) {d a : Nat} {as : List Value} {M Me : q_M} {r : q_O} (h : q_ex X f d a 0 (lv_args 0 as) [] M = some (r, Me)) (hri : ∃ v : Option Value, r = .inl v) (hlen : (lg_sl as).length ≤ (q_row a).2.2.1) (hvs : q_vs M.1.length as) (hvM : q_vM M.1) (ad : Nat → Nat)
    {p : Program} {e : Env} {s : State} {m : MethodId} {args : Array Value} {below : List Frame} {meth : Method} {c : Code} (hF : q_Fr p s m args meth c a) (hr : meth.sig.returnType = (q_row a).2.2.2.1) (hv : q_Pc D tc A ad X as M args s) :
    W p l e (q_rm d M Me) s m args below meth c s.heap [] 0 0 (vx_MQ below (q_Qc D tc A ad M.1.length r Me) q_XC args s (Me.2.1 - M.2.1) (Me.2.2 - M.2.2) A) (entryFrame m args (q_row a).2.2.1) := by
  obtain ⟨rfl, hC, hP, hD⟩ := hv
  rw [lg_entry_eq]
  have hl := lv_entry (q_ts ad as) (n := (q_row a).2.2.1) (by rw [q_lg_len]; exact hlen)
  rw [q_lva_ts] at hl
  have hmono := (q_ex_v X f d a 0 _ _ _ _ _ h ⟨q_lva_v as 0 hvs, q_vs_nil, hvM⟩).2.1
  refine IH d a 0 (lv_args 0 as) [] M r Me h hri ⟨q_lva_v as 0 hvs, q_vs_nil, hvM⟩ p e (q_rm d M Me) s m _ below meth c _ ad M.1.length hF hC (Nat.le_refl _) (Nat.le_refl _) ?_ ad s.heap [] _ 0 0 ⟨q_ag.rf, Nat.le_refl _, hP, hD, va_S.rf⟩ hl (by have := hmono.2.1; show Me.2.1 + 0 ≤ (Me.2.1 - M.2.1) + M.2.1; omega) (by have := hmono.2.2; show Me.2.2 + 0 ≤ (Me.2.2 - M.2.2) + M.2.2; omega)
  obtain ⟨hx, hb, hml, hts, hown, hinit, htab, hlocks⟩ := hF
  refine fun v hv pc b i st ad' H locs ls cells slots hend hdg hWd hc hs => ?_
  · obtain ⟨w1, w2, w3, w4, w5⟩ := hWd
    refine W.widen (k := Me.2.1 - M.2.1) (n := Me.2.2 - M.2.2) hc hs (vx_ret ?_)
    generalize (q_row a).2.2.2.1 = rt at hend hr
    have hq : ∀ t : State, t.heap = H → s.WarmedH t.vm → q_Qc D tc A ad M.1.length r Me (q_ts ad as).toArray s (.returned (v.map (q_tv ad'))) t := fun t ht _ => ⟨v, ad', hv, rfl, w1, by rw [ht]; exact w3, w4, w5.F ht⟩
    unfold q_end at hend
    split at hend
    · split at hend
      · cases hend; exact W.vret hx hb hr hq w5.2.2 hdg
      · cases hend
    · split at hend
      · split at hend
        · rename_i hn; cases hend; exact W.zret hx hb hr hn hq w5.2.2 hdg
        · cases hend
      · cases hend
    · split at hend
      · cases hend; exact W.lret hx hb hr hq w5.2.2 hdg
      · cases hend
    · split at hend
      · cases hend; exact W.fret hx hb hr hq w5.2.2 hdg
      · cases hend
    · split at hend
      · cases hend; exact W.dret hx hb hr hq w5.2.2 hdg
      · cases hend
    · split at hend
      · cases hend; exact W.aret hx hb hr (Or.inl ⟨_, rfl⟩) (Or.inr ⟨_, rfl⟩) hq w5.2.2 hdg
      · cases hend
    · cases hend
set_option maxHeartbeats 4000000 in
theorem q_met (IH : q_Sim l D tc A X f) {d a : Nat} {as : List Value} {M Me : q_M} {r : q_O} (h : q_ex X f d a 0 (lv_args 0 as) [] M = some (r, Me)) (hri : ∃ v : Option Value, r = .inl v) (ha : a < q_mt.length) (hne : a ≠ q_law) (hlen : (lg_sl as).length ≤ (q_row a).2.2.1) (hvs : q_vs M.1.length as) (hvM : q_vM M.1) (ad : Nat → Nat) :
    vx_Met l (q_row a).1 (q_cw (q_row a) :: q_Tw) (q_rm d M Me) (q_Pc D tc A ad X as M) (q_Qc D tc A ad M.1.length r Me) q_XC (Me.2.1 - M.2.1) (Me.2.2 - M.2.2) A := by
  have hok := q_mok_row ha hne
  simp only [q_mok, Bool.and_eq_true, decide_eq_true_eq] at hok
  obtain ⟨⟨⟨⟨⟨hpl, hmh⟩, hpar⟩, hmax⟩, hcls⟩, hkind⟩ := hok
  have hfr : ∀ {p : Program} {e : Env} {s : State} {m : MethodId} {args : Array Value} {below : List Frame} {meth : Method} {c : Code} {s₁ : State} (B : BodyLoose p l (q_row a).1 (headSpec (q_cw (q_row a) :: q_Tw) (q_rm d M Me)) (q_row a).2.1 (q_row a).2.2.1 (q_row a).2.2.2.1 e s m args below meth c s₁), c.maxLocals = (q_row a).2.2.1 → c.exceptionTable.toList = tableOf (q_row a).2.2.2.2.1 → q_Fr p s m args meth c a := by
    intro p e s m args below meth c s₁ B hml htab
    have hts := atoms_spec (ws := q_cw (q_row a) :: q_Tw) B.pre
    refine ⟨B.exec, B.bytes, hml, fun w hw => hts w (List.mem_cons_of_mem _ hw), by rw [← hcls]; exact findClass_of_methodNamed B.named, fun hk => ?_, htab, B.notSynchronized⟩
    rw [hk] at hkind
    simp only [Bool.and_eq_true, decide_eq_true_eq] at hkind
    rw [(name_of_methodNamed B.named B.method).1]
    exact hkind.1.1
  by_cases hh : (q_row a).2.2.2.2.1 = []
  · refine vx_ofW (cc := (q_row a).2.1) (maxL := (q_row a).2.2.1) (ret := (q_row a).2.2.2.1) (ws' := q_Tw) hpl (by unfold q_cw; rw [if_pos hh]) ?_
    intro p e s m args below meth c s₁ B hml ht hv
    refine q_body IH h hri hlen hvs hvM ad (hfr B hml ?_) B.returns hv
    rw [hh]
    cases hl : c.exceptionTable.toList with
    | nil => rfl
    | cons z zs => exact (ht z (by rw [hl]; exact List.mem_cons_self)).elim
  · refine vx_ofWH (cc := (q_row a).2.1) (maxL := (q_row a).2.2.1) (ret := (q_row a).2.2.2.1) (hh := (q_row a).2.2.2.2.1) (ws' := q_Tw) hpl (by unfold q_cw; rw [if_neg hh]) ?_
    intro p e s m args below meth c s₁ B hml hv
    refine q_body IH h hri hlen hvs hvM ad (hfr B hml ?_) B.returns hv
    have hts := atoms_spec (ws := q_cw (q_row a) :: q_Tw) B.pre
    have hcw := hts _ List.mem_cons_self
    unfold q_cw at hcw
    rw [if_neg hh] at hcw
    exact vx_table (x := (q_row a).1) B hcw
end QS
end
section
/-! one step of the simulation: calls and handlers -/
theorem q_rcv2 {o : Nat} {as : List Value} {M : List va_E} (h : q_rcv 2 o as M = true) : ∃ (id : Nat) (as' : List Value), as = .ref id :: as' := by
  cases as with
  | nil => cases h
  | cons v as' => cases v <;> first | exact ⟨_, _, rfl⟩ | cases h
theorem q_rcv1 {o : Nat} {as : List Value} {M : List va_E} (h : q_rcv 1 o as M = true) : ∃ (id : Nat) (as' : List Value) (fs : List Value), as = .ref id :: as' ∧ q_at M id = some (.inr (o, fs)) := by
  cases as with
  | nil => cases h
  | cons v as' =>
    cases v with
    | ref id =>
      have h9 : (match q_at M id with | some (.inr (ci, _)) => decide (ci = o) | _ => false) = true := h
      split at h9
      · rename_i ci fs hat
        have := of_decide_eq_true h9
        subst this
        exact ⟨id, as', fs, rfl, hat⟩
      · cases h9
    | _ => cases h
set_option maxRecDepth 20000 in
theorem q_rm_ok {d ml F L : Nat} (h1 : d + 1 + 4 ≤ F) (h2 : 37 * (d + 1) + 120 ≤ L) (h3 : ml ≤ 18) : d + 4 + 1 ≤ F ∧ 8 + (ml + 11) + (37 * d + 120) ≤ L := ⟨by omega, by omega⟩
section QT
variable {l : Launch} {D : va_G} {tc : Nat → ClassId} {A : Nat → Prop} {X : q_X} {f : Nat}
variable {p : Program} {e : Env} {R : Room} {s : State} {m : MethodId} {args : Array Value} {below : List Frame} {meth : Method} {c : Code} {H : Heap} {locs : List Loc} {cells slots : Nat} {Q : State → Prop}
set_option maxHeartbeats 4000000 in
/-- the call itself -/
theorem q_call (IH : q_Sim l D tc A X f) {d' y a pc b : Nat} {i : Instr} {as rest st : List Value} {Mw M' : q_M} {r' : q_O} {ad : Nat → Nat} {ls : Array Slot} (hcall : q_ex X f d' a 0 (lv_args 0 as) [] Mw = some (r', M')) (hri : ∃ v : Option Value, r' = .inl v) (ha : a < q_mt.length) (hne : a ≠ q_law) (ha9 : ¬ 900 ≤ a) (hlen : (lg_sl as).length ≤ (q_row a).2.2.1) (hrcv : q_rcv (q_row a).2.2.2.2.2.1 (q_row a).2.2.2.2.2.2.1 as Mw.1 = true) (hargs : q_args (q_row a).2.2.2.2.2.1 b st = some (as, rest)) (hsum : (rest.map fun v => v.category).sum ≤ 8)
    (hvs : q_vs Mw.1.length as) (hvM : q_vM Mw.1) {idx : Nat} (hinv : q_inv i = some idx) (hdg : decode (q_row y).2.1 pc = .ok (i, q_len i b)) (hlk : q_eok (q_row y).2.2.2.2.2.2.1 (pc, i, a, b) = true) (hF : q_Fr p s m args meth c y) (hsz : ls.size = (q_row y).2.2.1) (hC : q_Cx D tc A ad X s) (hP : va_P D q_cl (q_rz ad tc Mw.1) H) (hD : va_D A (q_rz ad tc Mw.1)) (hS : va_S A s.heap H locs) (hRf : d' + 1 + 4 ≤ R.frames) (hRl : 37 * (d' + 1) + 120 ≤ R.locals) (hc : cells + (M'.2.1 - Mw.2.1) ≤ R.cells ∧ slots + (M'.2.2 - Mw.2.2) ≤ R.slots) :
    ∃ av : Array Value, vx_Run p l e R s m args below meth c H locs cells slots (M'.2.1 - Mw.2.1) (M'.2.2 - Mw.2.2) (F0 m pc ls (q_ts ad st)) (q_ts ad rest) (q_Qc D tc A ad Mw.1.length r' M' av) q_XC A := by
  have hM := q_met IH hcall hri ha hne hlen hvs hvM ad
  obtain ⟨hx, hb, hml, hts, hown, hinit, htab, hlocks⟩ := hF
  have hok := q_mok_row ha hne
  simp only [q_mok, Bool.and_eq_true, decide_eq_true_eq] at hok
  obtain ⟨⟨⟨⟨⟨hpl, hmh⟩, hpar⟩, hmax⟩, hcls⟩, hkind⟩ := hok
  have hmP := q_mP_row ha hne
  have hw := q_ws ha hne
  have hws : ∀ w ∈ q_cw (q_row a) :: q_Tw, ∀ (a' : Array Value) (U : State), s.WarmedH U.vm → w.before a' U = true := fun w h1 a' U hW => word_at hW (q_Tw_good (hw w h1)) (hts w (hw w h1))
  have hcw : (q_cw (q_row a)).before args s = true := hts _ (hw _ List.mem_cons_self)
  have hini : (Cond.initialized (q_row a).1.cls).before args s = true := by
    rcases Classical.em (Cond.initialized (q_row a).1.cls ∈ q_Tw) with h | h
    · exact hts _ h
    · exact absurd (List.mem_filter.mpr ⟨hmP.2.1, rfl⟩) h
  have hspec := q_args_spec hargs
  have hpl2 : ∀ sig, parseMethodDescriptor (q_row a).1.desc = some sig → q_nar[a]? = some sig.parameters.length := by
    intro sig hs
    rw [hs] at hpar
    rw [← hpar]
    rfl
  have hR : d' + 4 + 1 ≤ R.frames ∧ 8 + ((q_row a).2.2.1 + 11) + (37 * d' + 120) ≤ R.locals := q_rm_ok hRf hRl hmax
  have hpc : ∀ U : State, U.heap = H → s.WarmedH U.vm → q_Cx D tc A ad X U ∧ va_P D q_cl (q_rz ad tc Mw.1) U.heap ∧ va_D A (q_rz ad tc Mw.1) := fun U hU hW => ⟨hC.step hW (locs := locs) (by rw [hU]; exact hS), by rw [hU]; exact hP, hD⟩
  have hmn : q_mn a = (q_row a).1 := by
    unfold q_mn
    split <;> first | omega | rfl
  have hsum9 : 2 * (F0 m pc ls (q_ts ad st)).monitorRoom + ((q_ts ad rest).map fun v => v.category).sum ≤ 8 := by
    rw [q_ts_cat]
    show 2 * 0 + _ ≤ 8
    omega
  have hfix : CallFix p m c (q_row y).2.1 (q_row y).2.2.1 s args q_Tw (q_cn (q_row y).2.2.2.2.2.2.1) := ⟨hx, hb, hml, hown, hts⟩
  cases i <;> simp only [q_inv] at hinv <;> try cases hinv
  · -- special
    simp only [q_eok, Bool.and_eq_true, decide_eq_true_eq, if_neg ha9, if_neg (show ¬ a = 999 by omega)] at hlk
    obtain ⟨hlk1, hk, hn⟩ := hlk
    have hlk1 := hts _ (q_ml_mem hlk1)
    rw [hmn] at hlk1
    rw [hk] at hkind hrcv hspec
    simp only [Bool.and_eq_true, decide_eq_true_eq] at hkind
    have hmP3 := hmP.2.2
    rw [hk] at hmP3
    obtain ⟨id, as', rfl⟩ := q_rcv2 hrcv
    refine ⟨_, vx_runI (b := ad id) (As := q_ts ad as') (rest := q_ts ad rest) (n := b) (maxL := (q_row a).2.2.1) (bytes := (q_row a).2.1) hfix hM ⟨⟨rfl, rfl, hR.1, hR.2, hws, ?_, ?_, hini, hmh, fun sig hs => ?_, hlk1⟩, hkind.1.1, hts _ (List.mem_filter.mpr ⟨hmP3, rfl⟩)⟩ ⟨q_Pc_blind, fun U hU hW => ⟨rfl, hpc U hU hW⟩⟩ rfl ?_ hsz ?_ hsum9 hdg hc⟩
    · have e1 : q_cw (q_row a) = Cond.code (q_row a).1 (q_row a).2.1 (q_row a).2.2.1 none := by unfold q_cw; rw [if_pos hkind.1.2, hkind.2]
      rw [← e1]; exact List.mem_cons_self
    · have e1 : q_cw (q_row a) = Cond.code (q_row a).1 (q_row a).2.1 (q_row a).2.2.1 none := by unfold q_cw; rw [if_pos hkind.1.2, hkind.2]
      rw [← e1]; exact hcw
    · have := hpl2 sig hs
      rw [hn] at this
      exact Option.some.inj this
    · have := hspec.2
      simp only [List.length_cons] at this
      show (List.map _ _).length = _
      rw [List.length_map]
      simpa using this
    · show q_ts ad st = _
      rw [hspec.1]
      simp [q_ts, q_tv]
  · -- static
    simp only [q_eok, Bool.and_eq_true, decide_eq_true_eq, if_neg ha9, if_neg (show ¬ a = 999 by omega)] at hlk
    obtain ⟨hlk1, hk, hn⟩ := hlk
    have hlk1 := hts _ (q_ml_mem hlk1)
    rw [hmn] at hlk1
    rw [hk] at hspec
    have hmP3 := hmP.2.2
    rw [hk] at hmP3
    have hstat : (Cond.static (q_row a).1).before args s = true := hts _ (List.mem_filter.mpr ⟨hmP3, rfl⟩)
    have hlen9 : (q_ts ad as).length = b := by
      show (List.map _ _).length = _
      rw [List.length_map, hspec.2, if_pos rfl]
    have hstk : (F0 m pc ls (q_ts ad st)).stack = (q_ts ad as).reverse ++ q_ts ad rest := by
      show q_ts ad st = _
      rw [hspec.1]
      simp [q_ts]
    have hpar9 : ∀ sig, parseMethodDescriptor (q_row a).1.desc = some sig → b = sig.parameters.length := fun sig hs => by
      have := hpl2 sig hs
      rw [hn] at this
      exact Option.some.inj this
    by_cases hh : (q_row a).2.2.2.2.1 = []
    · have e1 : q_cw (q_row a) = Cond.code (q_row a).1 (q_row a).2.1 (q_row a).2.2.1 (q_row a).2.2.2.1 := by unfold q_cw; rw [if_pos hh]
      exact ⟨_, vx_runS (As := q_ts ad as) (rest := q_ts ad rest) (n := b) (ret := (q_row a).2.2.2.1) (maxL := (q_row a).2.2.1) (bytes := (q_row a).2.1) hfix hM ⟨⟨rfl, rfl, hR.1, hR.2, hws, by rw [← e1]; exact List.mem_cons_self, by rw [← e1]; exact hcw, hini, hmh, hpar9, hlk1⟩, hstat⟩ ⟨q_Pc_blind, fun U hU hW => ⟨rfl, hpc U hU hW⟩⟩ rfl hlen9 hsz hstk hsum9 hdg hc⟩
    · have e1 : q_cw (q_row a) = Cond.codeWith (q_row a).1 (q_row a).2.1 (q_row a).2.2.1 (q_row a).2.2.2.1 (q_row a).2.2.2.2.1 := by unfold q_cw; rw [if_neg hh]
      exact ⟨_, vx_runSX (As := q_ts ad as) (rest := q_ts ad rest) (n := b) (ret := (q_row a).2.2.2.1) (maxL := (q_row a).2.2.1) (bytes := (q_row a).2.1) (hh := (q_row a).2.2.2.2.1) hfix hM ⟨⟨rfl, rfl, hR.1, hR.2, hws, by rw [← e1]; exact List.mem_cons_self⟩, by rw [← e1]; exact hcw, hini, hmh, hpar9, hlk1, hstat⟩ ⟨q_Pc_blind, fun U hU hW => ⟨rfl, hpc U hU hW⟩⟩ rfl hlen9 hsz hstk hsum9 hdg hc⟩
  · -- virtual
    simp only [q_eok, Bool.and_eq_true, decide_eq_true_eq, if_neg ha9] at hlk
    obtain ⟨hlk1, hk, hn⟩ := hlk
    have hlk1 := hts _ (q_ml_mem hlk1)
    rw [hmn] at hlk1
    rw [hk] at hkind hrcv hspec
    simp only [Bool.and_eq_true, decide_eq_true_eq] at hkind
    have hmP3 := hmP.2.2
    rw [hk] at hmP3
    have e1 : q_cw (q_row a) = Cond.code (q_row a).1 (q_row a).2.1 (q_row a).2.2.1 (q_row a).2.2.2.1 := by unfold q_cw; rw [if_pos hkind.1]
    obtain ⟨id, as', fs, rfl, hat⟩ := q_rcv1 hrcv
    refine ⟨_, vx_runV (C := (q_row a).1.cls) (b := ad id) (As := q_ts ad as') (rest := q_ts ad rest) (n := b) (ret := (q_row a).2.2.2.1) (maxL := (q_row a).2.2.1) (bytes := (q_row a).2.1) hfix hM ⟨⟨rfl, rfl, hR.1, hR.2, hws, by rw [← e1]; exact List.mem_cons_self, by rw [← e1]; exact hcw, hini, hmh, fun sig hs => ?_, hlk1⟩, hts _ (List.mem_filter.mpr ⟨hmP3.1, rfl⟩), hts _ (List.mem_filter.mpr ⟨hmP3.2, rfl⟩)⟩ ⟨q_Pc_blind, ?_, fun U hU hW => ⟨rfl, hpc U hU hW⟩⟩ rfl ?_ hsz ?_ hsum9 hdg hc⟩
    · have := hpl2 sig hs
      rw [hn] at this
      exact Option.some.inj this
    · have h9 := hP id _ (q_rz_at hat)
      obtain ⟨rr, g1, g2⟩ := h9
      have hlt : (q_row a).2.2.2.2.2.2.1 < 12 := by
        rcases Nat.lt_or_ge (q_row a).2.2.2.2.2.2.1 12 with z | z
        · exact z
        · rw [List.getElem?_eq_none (by exact z)] at g1
          cases g1
      have := va_recv hC.1 hP (q_cl_get hlt) (q_rz_at hat)
      rw [hcls]
      exact this
    · have := hspec.2
      simp only [List.length_cons] at this
      show (List.map _ _).length = _
      rw [List.length_map]
      simpa using this
    · show q_ts ad st = _
      rw [hspec.1]
      simp [q_ts, q_tv]
set_option maxHeartbeats 4000000 in
theorem q_step (IH : q_Sim l D tc A X f)
    (hstr : ∀ (d y pc a b idx : Nat) (p : Program) (e : Env) (R : Room) (s : State) (m : MethodId) (args : Array Value) (below : List Frame) (meth : Method) (c : Code) (Q : State → Prop) (ad : Nat → Nat) (H : Heap) (locs : List Loc) (ls : Array Slot) (cells slots : Nat), q_Fr p s m args meth c y → q_Cx D tc A ad X s → d + 4 ≤ R.frames → 37 * d + 120 ≤ R.locals → cells ≤ R.cells → slots ≤ R.slots → ls.size = c.maxLocals → va_S A s.heap H locs → decode (q_row y).2.1 pc = .ok (.invokevirtual idx, 3) → Cond.methodLink (q_cn (q_row y).2.2.2.2.2.2.1) idx (q_mn a) ∈ q_Tw →
      ∀ (j : Nat) (r : List Value), j < q_sc.length → (r.map fun v => v.category).sum ≤ 16 → (a = 900 → W p l e R s m args below meth c H locs cells slots Q (F0 m (pc + 3) ls (.int (Int32.ofNat (q_sc.getD j default).2.2.2.length) :: r)) → W p l e R s m args below meth c H locs cells slots Q (F0 m pc ls (.ref (ad (q_big + 1 + j)) :: r))) ∧
        (∀ k : Int32, ¬ (k < 0 ∨ (q_sc.getD j default).2.2.2.length ≤ k.toNatClampNeg) → a = 901 → W p l e R s m args below meth c H locs cells slots Q (F0 m (pc + 3) ls (.int ((q_sc.getD j default).2.2.2.getD k.toNatClampNeg 0) :: r)) → W p l e R s m args below meth c H locs cells slots Q (F0 m pc ls (.int k :: .ref (ad (q_big + 1 + j)) :: r)))) : q_Sim l D tc A X (f + 1) := by
  intro d y pc lv st Mw r Me h hri hV p e R s m args below meth c Q ad0 n0 hF hC0 hRf hRl hE ad H locs ls cells slots hWd hl hc hs
  rw [q_ex] at h
  split at h
  · cases h
  · rename_i i a b hins
    obtain ⟨hdg, hlk, hbr⟩ := q_at_ok hins
    obtain ⟨w1, w2, hP, hD, hS⟩ := id hWd
    have hC : q_Cx D tc A ad X s := hC0.ag w1
    obtain ⟨hx, hb, hml, hts, hown, hinit, htab, hlocks⟩ := id hF
    obtain ⟨hK, hZ, ⟨hX, hbl, hbA⟩, hAO, hA, hSx⟩ := id hC
    split at h
    · rename_i v hend
      cases h
      exact hE v rfl pc b i st ad H locs ls cells slots hend hdg hWd (by omega) (by omega)
    · split at h
      · rename_i pc' lv' st' M' hstp
        obtain ⟨v1, v2⟩ := q_stp_v hstp hV
        have v3 := (q_ex_v X f d y pc' lv' st' M' r Me h v1).2.1
        have a1 := v3.2.1
        have a2 := v3.2.2
        refine q_stp_ok hx hb hstp hdg hts hlk hbr hown (fun hz => hinit (by simpa using hz)) hZ hK hP hD hS hA hX hbl hbA hAO hV.2.2 hV.2.1 hV.1 hl (by omega) (by omega) (fun ad' H1 locs1 ls' cells' slots' hag e1 e2 hl' g1 g2 g3 => ?_)
        exact IH d y pc' lv' st' M' r Me h hri v1 p e R s m args below meth c Q ad0 n0 hF hC0 hRf hRl hE ad' H1 locs1 ls' cells' slots' ⟨w1.trans hag w2, Nat.le_trans w2 v2.1, g1, g2, g3⟩ hl' (by omega) (by omega)
      · split at h
        · rename_i idx hnew
          split at h
          · rename_i hcond
            obtain ⟨E, hEx, hz⟩ := Option.map_eq_some_iff.mp h
            cases hz
            obtain ⟨v, hv⟩ := hri
            cases hv
          · cases h
        · split at h
          · cases h
          · rename_i idx hinv
            split at h
            · rename_i ha9
              split at h
              · rename_i st' M' hj
                split at h
                · rename_i hcond
                  obtain ⟨j1, j2, j3⟩ := q_jdk_v hj hV.2.2 hV.2.1
                  have v1 : q_V lv st' (M', Mw.2) := ⟨fun q hq => by dsimp only; rw [j2]; exact hV.1 q hq, fun v hv => by dsimp only; rw [j2]; exact j3 v hv, j1⟩
                  have v3 := (q_ex_v X f d y (pc + 3) lv st' (M', Mw.2) r Me h v1).2.1
                  have a1 := v3.2.1
                  have a2 := v3.2.2
                  dsimp only at a1 a2
                  have hk9 : Cond.methodLink (q_cn (q_row y).2.2.2.2.2.2.1) idx (q_mn a) ∈ q_Tw ∧ ((i = .invokestatic idx ∧ a ∈ [910, 911, 912, 913]) ∨ (i = .invokevirtual idx ∧ a ∈ [900, 901]) ∨ (i = .invokespecial idx ∧ a = 914)) := by
                    refine q_eok_jdk (b := b) (pc := pc) ?_ ha9 hcond.2
                    unfold q_inv at hinv
                    split at hinv
                    · cases hinv; exact Or.inl ⟨hlk, rfl⟩
                    · cases hinv; exact Or.inr (Or.inl ⟨hlk, rfl⟩)
                    · cases hinv; exact Or.inr (Or.inr ⟨hlk, rfl, hcond.2⟩)
                    · cases hinv
                  have hdg3 : decode (q_row y).2.1 pc = .ok (i, 3) := by
                    rcases hk9.2 with ⟨z, _⟩ | ⟨z, _⟩ | ⟨z, _⟩ <;> (rw [z] at hdg ⊢; exact hdg)
                  refine q_jdk_ok hx hb hj hk9 hdg3 hts hown (hml.trans hl.1.symm) hK hP hD hS (by omega) (by omega) (by omega) (by omega) hcond.1 (fun j r9 hjl hr9 => ⟨fun hi ha0 hk0 => ?_, fun k9 hk9' hi ha0 hk0 => ?_⟩) (fun H1 locs1 g1 g2 g3 => ?_)
                  · exact (hstr d y pc a b idx p e R s m args below meth c Q ad H locs ls cells slots hF hC hRf hRl (by omega) (by omega) (hl.1.trans hml.symm) hS (by rw [hi] at hdg3; exact hdg3) hk9.1 j (q_ts ad r9) hjl (by rw [q_ts_cat]; exact hr9)).1 ha0 hk0
                  · exact (hstr d y pc a b idx p e R s m args below meth c Q ad H locs ls cells slots hF hC hRf hRl (by omega) (by omega) (hl.1.trans hml.symm) hS (by rw [hi] at hdg3; exact hdg3) hk9.1 j (q_ts ad r9) hjl (by rw [q_ts_cat]; exact hr9)).2 k9 hk9' ha0 hk0
                  · exact IH d y (pc + 3) lv st' (M', Mw.2) r Me h hri v1 p e R s m args below meth c Q ad0 n0 hF hC0 hRf hRl hE ad H1 locs1 ls cells slots ⟨w1, by dsimp only; rw [j2]; exact w2, g1, g2, g3⟩ hl hc hs
                · cases h
              · cases h
            · rename_i ha9
              split at h
              · rename_i d' as rest hargs
                split at h
                · rename_i hcond
                  obtain ⟨c1, c2, c3, c4, c5⟩ := hcond
                  obtain ⟨u1, u2⟩ := q_args_v hargs hV.2.1
                  split at h
                  · rename_i v M' hcall
                    obtain ⟨x1, x2, x3⟩ := q_ex_v X f d' a 0 _ _ _ _ _ hcall ⟨q_lva_v as 0 u1, q_vs_nil, hV.2.2⟩
                    have hvv : q_vs M'.1.length v.toList := by
                      cases v with
                      | none => exact q_vs_nil
                      | some v => exact q_vs_c.mpr ⟨x3 v rfl, q_vs_nil⟩
                    have v1 : q_V lv (v.toList ++ rest) M' := ⟨hV.1.mono x2.1, q_vs_app hvv (u2.mono x2.1), x1⟩
                    have v3 := (q_ex_v X f (d' + 1) y (pc + 3) lv _ M' r Me h v1).2.1
                    have a1 := v3.2.1
                    have a2 := v3.2.2
                    have b1 := x2.2.1
                    have b2 := x2.2.2
                    obtain ⟨av, hrun⟩ := q_call (e := e) (below := below) (R := R) (cells := cells) (slots := slots) IH hcall ⟨v, rfl⟩ c2 c3 ha9 c4 c5 hargs c1 u1 hV.2.2 hinv hdg hlk hF hl.1 hC hP hD hS hRf hRl ⟨by omega, by omega⟩
                    intro T hT XS
                    rcases hrun T hT XS with ⟨v', st₀, t, T', L, h0, X', hL, e1, e2, ⟨v0, ad', hrv, hov, hag, hP', hD', hFr⟩, hgo⟩ | ⟨q, st₀, t, T', L, E, ce, h0, X', hL, e1, e2, hno, hce, hcv, hcl, hgo⟩
                    · cases hrv
                      cases hov
                      obtain ⟨k1, k2, k3⟩ := vx_keep h0 e1 hS (fun _ _ z => z) (fun _ z => z) hL hFr
                      have hag2 : q_ag n0 ad0 ad' := w1.trans hag w2
                      have hw := IH (d' + 1) y (pc + 3) lv _ M' r Me h hri v1 p e R s m args below meth c Q ad0 n0 hF hC0 hRf hRl hE ad' T'.heap (locs ++ L) ls (cells + (M'.2.1 - Mw.2.1)) (slots + (M'.2.2 - Mw.2.2)) ⟨hag2, Nat.le_trans w2 x2.1, by rw [e1]; exact hP', hD', k3⟩ (by rw [q_tl_ag hag hV.1]; exact hl) (by omega) (by omega)
                      have e9 : q_ts ad' (v.toList ++ rest) = (v.map (q_tv ad')).toList ++ q_ts ad rest := by
                        have : q_ts ad' rest = q_ts ad rest := q_ts_ag hag u2
                        rw [← this]
                        cases v <;> simp [q_ts]
                      rw [e9] at hw
                      obtain ⟨t2, y1, y2⟩ := hw T' rfl X'
                      exact ⟨t2, hgo t2 y1, y2⟩
                    · exact hno.elim
                  · rename_i E M' hcall
                    obtain ⟨v, hv⟩ := hri
                    rw [q_hh (q_ins_lt hins)] at h
                    simp only [q_hd] at h
                    rw [if_pos rfl] at h
                    subst hv
                    cases h
                  · cases h
                · cases h
              · cases h
end QT
end
