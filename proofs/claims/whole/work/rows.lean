section
-- ===== PART A: goes FIRST, ahead of the names: the tables' words, and 'selects' of the private methods out of them =====
/-- a private method of a class that the tables say can be made, by its rows of tables_1 -/
def lw_okq (q : MethodName × Nat) : Prop := (q.1.cls ≠ "java/lang/invoke/MethodHandle" ∧ q.1.cls ≠ "java/lang/invoke/VarHandle") ∧ Cond.instantiable q.1.cls q.2 ∈ tables_1 ∧ Cond.privateMethod q.1 ∈ tables_1 ∧ Cond.instanceMethod q.1 ∈ tables_1
theorem lw_p0 : lw_okq (⟨"CoatPockets$Reader", "readCoat", "(LCoatPockets$Tape;)Z"⟩, 4) := ⟨⟨by decide +kernel, by decide +kernel⟩, List.mem_of_getElem? (i := 136) (by decide +kernel), List.mem_of_getElem? (i := 350) (by decide +kernel), List.mem_of_getElem? (i := 351) (by decide +kernel)⟩
theorem lw_p1 : lw_okq (⟨"CoatPockets$Reader", "readAct", "(LCoatPockets$Tape;LCoatPockets$State;)Z"⟩, 4) := ⟨⟨by decide +kernel, by decide +kernel⟩, List.mem_of_getElem? (i := 136) (by decide +kernel), List.mem_of_getElem? (i := 403) (by decide +kernel), List.mem_of_getElem? (i := 404) (by decide +kernel)⟩
theorem lw_p2 : lw_okq (⟨"CoatPockets$Reader", "readWay", "(LCoatPockets$Tape;LCoatPockets$State;I)Z"⟩, 4) := ⟨⟨by decide +kernel, by decide +kernel⟩, List.mem_of_getElem? (i := 136) (by decide +kernel), List.mem_of_getElem? (i := 407) (by decide +kernel), List.mem_of_getElem? (i := 408) (by decide +kernel)⟩
theorem lw_p3 : lw_okq (⟨"CoatPockets$Reader", "doAct", "(LCoatPockets$State;)I"⟩, 4) := ⟨⟨by decide +kernel, by decide +kernel⟩, List.mem_of_getElem? (i := 136) (by decide +kernel), List.mem_of_getElem? (i := 415) (by decide +kernel), List.mem_of_getElem? (i := 416) (by decide +kernel)⟩
theorem lw_p4 : lw_okq (⟨"CoatPockets$State", "change", "(II)I"⟩, 5) := ⟨⟨by decide +kernel, by decide +kernel⟩, List.mem_of_getElem? (i := 23) (by decide +kernel), List.mem_of_getElem? (i := 453) (by decide +kernel), List.mem_of_getElem? (i := 454) (by decide +kernel)⟩
theorem lw_p5 : lw_okq (⟨"CoatPockets$State", "drawsBelow", "(I)Z"⟩, 5) := ⟨⟨by decide +kernel, by decide +kernel⟩, List.mem_of_getElem? (i := 23) (by decide +kernel), List.mem_of_getElem? (i := 457) (by decide +kernel), List.mem_of_getElem? (i := 458) (by decide +kernel)⟩
theorem lw_p6 : lw_okq (⟨"CoatPockets$Ways", "start", "(II)V"⟩, 6) := ⟨⟨by decide +kernel, by decide +kernel⟩, List.mem_of_getElem? (i := 158) (by decide +kernel), List.mem_of_getElem? (i := 513) (by decide +kernel), List.mem_of_getElem? (i := 514) (by decide +kernel)⟩
theorem lw_p7 : lw_okq (⟨"CoatPockets$Ways", "spread", "()V"⟩, 6) := ⟨⟨by decide +kernel, by decide +kernel⟩, List.mem_of_getElem? (i := 158) (by decide +kernel), List.mem_of_getElem? (i := 517) (by decide +kernel), List.mem_of_getElem? (i := 518) (by decide +kernel)⟩
theorem lw_p8 : lw_okq (⟨"CoatPockets$Ways", "ring", "()V"⟩, 6) := ⟨⟨by decide +kernel, by decide +kernel⟩, List.mem_of_getElem? (i := 158) (by decide +kernel), List.mem_of_getElem? (i := 522) (by decide +kernel), List.mem_of_getElem? (i := 523) (by decide +kernel)⟩
theorem lw_p9 : lw_okq (⟨"CoatPockets$Ways", "bellsTo", "(II)I"⟩, 6) := ⟨⟨by decide +kernel, by decide +kernel⟩, List.mem_of_getElem? (i := 158) (by decide +kernel), List.mem_of_getElem? (i := 535) (by decide +kernel), List.mem_of_getElem? (i := 536) (by decide +kernel)⟩
theorem lw_p10 : lw_okq (⟨"CoatPockets$Coats", "swap", "(II)V"⟩, 5) := ⟨⟨by decide +kernel, by decide +kernel⟩, List.mem_of_getElem? (i := 29) (by decide +kernel), List.mem_of_getElem? (i := 555) (by decide +kernel), List.mem_of_getElem? (i := 556) (by decide +kernel)⟩
theorem lw_p11 : lw_okq (⟨"CoatPockets$Ledger", "mostSets", "(I)I"⟩, 4) := ⟨⟨by decide +kernel, by decide +kernel⟩, List.mem_of_getElem? (i := 186) (by decide +kernel), List.mem_of_getElem? (i := 597) (by decide +kernel), List.mem_of_getElem? (i := 598) (by decide +kernel)⟩
theorem lw_p12 : lw_okq (⟨"CoatPockets$Ledger", "addDebt", "(III)Z"⟩, 4) := ⟨⟨by decide +kernel, by decide +kernel⟩, List.mem_of_getElem? (i := 186) (by decide +kernel), List.mem_of_getElem? (i := 640) (by decide +kernel), List.mem_of_getElem? (i := 641) (by decide +kernel)⟩
theorem lw_p13 : lw_okq (⟨"CoatPocketsModel", "isThing", "(I)Z"⟩, 33) := ⟨⟨by decide +kernel, by decide +kernel⟩, List.mem_of_getElem? (i := 674) (by decide +kernel), List.mem_of_getElem? (i := 804) (by decide +kernel), List.mem_of_getElem? (i := 805) (by decide +kernel)⟩
theorem lw_p14 : lw_okq (⟨"CoatPocketsModel", "isCoat", "(I)Z"⟩, 33) := ⟨⟨by decide +kernel, by decide +kernel⟩, List.mem_of_getElem? (i := 674) (by decide +kernel), List.mem_of_getElem? (i := 817) (by decide +kernel), List.mem_of_getElem? (i := 818) (by decide +kernel)⟩
theorem lw_p15 : lw_okq (⟨"CoatPocketsModel", "wearer", "(II)I"⟩, 33) := ⟨⟨by decide +kernel, by decide +kernel⟩, List.mem_of_getElem? (i := 674) (by decide +kernel), List.mem_of_getElem? (i := 822) (by decide +kernel), List.mem_of_getElem? (i := 823) (by decide +kernel)⟩
def lw_privs_1 : List (MethodName × Nat) := [(⟨"CoatPockets$Reader", "readCoat", "(LCoatPockets$Tape;)Z"⟩, 4), (⟨"CoatPockets$Reader", "readAct", "(LCoatPockets$Tape;LCoatPockets$State;)Z"⟩, 4), (⟨"CoatPockets$Reader", "readWay", "(LCoatPockets$Tape;LCoatPockets$State;I)Z"⟩, 4), (⟨"CoatPockets$Reader", "doAct", "(LCoatPockets$State;)I"⟩, 4), (⟨"CoatPockets$State", "change", "(II)I"⟩, 5), (⟨"CoatPockets$State", "drawsBelow", "(I)Z"⟩, 5), (⟨"CoatPockets$Ways", "start", "(II)V"⟩, 6), (⟨"CoatPockets$Ways", "spread", "()V"⟩, 6), (⟨"CoatPockets$Ways", "ring", "()V"⟩, 6), (⟨"CoatPockets$Ways", "bellsTo", "(II)I"⟩, 6), (⟨"CoatPockets$Coats", "swap", "(II)V"⟩, 5), (⟨"CoatPockets$Ledger", "mostSets", "(I)I"⟩, 4), (⟨"CoatPockets$Ledger", "addDebt", "(III)Z"⟩, 4), (⟨"CoatPocketsModel", "isThing", "(I)Z"⟩, 33), (⟨"CoatPocketsModel", "isCoat", "(I)Z"⟩, 33), (⟨"CoatPocketsModel", "wearer", "(II)I"⟩, 33)]
theorem lw_r1 : ∀ q ∈ lw_privs_1, lw_okq q := List.forall_mem_cons.mpr ⟨lw_p0, List.forall_mem_cons.mpr ⟨lw_p1, List.forall_mem_cons.mpr ⟨lw_p2, List.forall_mem_cons.mpr ⟨lw_p3, List.forall_mem_cons.mpr ⟨lw_p4, List.forall_mem_cons.mpr ⟨lw_p5, List.forall_mem_cons.mpr ⟨lw_p6, List.forall_mem_cons.mpr ⟨lw_p7, List.forall_mem_cons.mpr ⟨lw_p8, List.forall_mem_cons.mpr ⟨lw_p9, List.forall_mem_cons.mpr ⟨lw_p10, List.forall_mem_cons.mpr ⟨lw_p11, List.forall_mem_cons.mpr ⟨lw_p12, List.forall_mem_cons.mpr ⟨lw_p13, List.forall_mem_cons.mpr ⟨lw_p14, List.forall_mem_cons.mpr ⟨lw_p15, fun _ h => absurd h List.not_mem_nil⟩⟩⟩⟩⟩⟩⟩⟩⟩⟩⟩⟩⟩⟩⟩⟩
theorem lw_p16 : lw_okq (⟨"CoatPocketsModel", "thingsAt", "(I)I"⟩, 33) := ⟨⟨by decide +kernel, by decide +kernel⟩, List.mem_of_getElem? (i := 674) (by decide +kernel), List.mem_of_getElem? (i := 826) (by decide +kernel), List.mem_of_getElem? (i := 827) (by decide +kernel)⟩
theorem lw_p17 : lw_okq (⟨"CoatPocketsModel", "readSchool", "()Z"⟩, 33) := ⟨⟨by decide +kernel, by decide +kernel⟩, List.mem_of_getElem? (i := 674) (by decide +kernel), List.mem_of_getElem? (i := 853) (by decide +kernel), List.mem_of_getElem? (i := 854) (by decide +kernel)⟩
theorem lw_p18 : lw_okq (⟨"CoatPocketsModel", "readCoat", "(I)Z"⟩, 33) := ⟨⟨by decide +kernel, by decide +kernel⟩, List.mem_of_getElem? (i := 674) (by decide +kernel), List.mem_of_getElem? (i := 857) (by decide +kernel), List.mem_of_getElem? (i := 858) (by decide +kernel)⟩
theorem lw_p19 : lw_okq (⟨"CoatPocketsModel", "nextByte", "()I"⟩, 33) := ⟨⟨by decide +kernel, by decide +kernel⟩, List.mem_of_getElem? (i := 674) (by decide +kernel), List.mem_of_getElem? (i := 861) (by decide +kernel), List.mem_of_getElem? (i := 862) (by decide +kernel)⟩
theorem lw_p20 : lw_okq (⟨"CoatPocketsModel", "readDigit", "(I)I"⟩, 33) := ⟨⟨by decide +kernel, by decide +kernel⟩, List.mem_of_getElem? (i := 674) (by decide +kernel), List.mem_of_getElem? (i := 870) (by decide +kernel), List.mem_of_getElem? (i := 871) (by decide +kernel)⟩
theorem lw_p21 : lw_okq (⟨"CoatPocketsModel", "readDay", "()Z"⟩, 33) := ⟨⟨by decide +kernel, by decide +kernel⟩, List.mem_of_getElem? (i := 674) (by decide +kernel), List.mem_of_getElem? (i := 878) (by decide +kernel), List.mem_of_getElem? (i := 879) (by decide +kernel)⟩
theorem lw_p22 : lw_okq (⟨"CoatPocketsModel", "readAct", "(I)Z"⟩, 33) := ⟨⟨by decide +kernel, by decide +kernel⟩, List.mem_of_getElem? (i := 674) (by decide +kernel), List.mem_of_getElem? (i := 882) (by decide +kernel), List.mem_of_getElem? (i := 883) (by decide +kernel)⟩
theorem lw_p23 : lw_okq (⟨"CoatPocketsModel", "does", "(I)Z"⟩, 33) := ⟨⟨by decide +kernel, by decide +kernel⟩, List.mem_of_getElem? (i := 674) (by decide +kernel), List.mem_of_getElem? (i := 886) (by decide +kernel), List.mem_of_getElem? (i := 887) (by decide +kernel)⟩
theorem lw_p24 : lw_okq (⟨"CoatPocketsModel", "come", "(II)V"⟩, 33) := ⟨⟨by decide +kernel, by decide +kernel⟩, List.mem_of_getElem? (i := 674) (by decide +kernel), List.mem_of_getElem? (i := 894) (by decide +kernel), List.mem_of_getElem? (i := 895) (by decide +kernel)⟩
theorem lw_p25 : lw_okq (⟨"CoatPocketsModel", "wearsAny", "(I)Z"⟩, 33) := ⟨⟨by decide +kernel, by decide +kernel⟩, List.mem_of_getElem? (i := 674) (by decide +kernel), List.mem_of_getElem? (i := 910) (by decide +kernel), List.mem_of_getElem? (i := 911) (by decide +kernel)⟩
theorem lw_p26 : lw_okq (⟨"CoatPocketsModel", "ring", "(II)Z"⟩, 33) := ⟨⟨by decide +kernel, by decide +kernel⟩, List.mem_of_getElem? (i := 674) (by decide +kernel), List.mem_of_getElem? (i := 918) (by decide +kernel), List.mem_of_getElem? (i := 919) (by decide +kernel)⟩
theorem lw_p27 : lw_okq (⟨"CoatPocketsModel", "begin", "(I)V"⟩, 33) := ⟨⟨by decide +kernel, by decide +kernel⟩, List.mem_of_getElem? (i := 674) (by decide +kernel), List.mem_of_getElem? (i := 936) (by decide +kernel), List.mem_of_getElem? (i := 937) (by decide +kernel)⟩
theorem lw_p28 : lw_okq (⟨"CoatPocketsModel", "closeAll", "(II)V"⟩, 33) := ⟨⟨by decide +kernel, by decide +kernel⟩, List.mem_of_getElem? (i := 674) (by decide +kernel), List.mem_of_getElem? (i := 940) (by decide +kernel), List.mem_of_getElem? (i := 941) (by decide +kernel)⟩
theorem lw_p29 : lw_okq (⟨"CoatPocketsModel", "close", "(II)V"⟩, 33) := ⟨⟨by decide +kernel, by decide +kernel⟩, List.mem_of_getElem? (i := 674) (by decide +kernel), List.mem_of_getElem? (i := 944) (by decide +kernel), List.mem_of_getElem? (i := 945) (by decide +kernel)⟩
theorem lw_p30 : lw_okq (⟨"CoatPocketsModel", "ringOn", "(II)V"⟩, 33) := ⟨⟨by decide +kernel, by decide +kernel⟩, List.mem_of_getElem? (i := 674) (by decide +kernel), List.mem_of_getElem? (i := 948) (by decide +kernel), List.mem_of_getElem? (i := 949) (by decide +kernel)⟩
theorem lw_p31 : lw_okq (⟨"CoatPocketsModel", "findSoonest", "(III)I"⟩, 33) := ⟨⟨by decide +kernel, by decide +kernel⟩, List.mem_of_getElem? (i := 674) (by decide +kernel), List.mem_of_getElem? (i := 956) (by decide +kernel), List.mem_of_getElem? (i := 957) (by decide +kernel)⟩
def lw_privs_2 : List (MethodName × Nat) := [(⟨"CoatPocketsModel", "thingsAt", "(I)I"⟩, 33), (⟨"CoatPocketsModel", "readSchool", "()Z"⟩, 33), (⟨"CoatPocketsModel", "readCoat", "(I)Z"⟩, 33), (⟨"CoatPocketsModel", "nextByte", "()I"⟩, 33), (⟨"CoatPocketsModel", "readDigit", "(I)I"⟩, 33), (⟨"CoatPocketsModel", "readDay", "()Z"⟩, 33), (⟨"CoatPocketsModel", "readAct", "(I)Z"⟩, 33), (⟨"CoatPocketsModel", "does", "(I)Z"⟩, 33), (⟨"CoatPocketsModel", "come", "(II)V"⟩, 33), (⟨"CoatPocketsModel", "wearsAny", "(I)Z"⟩, 33), (⟨"CoatPocketsModel", "ring", "(II)Z"⟩, 33), (⟨"CoatPocketsModel", "begin", "(I)V"⟩, 33), (⟨"CoatPocketsModel", "closeAll", "(II)V"⟩, 33), (⟨"CoatPocketsModel", "close", "(II)V"⟩, 33), (⟨"CoatPocketsModel", "ringOn", "(II)V"⟩, 33), (⟨"CoatPocketsModel", "findSoonest", "(III)I"⟩, 33)]
theorem lw_r2 : ∀ q ∈ lw_privs_2, lw_okq q := List.forall_mem_cons.mpr ⟨lw_p16, List.forall_mem_cons.mpr ⟨lw_p17, List.forall_mem_cons.mpr ⟨lw_p18, List.forall_mem_cons.mpr ⟨lw_p19, List.forall_mem_cons.mpr ⟨lw_p20, List.forall_mem_cons.mpr ⟨lw_p21, List.forall_mem_cons.mpr ⟨lw_p22, List.forall_mem_cons.mpr ⟨lw_p23, List.forall_mem_cons.mpr ⟨lw_p24, List.forall_mem_cons.mpr ⟨lw_p25, List.forall_mem_cons.mpr ⟨lw_p26, List.forall_mem_cons.mpr ⟨lw_p27, List.forall_mem_cons.mpr ⟨lw_p28, List.forall_mem_cons.mpr ⟨lw_p29, List.forall_mem_cons.mpr ⟨lw_p30, List.forall_mem_cons.mpr ⟨lw_p31, fun _ h => absurd h List.not_mem_nil⟩⟩⟩⟩⟩⟩⟩⟩⟩⟩⟩⟩⟩⟩⟩⟩
theorem lw_p32 : lw_okq (⟨"CoatPocketsModel", "nextOrder", "(I)Z"⟩, 33) := ⟨⟨by decide +kernel, by decide +kernel⟩, List.mem_of_getElem? (i := 674) (by decide +kernel), List.mem_of_getElem? (i := 965) (by decide +kernel), List.mem_of_getElem? (i := 966) (by decide +kernel)⟩
theorem lw_p33 : lw_okq (⟨"CoatPocketsModel", "balanceOf", "(I)I"⟩, 33) := ⟨⟨by decide +kernel, by decide +kernel⟩, List.mem_of_getElem? (i := 674) (by decide +kernel), List.mem_of_getElem? (i := 985) (by decide +kernel), List.mem_of_getElem? (i := 986) (by decide +kernel)⟩
theorem lw_p34 : lw_okq (⟨"CoatPocketsModel", "carried", "(IIZ)I"⟩, 33) := ⟨⟨by decide +kernel, by decide +kernel⟩, List.mem_of_getElem? (i := 674) (by decide +kernel), List.mem_of_getElem? (i := 1002) (by decide +kernel), List.mem_of_getElem? (i := 1003) (by decide +kernel)⟩
theorem lw_p35 : lw_okq (⟨"CoatPocketsModel", "lacksRow", "(IIII)I"⟩, 33) := ⟨⟨by decide +kernel, by decide +kernel⟩, List.mem_of_getElem? (i := 674) (by decide +kernel), List.mem_of_getElem? (i := 1025) (by decide +kernel), List.mem_of_getElem? (i := 1026) (by decide +kernel)⟩
def lw_privs_3 : List (MethodName × Nat) := [(⟨"CoatPocketsModel", "nextOrder", "(I)Z"⟩, 33), (⟨"CoatPocketsModel", "balanceOf", "(I)I"⟩, 33), (⟨"CoatPocketsModel", "carried", "(IIZ)I"⟩, 33), (⟨"CoatPocketsModel", "lacksRow", "(IIII)I"⟩, 33)]
theorem lw_r3 : ∀ q ∈ lw_privs_3, lw_okq q := List.forall_mem_cons.mpr ⟨lw_p32, List.forall_mem_cons.mpr ⟨lw_p33, List.forall_mem_cons.mpr ⟨lw_p34, List.forall_mem_cons.mpr ⟨lw_p35, fun _ h => absurd h List.not_mem_nil⟩⟩⟩⟩
def lw_privs : List (MethodName × Nat) := lw_privs_1 ++ (lw_privs_2 ++ (lw_privs_3))
def lw_tbl : List Cond := k2_sels lw_privs ++ tables_1
theorem lw_privs_ok : ∀ q ∈ lw_privs, lw_okq q := by
  show ∀ q ∈ lw_privs_1 ++ (lw_privs_2 ++ (lw_privs_3)), lw_okq q
  exact List.forall_mem_append.mpr ⟨lw_r1, List.forall_mem_append.mpr ⟨lw_r2, lw_r3⟩⟩
-- ===== end of PART A; then your names; then what follows =====
/-! ===== BEGIN words of one list among another's, by their places ===== -/
/-! ===== END ===== -/

/-! ===== BEGIN printed: names, fields, word lists, decode rows ===== -/
def RX0 : String := "CoatPockets$Coats"
def TX0 : u_T := fun k => match k with
  | 0 => ("CoatPockets$Coats", "many", "I", false)
  | 1 => ("CoatPockets$Coats", "boys", "[I", true)
  | 2 => ("CoatPockets$Coats", "sizes", "[I", true)
  | 3 => ("CoatPockets$Coats", "turns", "[I", true)
  | _ => ("CoatPockets$Coats", "holes", "[I", true)
def tyX0 : Nat → FieldType := fun k => match k with
  | 0 => .int
  | 1 => .array .int
  | 2 => .array .int
  | 3 => .array .int
  | _ => .array .int
abbrev wsX00 : List Cond := u_ws RX0 TX0 5
theorem nmX0 : ∀ a, a < 5 → ∀ b, b < 5 → a ≠ b → (TX0 a).2.1 ≠ (TX0 b).2.1 := by decide +kernel
theorem tyX0_ok : ∀ k, k < 5 → parseFieldDescriptor (TX0 k).2.2.1 = some (tyX0 k) := by decide +kernel
abbrev cX0_init : ByteArray := prog_2_method_1_code
def yX0_init : MethodName := ⟨RX0, "<init>", "()V"⟩
abbrev cX0_become : ByteArray := prog_2_method_2_code
def yX0_become : MethodName := ⟨RX0, "become", "(LCoatPockets$Coats;)V"⟩
abbrev cX0_has : ByteArray := prog_2_method_3_code
def yX0_has : MethodName := ⟨RX0, "has", "(I)Z"⟩
abbrev cX0_open : ByteArray := prog_2_method_4_code
def yX0_open : MethodName := ⟨RX0, "open", "()V"⟩
abbrev cX0_join : ByteArray := prog_2_method_5_code
def yX0_join : MethodName := ⟨RX0, "join", "(I)V"⟩
abbrev cX0_close : ByteArray := prog_2_method_6_code
def yX0_close : MethodName := ⟨RX0, "close", "(I)V"⟩
abbrev cX0_wearer : ByteArray := prog_2_method_7_code
def yX0_wearer : MethodName := ⟨RX0, "wearer", "(I)I"⟩
abbrev cX0_boyOfTurn : ByteArray := prog_2_method_8_code
def yX0_boyOfTurn : MethodName := ⟨RX0, "boyOfTurn", "(II)I"⟩
abbrev cX0_anyOn : ByteArray := prog_2_method_9_code
def yX0_anyOn : MethodName := ⟨RX0, "anyOn", "(I)Z"⟩
abbrev cX0_turnAll : ByteArray := prog_2_method_10_code
def yX0_turnAll : MethodName := ⟨RX0, "turnAll", "()V"⟩
abbrev cX0_wearers : ByteArray := prog_2_method_11_code
def yX0_wearers : MethodName := ⟨RX0, "wearers", "(II)I"⟩
abbrev cX0_sortTurn : ByteArray := prog_2_method_12_code
def yX0_sortTurn : MethodName := ⟨RX0, "sortTurn", "(I)V"⟩
abbrev cX0_nextOrder : ByteArray := prog_2_method_13_code
def yX0_nextOrder : MethodName := ⟨RX0, "nextOrder", "(I)Z"⟩
abbrev cX0_swap : ByteArray := prog_2_method_14_code
def yX0_swap : MethodName := ⟨RX0, "swap", "(II)V"⟩
def RX1 : String := "CoatPockets$Ledger"
def TX1 : u_T := fun k => match k with
  | 0 => ("CoatPockets$Ledger", "trial", "[I", true)
  | 1 => ("CoatPockets$Ledger", "open", "[I", true)
  | 2 => ("CoatPockets$Ledger", "sums", "[I", true)
  | _ => ("CoatPockets$Ledger", "most", "[I", true)
def tyX1 : Nat → FieldType := fun k => match k with
  | 0 => .array .int
  | 1 => .array .int
  | 2 => .array .int
  | _ => .array .int
abbrev wsX10 : List Cond := u_ws RX1 TX1 4
theorem nmX1 : ∀ a, a < 4 → ∀ b, b < 4 → a ≠ b → (TX1 a).2.1 ≠ (TX1 b).2.1 := by decide +kernel
theorem tyX1_ok : ∀ k, k < 4 → parseFieldDescriptor (TX1 k).2.2.1 = some (tyX1 k) := by decide +kernel
abbrev cX1_init : ByteArray := prog_3_method_1_code
def yX1_init : MethodName := ⟨RX1, "<init>", "()V"⟩
abbrev cX1_addDebts : ByteArray := prog_3_method_2_code
def yX1_addDebts : MethodName := ⟨RX1, "addDebts", "(LCoatPockets$State;[III)I"⟩
abbrev cX1_addDebt : ByteArray := prog_3_method_3_code
def yX1_addDebt : MethodName := ⟨RX1, "addDebt", "(III)Z"⟩
abbrev cX1_fewest : ByteArray := prog_3_method_4_code
def yX1_fewest : MethodName := ⟨RX1, "fewest", "(LCoatPockets$State;)I"⟩
abbrev cX1_mostSets : ByteArray := prog_3_method_5_code
def yX1_mostSets : MethodName := ⟨RX1, "mostSets", "(I)I"⟩
def RX2 : String := "CoatPockets$Reader"
def TX2 : u_T := fun k => match k with
  | 0 => ("CoatPockets$Reader", "coats", "LCoatPockets$Coats;", true)
  | 1 => ("CoatPockets$Reader", "act", "C", false)
  | 2 => ("CoatPockets$Reader", "thing", "I", false)
  | _ => ("CoatPockets$Reader", "target", "I", false)
def tyX2 : Nat → FieldType := fun k => match k with
  | 0 => .object "CoatPockets$Coats"
  | 1 => .char
  | 2 => .int
  | _ => .int
abbrev wsX20 : List Cond := u_ws RX2 TX2 4
theorem nmX2 : ∀ a, a < 4 → ∀ b, b < 4 → a ≠ b → (TX2 a).2.1 ≠ (TX2 b).2.1 := by decide +kernel
theorem tyX2_ok : ∀ k, k < 4 → parseFieldDescriptor (TX2 k).2.2.1 = some (tyX2 k) := by decide +kernel
abbrev cX2_init : ByteArray := prog_4_method_1_code
def yX2_init : MethodName := ⟨RX2, "<init>", "()V"⟩
abbrev cX2_readSchool : ByteArray := prog_4_method_2_code
def yX2_readSchool : MethodName := ⟨RX2, "readSchool", "(LCoatPockets$Tape;)I"⟩
abbrev cX2_readCoat : ByteArray := prog_4_method_3_code
def yX2_readCoat : MethodName := ⟨RX2, "readCoat", "(LCoatPockets$Tape;)Z"⟩
abbrev cX2_checkDay : ByteArray := prog_4_method_4_code
def yX2_checkDay : MethodName := ⟨RX2, "checkDay", "(LCoatPockets$Tape;LCoatPockets$State;)I"⟩
abbrev cX2_runDay : ByteArray := prog_4_method_5_code
def yX2_runDay : MethodName := ⟨RX2, "runDay", "(LCoatPockets$Tape;LCoatPockets$State;)I"⟩
abbrev cX2_readAct : ByteArray := prog_4_method_6_code
def yX2_readAct : MethodName := ⟨RX2, "readAct", "(LCoatPockets$Tape;LCoatPockets$State;)Z"⟩
abbrev cX2_readWay : ByteArray := prog_4_method_7_code
def yX2_readWay : MethodName := ⟨RX2, "readWay", "(LCoatPockets$Tape;LCoatPockets$State;I)Z"⟩
abbrev cX2_doAct : ByteArray := prog_4_method_8_code
def yX2_doAct : MethodName := ⟨RX2, "doAct", "(LCoatPockets$State;)I"⟩
def RX3 : String := "CoatPockets$Sheets"
def TX3 : u_T := fun k => match k with
  | 0 => ("CoatPockets$Sheets", "held", "[Z", true)
  | 1 => ("CoatPockets$Sheets", "lanes", "[I", true)
  | 2 => ("CoatPockets$Sheets", "sizes", "[I", true)
  | _ => ("CoatPockets$Sheets", "items", "[I", true)
def tyX3 : Nat → FieldType := fun k => match k with
  | 0 => .array .boolean
  | 1 => .array .int
  | 2 => .array .int
  | _ => .array .int
abbrev wsX30 : List Cond := u_ws RX3 TX3 4
theorem nmX3 : ∀ a, a < 4 → ∀ b, b < 4 → a ≠ b → (TX3 a).2.1 ≠ (TX3 b).2.1 := by decide +kernel
theorem tyX3_ok : ∀ k, k < 4 → parseFieldDescriptor (TX3 k).2.2.1 = some (tyX3 k) := by decide +kernel
abbrev cX3_init : ByteArray := prog_5_method_1_code
def yX3_init : MethodName := ⟨RX3, "<init>", "()V"⟩
abbrev cX3_lay : ByteArray := prog_5_method_2_code
def yX3_lay : MethodName := ⟨RX3, "lay", "(III)V"⟩
abbrev cX3_find : ByteArray := prog_5_method_3_code
def yX3_find : MethodName := ⟨RX3, "find", "(IIII)I"⟩
def RX4 : String := "CoatPockets$State"
def TX4 : u_T := fun k => match k with
  | 0 => ("CoatPockets$State", "coats", "LCoatPockets$Coats;", true)
  | 1 => ("CoatPockets$State", "things", "LCoatPockets$Things;", true)
  | 2 => ("CoatPockets$State", "owed", "[I", true)
  | 3 => ("CoatPockets$State", "bells", "I", false)
  | _ => ("CoatPockets$State", "draw", "I", false)
def tyX4 : Nat → FieldType := fun k => match k with
  | 0 => .object "CoatPockets$Coats"
  | 1 => .object "CoatPockets$Things"
  | 2 => .array .int
  | 3 => .int
  | _ => .int
abbrev wsX40 : List Cond := u_ws RX4 TX4 5
theorem nmX4 : ∀ a, a < 5 → ∀ b, b < 5 → a ≠ b → (TX4 a).2.1 ≠ (TX4 b).2.1 := by decide +kernel
theorem tyX4_ok : ∀ k, k < 5 → parseFieldDescriptor (TX4 k).2.2.1 = some (tyX4 k) := by decide +kernel
abbrev cX4_init : ByteArray := prog_6_method_1_code
def yX4_init : MethodName := ⟨RX4, "<init>", "()V"⟩
abbrev cX4_become : ByteArray := prog_6_method_2_code
def yX4_become : MethodName := ⟨RX4, "become", "(LCoatPockets$State;)V"⟩
abbrev cX4_putIn : ByteArray := prog_6_method_3_code
def yX4_putIn : MethodName := ⟨RX4, "putIn", "(II)I"⟩
abbrev cX4_takeOut : ByteArray := prog_6_method_4_code
def yX4_takeOut : MethodName := ⟨RX4, "takeOut", "(II)I"⟩
abbrev cX4_searchLining : ByteArray := prog_6_method_5_code
def yX4_searchLining : MethodName := ⟨RX4, "searchLining", "(I)I"⟩
abbrev cX4_handOver : ByteArray := prog_6_method_6_code
def yX4_handOver : MethodName := ⟨RX4, "handOver", "(II)I"⟩
abbrev cX4_ring : ByteArray := prog_6_method_7_code
def yX4_ring : MethodName := ⟨RX4, "ring", "()I"⟩
abbrev cX4_change : ByteArray := prog_6_method_8_code
def yX4_change : MethodName := ⟨RX4, "change", "(II)I"⟩
abbrev cX4_drawsBelow : ByteArray := prog_6_method_9_code
def yX4_drawsBelow : MethodName := ⟨RX4, "drawsBelow", "(I)Z"⟩
abbrev cX4_balanceOf : ByteArray := prog_6_method_10_code
def yX4_balanceOf : MethodName := ⟨RX4, "balanceOf", "(I)I"⟩
def RX5 : String := "CoatPockets$Tape"
def TX5 : u_T := fun k => match k with
  | 0 => ("CoatPockets$Tape", "bytes", "[I", true)
  | 1 => ("CoatPockets$Tape", "length", "I", false)
  | _ => ("CoatPockets$Tape", "looked", "I", false)
def tyX5 : Nat → FieldType := fun k => match k with
  | 0 => .array .int
  | 1 => .int
  | _ => .int
abbrev wsX50 : List Cond := u_ws RX5 TX5 3
theorem nmX5 : ∀ a, a < 3 → ∀ b, b < 3 → a ≠ b → (TX5 a).2.1 ≠ (TX5 b).2.1 := by decide +kernel
theorem tyX5_ok : ∀ k, k < 3 → parseFieldDescriptor (TX5 k).2.2.1 = some (tyX5 k) := by decide +kernel
abbrev cX5_init : ByteArray := prog_7_method_1_code
def yX5_init : MethodName := ⟨RX5, "<init>", "()V"⟩
abbrev cX5_append : ByteArray := prog_7_method_2_code
def yX5_append : MethodName := ⟨RX5, "append", "(I)V"⟩
abbrev cX5_clear : ByteArray := prog_7_method_3_code
def yX5_clear : MethodName := ⟨RX5, "clear", "()V"⟩
abbrev cX5_atEnd : ByteArray := prog_7_method_4_code
def yX5_atEnd : MethodName := ⟨RX5, "atEnd", "()Z"⟩
abbrev cX5_passes : ByteArray := prog_7_method_5_code
def yX5_passes : MethodName := ⟨RX5, "passes", "(C)Z"⟩
abbrev cX5_digitBelow : ByteArray := prog_7_method_6_code
def yX5_digitBelow : MethodName := ⟨RX5, "digitBelow", "(I)I"⟩
abbrev cX5_passDigit : ByteArray := prog_7_method_7_code
def yX5_passDigit : MethodName := ⟨RX5, "passDigit", "(I)I"⟩
abbrev cX5_fault : ByteArray := prog_7_method_8_code
def yX5_fault : MethodName := ⟨RX5, "fault", "()I"⟩
def RX6 : String := "CoatPockets$Things"
def TX6 : u_T := fun k => match k with
  | 0 => ("CoatPockets$Things", "many", "I", false)
  | 1 => ("CoatPockets$Things", "kinds", "[I", true)
  | 2 => ("CoatPockets$Things", "places", "[I", true)
  | 3 => ("CoatPockets$Things", "readers", "[I", true)
  | _ => ("CoatPockets$Things", "eaters", "[I", true)
def tyX6 : Nat → FieldType := fun k => match k with
  | 0 => .int
  | 1 => .array .int
  | 2 => .array .int
  | 3 => .array .int
  | _ => .array .int
abbrev wsX60 : List Cond := u_ws RX6 TX6 5
theorem nmX6 : ∀ a, a < 5 → ∀ b, b < 5 → a ≠ b → (TX6 a).2.1 ≠ (TX6 b).2.1 := by decide +kernel
theorem tyX6_ok : ∀ k, k < 5 → parseFieldDescriptor (TX6 k).2.2.1 = some (tyX6 k) := by decide +kernel
abbrev cX6_init : ByteArray := prog_8_method_1_code
def yX6_init : MethodName := ⟨RX6, "<init>", "()V"⟩
abbrev cX6_become : ByteArray := prog_8_method_2_code
def yX6_become : MethodName := ⟨RX6, "become", "(LCoatPockets$Things;)V"⟩
abbrev cX6_has : ByteArray := prog_8_method_3_code
def yX6_has : MethodName := ⟨RX6, "has", "(I)Z"⟩
abbrev cX6_add : ByteArray := prog_8_method_4_code
def yX6_add : MethodName := ⟨RX6, "add", "(II)I"⟩
abbrev cX6_inPocket : ByteArray := prog_8_method_5_code
def yX6_inPocket : MethodName := ⟨RX6, "inPocket", "(I)Z"⟩
abbrev cX6_readBy : ByteArray := prog_8_method_6_code
def yX6_readBy : MethodName := ⟨RX6, "readBy", "(II)V"⟩
abbrev cX6_at : ByteArray := prog_8_method_7_code
def yX6_at : MethodName := ⟨RX6, "at", "(I)I"⟩
abbrev cX6_between : ByteArray := prog_8_method_8_code
def yX6_between : MethodName := ⟨RX6, "between", "(II)I"⟩
abbrev cX6_leaveCoats : ByteArray := prog_8_method_9_code
def yX6_leaveCoats : MethodName := ⟨RX6, "leaveCoats", "()V"⟩
def RX7 : String := "CoatPockets$Ways"
def TX7 : u_T := fun k => match k with
  | 0 => ("CoatPockets$Ways", "coats", "LCoatPockets$Coats;", true)
  | 1 => ("CoatPockets$Ways", "best", "[I", true)
  | 2 => ("CoatPockets$Ways", "thieves", "I", false)
  | 3 => ("CoatPockets$Ways", "hands", "I", false)
  | 4 => ("CoatPockets$Ways", "pockets", "I", false)
  | _ => ("CoatPockets$Ways", "arrived", "I", false)
def tyX7 : Nat → FieldType := fun k => match k with
  | 0 => .object "CoatPockets$Coats"
  | 1 => .array .int
  | 2 => .int
  | 3 => .int
  | 4 => .int
  | _ => .int
abbrev wsX70 : List Cond := u_ws RX7 TX7 6
theorem nmX7 : ∀ a, a < 6 → ∀ b, b < 6 → a ≠ b → (TX7 a).2.1 ≠ (TX7 b).2.1 := by decide +kernel
theorem tyX7_ok : ∀ k, k < 6 → parseFieldDescriptor (TX7 k).2.2.1 = some (tyX7 k) := by decide +kernel
abbrev cX7_init : ByteArray := prog_9_method_1_code
def yX7_init : MethodName := ⟨RX7, "<init>", "()V"⟩
abbrev cX7_handsAfter : ByteArray := prog_9_method_2_code
def yX7_handsAfter : MethodName := ⟨RX7, "handsAfter", "(LCoatPockets$Coats;III)I"⟩
abbrev cX7_fewestBells : ByteArray := prog_9_method_3_code
def yX7_fewestBells : MethodName := ⟨RX7, "fewestBells", "(LCoatPockets$Coats;III)I"⟩
abbrev cX7_comingTo : ByteArray := prog_9_method_4_code
def yX7_comingTo : MethodName := ⟨RX7, "comingTo", "(I)I"⟩
abbrev cX7_dealBest : ByteArray := prog_9_method_5_code
def yX7_dealBest : MethodName := ⟨RX7, "dealBest", "(LCoatPockets$Coats;III)I"⟩
abbrev cX7_bellsTo : ByteArray := prog_9_method_6_code
def yX7_bellsTo : MethodName := ⟨RX7, "bellsTo", "(II)I"⟩
abbrev cX7_start : ByteArray := prog_9_method_7_code
def yX7_start : MethodName := ⟨RX7, "start", "(II)V"⟩
abbrev cX7_ring : ByteArray := prog_9_method_8_code
def yX7_ring : MethodName := ⟨RX7, "ring", "()V"⟩
abbrev cX7_spread : ByteArray := prog_9_method_9_code
def yX7_spread : MethodName := ⟨RX7, "spread", "()V"⟩
def RX8 : String := "CoatPockets"
def TX8 : u_T := fun k => match k with
  | 0 => ("CoatPockets", "now", "LCoatPockets$State;", true)
  | 1 => ("CoatPockets", "kept", "LCoatPockets$State;", true)
  | 2 => ("CoatPockets", "imaged", "Z", false)
  | 3 => ("CoatPockets", "tape", "LCoatPockets$Tape;", true)
  | 4 => ("CoatPockets", "reader", "LCoatPockets$Reader;", true)
  | 5 => ("CoatPockets", "ways", "LCoatPockets$Ways;", true)
  | 6 => ("CoatPockets", "ledger", "LCoatPockets$Ledger;", true)
  | _ => ("CoatPockets", "sheets", "LCoatPockets$Sheets;", true)
def tyX8 : Nat → FieldType := fun k => match k with
  | 0 => .object "CoatPockets$State"
  | 1 => .object "CoatPockets$State"
  | 2 => .boolean
  | 3 => .object "CoatPockets$Tape"
  | 4 => .object "CoatPockets$Reader"
  | 5 => .object "CoatPockets$Ways"
  | 6 => .object "CoatPockets$Ledger"
  | _ => .object "CoatPockets$Sheets"
abbrev wsX80 : List Cond := u_ws RX8 TX8 8
theorem nmX8 : ∀ a, a < 8 → ∀ b, b < 8 → a ≠ b → (TX8 a).2.1 ≠ (TX8 b).2.1 := by decide +kernel
theorem tyX8_ok : ∀ k, k < 8 → parseFieldDescriptor (TX8 k).2.2.1 = some (tyX8 k) := by decide +kernel
abbrev cX8_init : ByteArray := prog_1_method_1_code
def yX8_init : MethodName := ⟨RX8, "<init>", "()V"⟩
abbrev cX8_coat : ByteArray := prog_1_method_2_code
def yX8_coat : MethodName := ⟨RX8, "coat", "(III)I"⟩
abbrev cX8_thing : ByteArray := prog_1_method_3_code
def yX8_thing : MethodName := ⟨RX8, "thing", "(II)I"⟩
abbrev cX8_where : ByteArray := prog_1_method_4_code
def yX8_where : MethodName := ⟨RX8, "where", "(I)I"⟩
abbrev cX8_told : ByteArray := prog_1_method_5_code
def yX8_told : MethodName := ⟨RX8, "told", "(II)I"⟩
abbrev cX8_of : ByteArray := prog_1_method_6_code
def yX8_of : MethodName := ⟨RX8, "of", "(II)I"⟩
abbrev cX8_hole : ByteArray := prog_1_method_7_code
def yX8_hole : MethodName := ⟨RX8, "hole", "(II)I"⟩
abbrev cX8_type : ByteArray := prog_1_method_8_code
def yX8_type : MethodName := ⟨RX8, "type", "(JI)I"⟩
abbrev cX8_school : ByteArray := prog_1_method_9_code
def yX8_school : MethodName := ⟨RX8, "school", "()I"⟩
abbrev cX8_day : ByteArray := prog_1_method_10_code
def yX8_day : MethodName := ⟨RX8, "day", "()I"⟩
abbrev cX8_count : ByteArray := prog_1_method_11_code
def yX8_count : MethodName := ⟨RX8, "count", "(I)I"⟩
abbrev cX8_put : ByteArray := prog_1_method_12_code
def yX8_put : MethodName := ⟨RX8, "put", "(II)I"⟩
abbrev cX8_take : ByteArray := prog_1_method_13_code
def yX8_take : MethodName := ⟨RX8, "take", "(II)I"⟩
abbrev cX8_search : ByteArray := prog_1_method_14_code
def yX8_search : MethodName := ⟨RX8, "search", "(I)I"⟩
abbrev cX8_give : ByteArray := prog_1_method_15_code
def yX8_give : MethodName := ⟨RX8, "give", "(II)I"⟩
abbrev cX8_bell : ByteArray := prog_1_method_16_code
def yX8_bell : MethodName := ⟨RX8, "bell", "()I"⟩
abbrev cX8_reach : ByteArray := prog_1_method_17_code
def yX8_reach : MethodName := ⟨RX8, "reach", "(III)I"⟩
abbrev cX8_soonest : ByteArray := prog_1_method_18_code
def yX8_soonest : MethodName := ⟨RX8, "soonest", "(IIII)I"⟩
abbrev cX8_dealt : ByteArray := prog_1_method_19_code
def yX8_dealt : MethodName := ⟨RX8, "dealt", "(IIII)I"⟩
abbrev cX8_wore : ByteArray := prog_1_method_20_code
def yX8_wore : MethodName := ⟨RX8, "wore", "(II)I"⟩
abbrev cX8_owe : ByteArray := prog_1_method_21_code
def yX8_owe : MethodName := ⟨RX8, "owe", "(III)I"⟩
abbrev cX8_balance : ByteArray := prog_1_method_22_code
def yX8_balance : MethodName := ⟨RX8, "balance", "(I)I"⟩
abbrev cX8_payments : ByteArray := prog_1_method_23_code
def yX8_payments : MethodName := ⟨RX8, "payments", "()I"⟩
abbrev cX8_seed : ByteArray := prog_1_method_24_code
def yX8_seed : MethodName := ⟨RX8, "seed", "(I)I"⟩
abbrev cX8_image : ByteArray := prog_1_method_25_code
def yX8_image : MethodName := ⟨RX8, "image", "()I"⟩
abbrev cX8_restore : ByteArray := prog_1_method_26_code
def yX8_restore : MethodName := ⟨RX8, "restore", "()I"⟩
abbrev cX8_owes : ByteArray := prog_1_method_27_code
def yX8_owes : MethodName := ⟨RX8, "owes", "(IIII)I"⟩
abbrev cX8_film : ByteArray := prog_1_method_28_code
def yX8_film : MethodName := ⟨RX8, "film", "(III)I"⟩
abbrev cX8_sheet : ByteArray := prog_1_method_29_code
def yX8_sheet : MethodName := ⟨RX8, "sheet", "(III)I"⟩
abbrev cX8_drop : ByteArray := prog_1_method_30_code
def yX8_drop : MethodName := ⟨RX8, "drop", "(I)I"⟩
abbrev cX8_item : ByteArray := prog_1_method_31_code
def yX8_item : MethodName := ⟨RX8, "item", "(IIII)I"⟩
abbrev cX8_copy : ByteArray := prog_1_method_32_code
def yX8_copy : MethodName := ⟨RX8, "copy", "(IIIII)I"⟩
abbrev cX8_within : ByteArray := prog_1_method_33_code
def yX8_within : MethodName := ⟨RX8, "within", "(II)Z"⟩
abbrev cX8_isBoys : ByteArray := prog_1_method_34_code
def yX8_isBoys : MethodName := ⟨RX8, "isBoys", "(I)Z"⟩
abbrev cX8_isPair : ByteArray := prog_1_method_35_code
def yX8_isPair : MethodName := ⟨RX8, "isPair", "(II)Z"⟩
abbrev cX8_isTurn : ByteArray := prog_1_method_36_code
def yX8_isTurn : MethodName := ⟨RX8, "isTurn", "(II)Z"⟩
abbrev cX8_isText : ByteArray := prog_1_method_37_code
def yX8_isText : MethodName := ⟨RX8, "isText", "(JI)Z"⟩
abbrev cX8_cut : ByteArray := prog_1_method_38_code
def yX8_cut : MethodName := ⟨RX8, "cut", "(II)I"⟩
def RX9 : String := "CoatPocketsModel"
def TX9 : u_T := fun k => match k with
  | 0 => ("CoatPocketsModel", "sizes", "[I", true)
  | 1 => ("CoatPocketsModel", "worn", "[I", true)
  | 2 => ("CoatPocketsModel", "holes", "[I", true)
  | 3 => ("CoatPocketsModel", "turns", "[I", true)
  | 4 => ("CoatPocketsModel", "coats", "I", false)
  | 5 => ("CoatPocketsModel", "kinds", "[I", true)
  | 6 => ("CoatPocketsModel", "places", "[I", true)
  | 7 => ("CoatPocketsModel", "reads", "[I", true)
  | 8 => ("CoatPocketsModel", "eaters", "[I", true)
  | 9 => ("CoatPocketsModel", "things", "I", false)
  | 10 => ("CoatPocketsModel", "debts", "[I", true)
  | 11 => ("CoatPocketsModel", "bells", "I", false)
  | 12 => ("CoatPocketsModel", "drawn", "I", false)
  | 13 => ("CoatPocketsModel", "tape", "[I", true)
  | 14 => ("CoatPocketsModel", "taped", "I", false)
  | 15 => ("CoatPocketsModel", "place", "I", false)
  | 16 => ("CoatPocketsModel", "many", "I", false)
  | 17 => ("CoatPocketsModel", "read", "[I", true)
  | 18 => ("CoatPocketsModel", "hands", "I", false)
  | 19 => ("CoatPocketsModel", "pockets", "I", false)
  | 20 => ("CoatPocketsModel", "via", "I", false)
  | 21 => ("CoatPocketsModel", "order", "[I", true)
  | 22 => ("CoatPocketsModel", "best", "[I", true)
  | 23 => ("CoatPocketsModel", "had", "[I", true)
  | 24 => ("CoatPocketsModel", "sums", "[I", true)
  | 25 => ("CoatPocketsModel", "parts", "[I", true)
  | 26 => ("CoatPocketsModel", "isKept", "Z", false)
  | 27 => ("CoatPocketsModel", "kept", "[I", true)
  | 28 => ("CoatPocketsModel", "lanes", "[I", true)
  | 29 => ("CoatPocketsModel", "rowSizes", "[I", true)
  | 30 => ("CoatPocketsModel", "items", "[I", true)
  | 31 => ("CoatPocketsModel", "then", "[I", true)
  | _ => ("CoatPocketsModel", "moved", "[I", true)
def tyX9 : Nat → FieldType := fun k => match k with
  | 0 => .array .int
  | 1 => .array .int
  | 2 => .array .int
  | 3 => .array .int
  | 4 => .int
  | 5 => .array .int
  | 6 => .array .int
  | 7 => .array .int
  | 8 => .array .int
  | 9 => .int
  | 10 => .array .int
  | 11 => .int
  | 12 => .int
  | 13 => .array .int
  | 14 => .int
  | 15 => .int
  | 16 => .int
  | 17 => .array .int
  | 18 => .int
  | 19 => .int
  | 20 => .int
  | 21 => .array .int
  | 22 => .array .int
  | 23 => .array .int
  | 24 => .array .int
  | 25 => .array .int
  | 26 => .boolean
  | 27 => .array .int
  | 28 => .array .int
  | 29 => .array .int
  | 30 => .array .int
  | 31 => .array .int
  | _ => .array .int
abbrev wsX90 : List Cond := u_ws RX9 TX9 33
theorem nmX9 : ∀ a, a < 33 → ∀ b, b < 33 → a ≠ b → (TX9 a).2.1 ≠ (TX9 b).2.1 := by decide +kernel
theorem tyX9_ok : ∀ k, k < 33 → parseFieldDescriptor (TX9 k).2.2.1 = some (tyX9 k) := by decide +kernel
abbrev cX9_init : ByteArray := prog_11_method_1_code
def yX9_init : MethodName := ⟨RX9, "<init>", "()V"⟩
abbrev cX9_in : ByteArray := prog_11_method_2_code
def yX9_in : MethodName := ⟨RX9, "in", "(JJJ)Z"⟩
abbrev cX9_has : ByteArray := prog_11_method_3_code
def yX9_has : MethodName := ⟨RX9, "has", "(II)Z"⟩
abbrev cX9_isBoy : ByteArray := prog_11_method_4_code
def yX9_isBoy : MethodName := ⟨RX9, "isBoy", "(I)Z"⟩
abbrev cX9_isCoat : ByteArray := prog_11_method_5_code
def yX9_isCoat : MethodName := ⟨RX9, "isCoat", "(I)Z"⟩
abbrev cX9_isThing : ByteArray := prog_11_method_6_code
def yX9_isThing : MethodName := ⟨RX9, "isThing", "(I)Z"⟩
abbrev cX9_wearer : ByteArray := prog_11_method_7_code
def yX9_wearer : MethodName := ⟨RX9, "wearer", "(II)I"⟩
abbrev cX9_coat : ByteArray := prog_11_method_8_code
def yX9_coat : MethodName := ⟨RX9, "coat", "(III)I"⟩
abbrev cX9_ones : ByteArray := prog_11_method_9_code
def yX9_ones : MethodName := ⟨RX9, "ones", "(I)I"⟩
abbrev cX9_thing : ByteArray := prog_11_method_10_code
def yX9_thing : MethodName := ⟨RX9, "thing", "(II)I"⟩
abbrev cX9_where : ByteArray := prog_11_method_11_code
def yX9_where : MethodName := ⟨RX9, "where", "(I)I"⟩
abbrev cX9_told : ByteArray := prog_11_method_12_code
def yX9_told : MethodName := ⟨RX9, "told", "(II)I"⟩
abbrev cX9_thingsAt : ByteArray := prog_11_method_13_code
def yX9_thingsAt : MethodName := ⟨RX9, "thingsAt", "(I)I"⟩
abbrev cX9_of : ByteArray := prog_11_method_14_code
def yX9_of : MethodName := ⟨RX9, "of", "(II)I"⟩
abbrev cX9_hole : ByteArray := prog_11_method_15_code
def yX9_hole : MethodName := ⟨RX9, "hole", "(II)I"⟩
abbrev cX9_count : ByteArray := prog_11_method_16_code
def yX9_count : MethodName := ⟨RX9, "count", "(I)I"⟩
abbrev cX9_type : ByteArray := prog_11_method_17_code
def yX9_type : MethodName := ⟨RX9, "type", "(JI)I"⟩
abbrev cX9_nextByte : ByteArray := prog_11_method_18_code
def yX9_nextByte : MethodName := ⟨RX9, "nextByte", "()I"⟩
abbrev cX9_readDigit : ByteArray := prog_11_method_19_code
def yX9_readDigit : MethodName := ⟨RX9, "readDigit", "(I)I"⟩
abbrev cX9_readCoat : ByteArray := prog_11_method_20_code
def yX9_readCoat : MethodName := ⟨RX9, "readCoat", "(I)Z"⟩
abbrev cX9_readSchool : ByteArray := prog_11_method_21_code
def yX9_readSchool : MethodName := ⟨RX9, "readSchool", "()Z"⟩
abbrev cX9_school : ByteArray := prog_11_method_22_code
def yX9_school : MethodName := ⟨RX9, "school", "()I"⟩
abbrev cX9_readAct : ByteArray := prog_11_method_23_code
def yX9_readAct : MethodName := ⟨RX9, "readAct", "(I)Z"⟩
abbrev cX9_readDay : ByteArray := prog_11_method_24_code
def yX9_readDay : MethodName := ⟨RX9, "readDay", "()Z"⟩
abbrev cX9_does : ByteArray := prog_11_method_25_code
def yX9_does : MethodName := ⟨RX9, "does", "(I)Z"⟩
abbrev cX9_day : ByteArray := prog_11_method_26_code
def yX9_day : MethodName := ⟨RX9, "day", "()I"⟩
abbrev cX9_come : ByteArray := prog_11_method_27_code
def yX9_come : MethodName := ⟨RX9, "come", "(II)V"⟩
abbrev cX9_put : ByteArray := prog_11_method_28_code
def yX9_put : MethodName := ⟨RX9, "put", "(II)I"⟩
abbrev cX9_take : ByteArray := prog_11_method_29_code
def yX9_take : MethodName := ⟨RX9, "take", "(II)I"⟩
abbrev cX9_search : ByteArray := prog_11_method_30_code
def yX9_search : MethodName := ⟨RX9, "search", "(I)I"⟩
abbrev cX9_wearsAny : ByteArray := prog_11_method_31_code
def yX9_wearsAny : MethodName := ⟨RX9, "wearsAny", "(I)Z"⟩
abbrev cX9_give : ByteArray := prog_11_method_32_code
def yX9_give : MethodName := ⟨RX9, "give", "(II)I"⟩
abbrev cX9_ring : ByteArray := prog_11_method_33_code
def yX9_ring : MethodName := ⟨RX9, "ring", "(II)Z"⟩
abbrev cX9_bell : ByteArray := prog_11_method_34_code
def yX9_bell : MethodName := ⟨RX9, "bell", "()I"⟩
abbrev cX9_close : ByteArray := prog_11_method_35_code
def yX9_close : MethodName := ⟨RX9, "close", "(II)V"⟩
abbrev cX9_closeAll : ByteArray := prog_11_method_36_code
def yX9_closeAll : MethodName := ⟨RX9, "closeAll", "(II)V"⟩
abbrev cX9_ringOn : ByteArray := prog_11_method_37_code
def yX9_ringOn : MethodName := ⟨RX9, "ringOn", "(II)V"⟩
abbrev cX9_begin : ByteArray := prog_11_method_38_code
def yX9_begin : MethodName := ⟨RX9, "begin", "(I)V"⟩
abbrev cX9_reach : ByteArray := prog_11_method_39_code
def yX9_reach : MethodName := ⟨RX9, "reach", "(III)I"⟩
abbrev cX9_findSoonest : ByteArray := prog_11_method_40_code
def yX9_findSoonest : MethodName := ⟨RX9, "findSoonest", "(III)I"⟩
abbrev cX9_soonest : ByteArray := prog_11_method_41_code
def yX9_soonest : MethodName := ⟨RX9, "soonest", "(IIII)I"⟩
abbrev cX9_nextOrder : ByteArray := prog_11_method_42_code
def yX9_nextOrder : MethodName := ⟨RX9, "nextOrder", "(I)Z"⟩
abbrev cX9_dealt : ByteArray := prog_11_method_43_code
def yX9_dealt : MethodName := ⟨RX9, "dealt", "(IIII)I"⟩
abbrev cX9_wore : ByteArray := prog_11_method_44_code
def yX9_wore : MethodName := ⟨RX9, "wore", "(II)I"⟩
abbrev cX9_areTwo : ByteArray := prog_11_method_45_code
def yX9_areTwo : MethodName := ⟨RX9, "areTwo", "(II)Z"⟩
abbrev cX9_owe : ByteArray := prog_11_method_46_code
def yX9_owe : MethodName := ⟨RX9, "owe", "(III)I"⟩
abbrev cX9_balanceOf : ByteArray := prog_11_method_47_code
def yX9_balanceOf : MethodName := ⟨RX9, "balanceOf", "(I)I"⟩
abbrev cX9_balance : ByteArray := prog_11_method_48_code
def yX9_balance : MethodName := ⟨RX9, "balance", "(I)I"⟩
abbrev cX9_payments : ByteArray := prog_11_method_49_code
def yX9_payments : MethodName := ⟨RX9, "payments", "()I"⟩
abbrev cX9_seed : ByteArray := prog_11_method_50_code
def yX9_seed : MethodName := ⟨RX9, "seed", "(I)I"⟩
abbrev cX9_carried : ByteArray := prog_11_method_51_code
def yX9_carried : MethodName := ⟨RX9, "carried", "(IIZ)I"⟩
abbrev cX9_image : ByteArray := prog_11_method_52_code
def yX9_image : MethodName := ⟨RX9, "image", "()I"⟩
abbrev cX9_restore : ByteArray := prog_11_method_53_code
def yX9_restore : MethodName := ⟨RX9, "restore", "()I"⟩
abbrev cX9_isSheet : ByteArray := prog_11_method_54_code
def yX9_isSheet : MethodName := ⟨RX9, "isSheet", "(II)Z"⟩
abbrev cX9_sheet : ByteArray := prog_11_method_55_code
def yX9_sheet : MethodName := ⟨RX9, "sheet", "(III)I"⟩
abbrev cX9_drop : ByteArray := prog_11_method_56_code
def yX9_drop : MethodName := ⟨RX9, "drop", "(I)I"⟩
abbrev cX9_lacksRow : ByteArray := prog_11_method_57_code
def yX9_lacksRow : MethodName := ⟨RX9, "lacksRow", "(IIII)I"⟩
abbrev cX9_item : ByteArray := prog_11_method_58_code
def yX9_item : MethodName := ⟨RX9, "item", "(IIII)I"⟩
abbrev cX9_owes : ByteArray := prog_11_method_59_code
def yX9_owes : MethodName := ⟨RX9, "owes", "(IIII)I"⟩
abbrev cX9_film : ByteArray := prog_11_method_60_code
def yX9_film : MethodName := ⟨RX9, "film", "(III)I"⟩
abbrev cX9_copy : ByteArray := prog_11_method_61_code
def yX9_copy : MethodName := ⟨RX9, "copy", "(IIIII)I"⟩
def RJ6 : String := "java/lang/Integer"
def TJ6 : u_T := fun k => match k with
  | _ => ("", "", "", false)
def tyJ6 : Nat → FieldType := fun k => match k with
  | _ => .int
abbrev wsJ60 : List Cond := u_ws RJ6 TJ6 0
theorem nmJ6 : ∀ a, a < 0 → ∀ b, b < 0 → a ≠ b → (TJ6 a).2.1 ≠ (TJ6 b).2.1 := by decide +kernel
theorem tyJ6_ok : ∀ k, k < 0 → parseFieldDescriptor (TJ6 k).2.2.1 = some (tyJ6 k) := by decide +kernel
abbrev cJ6_bitCount_0f7a4 : ByteArray := prog_12_method_49_code
def yJ6_bitCount_0f7a4 : MethodName := ⟨RJ6, "bitCount", "(I)I"⟩
def RJ9 : String := "java/lang/Math"
def TJ9 : u_T := fun k => match k with
  | _ => ("", "", "", false)
def tyJ9 : Nat → FieldType := fun k => match k with
  | _ => .int
abbrev wsJ90 : List Cond := u_ws RJ9 TJ9 0
theorem nmJ9 : ∀ a, a < 0 → ∀ b, b < 0 → a ≠ b → (TJ9 a).2.1 ≠ (TJ9 b).2.1 := by decide +kernel
theorem tyJ9_ok : ∀ k, k < 0 → parseFieldDescriptor (TJ9 k).2.2.1 = some (tyJ9 k) := by decide +kernel
abbrev cJ9_max_7cf53 : ByteArray := prog_13_method_65_code
def yJ9_max_7cf53 : MethodName := ⟨RJ9, "max", "(II)I"⟩
def RJ10 : String := "java/lang/System"
def TJ10 : u_T := fun k => match k with
  | _ => ("", "", "", false)
def tyJ10 : Nat → FieldType := fun k => match k with
  | _ => .int
abbrev wsJ100 : List Cond := u_ws RJ10 TJ10 0
theorem nmJ10 : ∀ a, a < 0 → ∀ b, b < 0 → a ≠ b → (TJ10 a).2.1 ≠ (TJ10 b).2.1 := by decide +kernel
theorem tyJ10_ok : ∀ k, k < 0 → parseFieldDescriptor (TJ10 k).2.2.1 = some (tyJ10 k) := by decide +kernel
def RL : String := "CoatPocketsLaw"
abbrev cL_law : ByteArray := code
def yL_law : MethodName := ⟨RL, "law", "([I)Z"⟩
abbrev vwCl : List vw_C := [(RX0, TX0, 5), (RX1, TX1, 4), (RX2, TX2, 4), (RX3, TX3, 4), (RX4, TX4, 5), (RX5, TX5, 3), (RX6, TX6, 5), (RX7, TX7, 6), (RX8, TX8, 8), (RX9, TX9, 33)]
/-- the words that stay, out of all that the tables give -/
def TBL : List Cond := lw_tbl.filter goodWord
theorem tb_in (i : Nat) {w : Cond} (h : lw_tbl[i]? = some w) (hg : goodWord w = true) : w ∈ TBL := List.mem_filter.mpr ⟨List.mem_of_getElem? h, hg⟩
theorem tb_sub : ∀ w ∈ TBL, w ∈ lw_tbl := fun _ h => (List.mem_filter.mp h).1
theorem tb_good : GoodIn TBL TBL := fun _ h => ⟨h, good_of_word (List.mem_filter.mp h).2⟩
theorem tb_list {ws : List Cond} (ps : List Nat) (hp : ws = ps.filterMap (fun i => lw_tbl[i]?)) (hg : ws.all goodWord = true) : ∀ w ∈ ws, w ∈ TBL := by
  intro w hw
  have h1 := List.all_eq_true.mp hg w hw
  rw [hp] at hw
  obtain ⟨i, -, hi⟩ := List.mem_filterMap.mp hw
  exact tb_in i hi h1
theorem tbX0 : ∀ w ∈ wsX00, w ∈ TBL := tb_list [85, 87, 89, 91, 93] (by decide +kernel) (by decide +kernel)
theorem tbX1 : ∀ w ∈ wsX10, w ∈ TBL := tb_list [231, 233, 235, 237] (by decide +kernel) (by decide +kernel)
theorem tbX2 : ∀ w ∈ wsX20, w ∈ TBL := tb_list [184, 186, 188, 190] (by decide +kernel) (by decide +kernel)
theorem tbX3 : ∀ w ∈ wsX30, w ∈ TBL := tb_list [254, 256, 258, 260] (by decide +kernel) (by decide +kernel)
theorem tbX4 : ∀ w ∈ wsX40, w ∈ TBL := tb_list [142, 144, 146, 148, 150] (by decide +kernel) (by decide +kernel)
theorem tbX5 : ∀ w ∈ wsX50, w ∈ TBL := tb_list [164, 166, 168] (by decide +kernel) (by decide +kernel)
theorem tbX6 : ∀ w ∈ wsX60, w ∈ TBL := tb_list [118, 120, 122, 124, 126] (by decide +kernel) (by decide +kernel)
theorem tbX7 : ∀ w ∈ wsX70, w ∈ TBL := tb_list [208, 210, 212, 214, 216, 218] (by decide +kernel) (by decide +kernel)
theorem tbX8 : ∀ w ∈ wsX80, w ∈ TBL := tb_list [272, 274, 276, 278, 280, 282, 284, 286] (by decide +kernel) (by decide +kernel)
theorem tbX9 : ∀ w ∈ wsX90, w ∈ TBL := tb_list [748, 750, 752, 754, 756, 758, 760, 762, 764, 766, 768, 770, 772, 774, 776, 778, 780, 782, 784, 786, 788, 790, 792, 794, 796, 798, 800, 802, 804, 806, 808, 810, 812] (by decide +kernel) (by decide +kernel)
end
section
/-! THE LAYER OVER THE MACHINE: a fixed graph of cells (places), whole numbers in it; WP a walk at a point of a method, HT a method's triple -/
abbrev Mem := Nat → Int → Int
abbrev MV := Int ⊕ (Int ⊕ Nat)
abbrev mi (x : Int) : MV := .inl x
abbrev ml (x : Int) : MV := .inr (.inl x)
abbrev mr (k : Nat) : MV := .inr (.inr k)
def mval (ad : Nat → Nat) : MV → Value
  | .inl x => .int (Int32.ofInt x)
  | .inr (.inl x) => .long (Int64.ofInt x)
  | .inr (.inr k) => .ref (ad k)
abbrev R32 (x : Int) : Prop := -2147483648 ≤ x ∧ x < 2147483648
abbrev R64 (x : Int) : Prop := -9223372036854775808 ≤ x ∧ x < 9223372036854775808
def mok : MV → Prop
  | .inl x => R32 x
  | .inr (.inl x) => R64 x
  | .inr (.inr _) => True
def mcat : MV → Nat
  | .inr (.inl _) => 2
  | _ => 1
theorem mcat_val (ad : Nat → Nat) (v : MV) : (mval ad v).category = mcat v := by
  rcases v with x | x | k <;> rfl
theorem r32_lo {x : Int} (h : R32 x) : (Int32.ofInt x).toInt = x := Int32.toInt_ofInt_of_le (by omega) (by omega)
theorem r64_lo {x : Int} (h : R64 x) : (Int64.ofInt x).toInt = x := Int64.toInt_ofInt_of_le (by omega) (by omega)
theorem r32_of (x : Int32) : R32 x.toInt := ⟨by have := x.le_toInt; omega, by have := x.toInt_lt; omega⟩
theorem r64_of (x : Int64) : R64 x.toInt := ⟨by have := x.le_toInt; omega, by have := x.toInt_lt; omega⟩
/-! locals -/
def mlh (ad : Nat → Nat) (ls : Array Slot) (nL : Nat) (L : List (Option MV)) : Prop :=
  ls.size = nL ∧ lv_wf ls ∧ ∀ (i : Nat) (v : MV), L[i]? = some (some v) → ls[i]? = some (.val (mval ad v))
def mlist (ad : Nat → Nat) (L : List (Option MV)) : List (Nat × Value) := L.zipIdx.filterMap (fun q => q.1.map (fun v => (q.2, mval ad v)))
theorem mlist_in {ad : Nat → Nat} {L : List (Option MV)} {i : Nat} {v : MV} (h : L[i]? = some (some v)) : (i, mval ad v) ∈ mlist ad L := by
  refine List.mem_filterMap.mpr ⟨(some v, i), ?_, rfl⟩
  exact List.mem_zipIdx_iff_getElem?.mpr h
theorem mlh_has {ad : Nat → Nat} {ls : Array Slot} {nL : Nat} {L : List (Option MV)} (h : mlh ad ls nL L) : lv_has ls nL (mlist ad L) := by
  refine ⟨h.1, h.2.1, fun q hq => ?_⟩
  obtain ⟨⟨o, i⟩, h1, h2⟩ := List.mem_filterMap.mp hq
  cases o with
  | none => cases h2
  | some v =>
    cases h2
    exact h.2.2 i v (List.mem_zipIdx_iff_getElem?.mp h1)
def mst0 (L : List (Option MV)) : Nat → List (Option MV)
  | 0 => L
  | j + 1 => match L[j]? with
    | some (some (.inr (.inl _))) => L.set j none
    | _ => L
def mst (L : List (Option MV)) (i : Nat) (v : MV) : List (Option MV) := (mst0 L i).set i (some v)
def mst2 (L : List (Option MV)) (i : Nat) (v : MV) : List (Option MV) := (mst L i v).set (i + 1) none
theorem mst0_get {L : List (Option MV)} {i j : Nat} {w : MV} (h : (mst0 L i)[j]? = some (some w)) : L[j]? = some (some w) ∧ ¬ (j + 1 = i ∧ mcat w = 2) := by
  cases i with
  | zero => exact ⟨h, fun z => by omega⟩
  | succ k =>
    simp only [mst0] at h
    split at h
    next x hk =>
      by_cases hj : j = k
      · subst hj
        rw [List.getElem?_set_self (List.getElem?_eq_some_iff.mp hk).1] at h
        cases h
      · rw [List.getElem?_set_ne (Ne.symm hj)] at h
        exact ⟨h, fun z => by omega⟩
    next hk =>
      refine ⟨h, fun z => ?_⟩
      have hj : j = k := by omega
      subst hj
      rcases w with x | x | x
      · exact absurd z.2 (by simp [mcat])
      · exact hk x h
      · exact absurd z.2 (by simp [mcat])
theorem mst_has {ad : Nat → Nat} {ls : Array Slot} {nL i : Nat} {L : List (Option MV)} {v : MV}
    (h : lv_has ls nL ((i, mval ad v) :: (mlist ad L).filter (fun q => !(q.1 == i) && !(q.1 + 1 == i && q.2.category == 2)))) : mlh ad ls nL (mst L i v) := by
  refine ⟨h.1, h.2.1, fun j w hw => ?_⟩
  by_cases hj : j = i
  · subst hj
    unfold mst at hw
    by_cases hl : j < (mst0 L j).length
    · rw [List.getElem?_set_self hl] at hw
      cases hw
      exact h.2.2 _ List.mem_cons_self
    · rw [List.getElem?_eq_none (by rw [List.length_set]; omega)] at hw
      cases hw
  · unfold mst at hw
    rw [List.getElem?_set_ne (Ne.symm hj)] at hw
    obtain ⟨h1, h2⟩ := mst0_get hw
    refine h.2.2 (j, mval ad w) (List.mem_cons_of_mem _ (List.mem_filter.mpr ⟨mlist_in h1, ?_⟩))
    rw [show (mval ad w).category = mcat w from mcat_val ad w]
    simp only [Bool.and_eq_true, Bool.not_eq_true', beq_eq_false_iff_ne, ne_eq, hj, not_false_eq_true, Bool.and_eq_false_iff, true_and]
    by_cases h3 : j + 1 = i
    · exact Or.inr (fun z => h2 ⟨h3, z⟩)
    · exact Or.inl h3
theorem mst2_has {ad : Nat → Nat} {ls : Array Slot} {nL i : Nat} {L : List (Option MV)} {v : MV}
    (h : lv_has ls nL ((i, mval ad v) :: (mlist ad L).filter (fun q => !(q.1 == i) && (!(q.1 == i + 1) && !(q.1 + 1 == i && q.2.category == 2))))) : mlh ad ls nL (mst2 L i v) := by
  refine ⟨h.1, h.2.1, fun j w hw => ?_⟩
  unfold mst2 at hw
  by_cases hj1 : j = i + 1
  · subst hj1
    by_cases hl : i + 1 < (mst L i v).length
    · rw [List.getElem?_set_self hl] at hw
      cases hw
    · rw [List.getElem?_eq_none (by rw [List.length_set]; omega)] at hw
      cases hw
  · rw [List.getElem?_set_ne (Ne.symm hj1)] at hw
    by_cases hj : j = i
    · subst hj
      unfold mst at hw
      by_cases hl : j < (mst0 L j).length
      · rw [List.getElem?_set_self hl] at hw
        cases hw
        exact h.2.2 _ List.mem_cons_self
      · rw [List.getElem?_eq_none (by rw [List.length_set]; omega)] at hw
        cases hw
    · unfold mst at hw
      rw [List.getElem?_set_ne (Ne.symm hj)] at hw
      obtain ⟨h1, h2⟩ := mst0_get hw
      refine h.2.2 (j, mval ad w) (List.mem_cons_of_mem _ (List.mem_filter.mpr ⟨mlist_in h1, ?_⟩))
      rw [show (mval ad w).category = mcat w from mcat_val ad w]
      simp only [Bool.and_eq_true, Bool.not_eq_true', beq_eq_false_iff_ne, ne_eq, hj, hj1, not_false_eq_true, Bool.and_eq_false_iff, true_and]
      by_cases h3 : j + 1 = i
      · exact Or.inr (fun z => h2 ⟨h3, z⟩)
      · exact Or.inl h3
def mlay : List MV → List (Option MV)
  | [] => []
  | v :: r => match v with
    | .inr (.inl x) => some (ml x) :: none :: mlay r
    | w => some w :: mlay r
theorem mlay_args (ad : Nat → Nat) : ∀ (as : List MV) (k i : Nat) (v : MV), (mlay as)[i]? = some (some v) → (k + i, mval ad v) ∈ lv_args k (as.map (mval ad))
  | [], k, i, v, h => by simp [mlay] at h
  | a :: r, k, i, v, h => by
    have one : ∀ w : MV, a = w → mcat w = 1 → (some w :: mlay r)[i]? = some (some v) → (k + i, mval ad v) ∈ lv_args k ((a :: r).map (mval ad)) := by
      intro w hw hc h
      subst hw
      simp only [List.map_cons, lv_args, mcat_val, hc]
      cases i with
      | zero =>
        simp only [List.getElem?_cons_zero, Option.some.injEq] at h
        subst h
        exact List.mem_cons_self
      | succ i =>
        rw [List.getElem?_cons_succ] at h
        have h2 := mlay_args ad r (k + 1) i v h
        rw [show k + 1 + i = k + (i + 1) by omega] at h2
        exact List.mem_cons_of_mem _ h2
    rcases a with x | x | x
    · exact one _ rfl rfl h
    · simp only [List.map_cons, lv_args, mcat_val, mcat, if_true]
      simp only [mlay] at h
      cases i with
      | zero =>
        simp only [List.getElem?_cons_zero, Option.some.injEq] at h
        subst h
        exact List.mem_cons_self
      | succ i =>
        rw [List.getElem?_cons_succ] at h
        cases i with
        | zero => simp at h
        | succ i =>
          rw [List.getElem?_cons_succ] at h
          have h2 := mlay_args ad r (k + 2) i v h
          rw [show k + 2 + i = k + (i + 1 + 1) by omega] at h2
          exact List.mem_cons_of_mem _ h2
    · exact one _ rfl rfl h
theorem mlay_len (ad : Nat → Nat) : ∀ as : List MV, (lg_sl (as.map (mval ad))).length = (mlay as).length
  | [] => rfl
  | a :: r => by
    have ih := mlay_len ad r
    unfold lg_sl at ih ⊢
    rw [List.map_cons, List.flatMap_cons, List.length_append, ih]
    rcases a with x | x | x <;> simp [mval, Value.category, mlay] <;> omega
def ment (n : Nat) (as : List MV) : List (Option MV) := mlay as ++ List.replicate (n - (mlay as).length) none
theorem ment_has {ad : Nat → Nat} {ls : Array Slot} {n : Nat} {as : List MV} (h : lv_has ls n (lv_args 0 (as.map (mval ad)))) : mlh ad ls n (ment n as) := by
  refine ⟨h.1, h.2.1, fun i v hv => ?_⟩
  unfold ment at hv
  by_cases hi : i < (mlay as).length
  · rw [List.getElem?_append_left hi] at hv
    have h1 := mlay_args ad as 0 i v hv
    rw [Nat.zero_add] at h1
    exact h.2.2 _ h1
  · rw [List.getElem?_append_right (by omega)] at hv
    exact absurd (List.eq_of_mem_replicate (List.mem_of_getElem? hv)) (by simp)
/-! cells -/
abbrev MK := (Bool × Nat) ⊕ (Nat × List (Option Nat))
abbrev MG := List MK
def mfld (ad : Nat → Nat) (σ : Mem) (k : Nat) (q : Option Nat × Nat) : Value := match q.1 with
  | none => .int (Int32.ofInt (σ k q.2))
  | some k' => .ref (ad k')
def mcell (cI cZ : ClassId) (ad : Nat → Nat) (σ : Mem) (k : Nat) : MK → va_E
  | .inl (z, n) => .inl (bif z then cZ else cI, n, .inl (fun j => Int32.ofInt (σ k j)))
  | .inr (ci, fs) => .inr (ci, fs.zipIdx.map (mfld ad σ k))
def mws (cI cZ : ClassId) (ad : Nat → Nat) (G : MG) (σ : Mem) : va_W := G.zipIdx.map (fun q => (ad q.2, mcell cI cZ ad σ q.2 q.1))
theorem mws_at {cI cZ : ClassId} {ad : Nat → Nat} {G : MG} {σ : Mem} {k : Nat} {x : MK} (h : G[k]? = some x) : (mws cI cZ ad G σ)[k]? = some (ad k, mcell cI cZ ad σ k x) := by
  simp [mws, List.getElem?_zipIdx, h]
theorem mcell_congr {cI cZ : ClassId} {ad : Nat → Nat} {σ σ' : Mem} {k : Nat} (h : σ' k = σ k) (x : MK) : mcell cI cZ ad σ' k x = mcell cI cZ ad σ k x := by
  rcases x with ⟨z, n⟩ | ⟨ci, fs⟩
  · simp only [mcell, h]
  · simp only [mcell]
    congr 2
    refine List.map_congr_left fun q _ => ?_
    simp only [mfld, h]
theorem mws_set {cI cZ : ClassId} {ad : Nat → Nat} {G : MG} {σ σ' : Mem} {k : Nat} {x : MK} {e : va_E} (h : G[k]? = some x) (hσ : ∀ a, a ≠ k → σ' a = σ a) (he : e = mcell cI cZ ad σ' k x) : (mws cI cZ ad G σ).set k (ad k, e) = mws cI cZ ad G σ' := by
  apply List.ext_getElem?
  intro i
  by_cases hi : i = k
  · subst hi
    rw [List.getElem?_set_self (List.getElem?_eq_some_iff.mp (mws_at (cI := cI) (cZ := cZ) (ad := ad) (σ := σ) h)).1, mws_at h, he]
  · rw [List.getElem?_set_ne (Ne.symm hi)]
    cases hx : G[i]? with
    | none => simp [mws, List.getElem?_zipIdx, hx]
    | some y => rw [mws_at hx, mws_at hx, mcell_congr (hσ i hi)]
def mupd (σ : Mem) (k : Nat) (i v : Int) : Mem := fun a b => if a = k ∧ b = i then v else σ a b
def mcpy (σ : Mem) (k0 : Nat) (sp : Int) (k1 : Nat) (dp n : Int) : Mem := fun a b => if a = k1 ∧ dp ≤ b ∧ b < dp + n then σ k0 (sp + (b - dp)) else σ a b
theorem mupd_ne {σ : Mem} {k : Nat} {i v : Int} (a : Nat) (h : a ≠ k) : mupd σ k i v a = σ a := by
  funext b
  simp [mupd, h]
theorem mcpy_ne {σ : Mem} {k0 k1 : Nat} {sp dp n : Int} (a : Nat) (h : a ≠ k1) : mcpy σ k0 sp k1 dp n a = σ a := by
  funext b
  simp [mcpy, h]
def mokm (σ : Mem) : Prop := ∀ k j, R32 (σ k j)
theorem mokm_upd {σ : Mem} (h : mokm σ) {k : Nat} {i v : Int} (hv : R32 v) : mokm (mupd σ k i v) := by
  intro a b
  unfold mupd
  split
  · exact hv
  · exact h a b
theorem mokm_cpy {σ : Mem} (h : mokm σ) {k0 k1 : Nat} {sp dp n : Int} : mokm (mcpy σ k0 sp k1 dp n) := by
  intro a b
  unfold mcpy
  split
  · exact h _ _
  · exact h a b
/-! methods -/
abbrev MI := MethodName × ByteArray × Nat × Option FieldType × Nat × Nat
abbrev m_y (M : MI) : MethodName := M.1
abbrev m_c (M : MI) : ByteArray := M.2.1
abbrev m_n (M : MI) : Nat := M.2.2.1
abbrev m_r (M : MI) : Option FieldType := M.2.2.2.1
abbrev m_f (M : MI) : Nat := M.2.2.2.2.1
abbrev m_l (M : MI) : Nat := M.2.2.2.2.2
def mroom (M : MI) : Room := { frames := m_f M, cells := 0, slots := 0, locals := m_l M }
def wsM (M : MI) : List Cond := Cond.code (m_y M) (m_c M) (m_n M) (m_r M) :: TBL
abbrev mtys (cI cZ : ClassId) : List (ClassId × FieldType) := [(cI, .int), (cZ, .boolean)]
/-- the links between nest mates -/
def mNW : List Cond := [.methodLinkNest RX0 34 yX8_within RX8, .methodLinkNest RX1 39 yX8_isPair RX8, .methodLinkNest RX1 43 yX8_within RX8, .methodLinkNest RX5 26 yX8_within RX8, .methodLinkNest RX6 34 yX8_within RX8]
def mnest (U : State) : Prop := ∀ w ∈ mNW, va_Nw w U
theorem mnest_warm {s U : State} (hW : s.WarmedH U.vm) (h : mnest s) : mnest U := by
  intro w hw
  have h1 := h w hw
  simp only [mNW, List.mem_cons, List.not_mem_nil, or_false] at hw
  rcases hw with rfl | rfl | rfl | rfl | rfl <;> exact va_Nw.warmM hW h1
theorem mnest_same {u U : State} (hv : u.vm = U.vm) (h : mnest u) : mnest U := by
  intro w hw
  have h1 := h w hw
  simp only [mNW, List.mem_cons, List.not_mem_nil, or_false] at hw
  rcases hw with rfl | rfl | rfl | rfl | rfl <;> exact va_Nw.same rfl hv h1
def mret (ret : Option FieldType) (r : Int) : Option Value := match ret with
  | none => none
  | some _ => some (.int (Int32.ofInt r))
def mpush (ret : Option FieldType) (r : Int) (S : List MV) : List MV := match ret with
  | none => S
  | some _ => mi r :: S
def mwld (D : va_G) (cI cZ : ClassId) (ad : Nat → Nat) (G : MG) (A : Nat → Prop) (σ : Mem) (U : State) : Prop :=
  va_P D vwCl (mws cI cZ ad G σ) U.heap ∧ va_K D vwCl (mtys cI cZ) U ∧ va_D A (mws cI cZ ad G σ)
def mpre (D : va_G) (cI cZ : ClassId) (ad : Nat → Nat) (G : MG) (sz : Nat) (σ : Mem) (U : State) : Prop :=
  U.heap.size = sz ∧ mwld D cI cZ ad G (fun _ => True) σ U ∧ mnest U
def mQ (ret : Option FieldType) (D : va_G) (cI cZ : ClassId) (ad : Nat → Nat) (G : MG) (A : Nat → Prop) (Q : Int → Mem → Prop) : Array Value → State → Outcome → State → Prop := fun _ st oc t =>
  (∃ (r : Int) (σ : Mem), oc = .returned (mret ret r) ∧ R32 r ∧ mokm σ ∧ Q r σ ∧ mwld D cI cZ ad G A σ t) ∧ va_F A st t
def HT (G : MG) (M : MI) (as : List MV) (σ : Mem) (Q : Int → Mem → Prop) : Prop :=
  (∀ v ∈ as, mok v) → mokm σ → ∀ (l : Launch) (D : va_G) (cI cZ : ClassId) (ad : Nat → Nat) (sz : Nat),
    Met l (m_y M) (wsM M) (mroom M) (va_Pc (as.map (mval ad)) (mpre D cI cZ ad G sz σ)) (mQ (m_r M) D cI cZ ad G (va_A (mws cI cZ ad G σ) sz) Q) 0 0 (va_A (mws cI cZ ad G σ) sz)
def mcx (M : MI) (p : Program) (s : State) (m : MethodId) (args : Array Value) (meth : Method) (c : Code) (A : Nat → Prop) (D : va_G) (cI cZ : ClassId) : Prop :=
  p.tables.exec = Jvm.exec ∧ c.code = m_c M ∧ c.maxLocals = m_n M ∧ s.vm.findClass (m_y M).cls = some m.cls ∧ (∀ w ∈ TBL, w.before args s = true) ∧ meth.locks = false ∧ meth.sig.returnType = m_r M ∧ va_K D vwCl (mtys cI cZ) s ∧ (∀ q, s.heap.size ≤ q → A q) ∧ mnest s
def WP (G : MG) (M : MI) (pc : Nat) (L : List (Option MV)) (S : List MV) (σ : Mem) (Q : Int → Mem → Prop) : Prop :=
  (∀ v, some v ∈ L → mok v) → (∀ v ∈ S, mok v) → mokm σ → ∀ (p : Program) (l : Launch) (e : Env) (s : State) (m : MethodId) (args : Array Value) (below : List Frame) (meth : Method) (c : Code) (A : Nat → Prop) (D : va_G) (cI cZ : ClassId) (ad : Nat → Nat),
    mcx M p s m args meth c A D cI cZ → ∀ (H : Heap) (locs : List Loc) (ls : Array Slot), va_P D vwCl (mws cI cZ ad G σ) H → va_D A (mws cI cZ ad G σ) → va_S A s.heap H locs → mlh ad ls (m_n M) L →
      W p l e (mroom M) s m args below meth c H locs 0 0 (MQ below (mQ (m_r M) D cI cZ ad G A Q) args s 0 0 A) (F0 m pc ls (S.map (mval ad)))
theorem Met.imp' {l : Launch} {y : MethodName} {ws : List Cond} {rm : Room} {Pc : Array Value → State → Prop} {Qc Qc' : Array Value → State → Outcome → State → Prop} {mc ms : Nat} {free : Addr → Prop} (h : Met l y ws rm Pc Qc mc ms free) (hq : ∀ a s o t, Qc a s o t → Qc' a s o t) : Met l y ws rm Pc Qc' mc ms free := by
  intro p e ha hc hk s m args below hf happ hP hK
  obtain ⟨n, o, h1, h2, h3, h4⟩ := h p e ha hc hk s m args below hf happ hP hK
  exact ⟨n, o, h1, h2, h3, hq _ _ _ _ h4.1, h4.2⟩
theorem HT.mono {G : MG} {M : MI} {as : List MV} {σ : Mem} {Q Q' : Int → Mem → Prop} (h : HT G M as σ Q) (hq : ∀ r σ', R32 r → mokm σ' → Q r σ' → Q' r σ') : HT G M as σ Q' := by
  intro ha hσ l D cI cZ ad sz
  refine Met.imp' (h ha hσ l D cI cZ ad sz) ?_
  rintro a s o t ⟨⟨r, σ', h1, h2, h3, h4, h5⟩, h6⟩
  exact ⟨⟨r, σ', h1, h2, h3, hq r σ' h2 h3 h4, h5⟩, h6⟩
theorem HT.rng {G : MG} {M : MI} {as : List MV} {σ : Mem} {Q : Int → Mem → Prop} (h : (∀ v ∈ as, mok v) → mokm σ → HT G M as σ Q) : HT G M as σ Q := fun ha hσ => h ha hσ ha hσ
theorem HT.of {G : MG} {M : MI} {as : List MV} {σ : Mem} {Q : Int → Mem → Prop} (hy : plainName (m_y M).cls = true) (hlen : (mlay as).length ≤ m_n M) (h : WP G M 0 (ment (m_n M) as) [] σ Q) : HT G M as σ Q := by
  intro ha hσ l D cI cZ ad sz
  refine Met.ofW (cc := m_c M) (maxL := m_n M) (ret := m_r M) hy rfl ?_
  intro p e s m args below meth c s₁ B hml hv
  obtain ⟨rfl, hsz, ⟨hP, hK, hD0⟩, hN⟩ := hv
  have hx := B.exec
  have hb := B.bytes
  have hr := B.returns
  have hts := atoms_spec (ws := wsM M) B.pre
  have hown : s.vm.findClass (m_y M).cls = some m.cls := findClass_of_methodNamed B.named
  have hlocks := B.notSynchronized
  subst hsz
  have hD := hD0.self (sz := s.heap.size)
  have hl := lv_entry (as.map (mval ad)) (n := m_n M) (by rw [mlay_len]; exact hlen)
  rw [lg_entry_eq]
  refine h ?_ (fun v hv => by cases hv) hσ p l e s m _ below meth c _ D cI cZ ad ⟨hx, hb, hml, hown, fun w hw => hts w (List.mem_cons_of_mem _ hw), hlocks, hr, hK, fun q hq => Or.inr hq, hN⟩ s.heap [] _ hP hD va_S.rf (ment_has hl)
  intro v hv
  unfold ment at hv
  rcases List.mem_append.mp hv with h1 | h1
  · have key : ∀ (as : List MV), some v ∈ mlay as → v ∈ as := by
      intro as
      induction as with
      | nil => intro h; cases h
      | cons a r ih =>
        intro h
        rcases a with x | x | x
        · rcases List.mem_cons.mp h with h | h
          · cases h; exact List.mem_cons_self
          · exact List.mem_cons_of_mem _ (ih h)
        · rcases List.mem_cons.mp h with h | h
          · cases h; exact List.mem_cons_self
          · rcases List.mem_cons.mp h with h | h
            · cases h
            · exact List.mem_cons_of_mem _ (ih h)
        · rcases List.mem_cons.mp h with h | h
          · cases h; exact List.mem_cons_self
          · exact List.mem_cons_of_mem _ (ih h)
    exact ha v (key as h1)
  · exact absurd (List.eq_of_mem_replicate h1) (by simp)
end
section
theorem ok_cons {v : MV} {S : List MV} (h : mok v) (hS : ∀ w ∈ S, mok w) : ∀ w ∈ v :: S, mok w := fun w hw => (List.mem_cons.mp hw).elim (fun z => z ▸ h) (hS w)
theorem ok_tl {v : MV} {S : List MV} (h : ∀ w ∈ v :: S, mok w) : ∀ w ∈ S, mok w := fun w hw => h w (List.mem_cons_of_mem _ hw)
theorem ok_hd {v : MV} {S : List MV} (h : ∀ w ∈ v :: S, mok w) : mok v := h v List.mem_cons_self
theorem ok_at {L : List (Option MV)} (h : ∀ v, some v ∈ L → mok v) {i : Nat} {v : MV} (hi : L[i]? = some (some v)) : mok v := h v (List.mem_of_getElem? hi)
theorem ok_mst0 {L : List (Option MV)} (h : ∀ v, some v ∈ L → mok v) (i : Nat) : ∀ v, some v ∈ mst0 L i → mok v := by
  intro v hv
  obtain ⟨j, hj⟩ := List.getElem?_of_mem hv
  exact ok_at h (mst0_get hj).1
theorem ok_mst {L : List (Option MV)} (h : ∀ v, some v ∈ L → mok v) (i : Nat) {x : MV} (hx : mok x) : ∀ v, some v ∈ mst L i x → mok v := by
  intro v hv
  rcases List.mem_or_eq_of_mem_set hv with h1 | h1
  · exact ok_mst0 h i v h1
  · cases h1; exact hx
theorem ok_mst2 {L : List (Option MV)} (h : ∀ v, some v ∈ L → mok v) (i : Nat) {x : MV} (hx : mok x) : ∀ v, some v ∈ mst2 L i x → mok v := by
  intro v hv
  rcases List.mem_or_eq_of_mem_set hv with h1 | h1
  · exact ok_mst h i hx v h1
  · cases h1
theorem WP.iconst {G : MG} {M : MI} {pc : Nat} {L : List (Option MV)} {S : List MV} {σ : Mem} {Q : Int → Mem → Prop} {n : Int} (d : decode (m_c M) pc = .ok (.iconst n, 1)) (hn : R32 n) (k : WP G M (pc + 1) L (mi n :: S) σ Q) : WP G M pc L S σ Q := by
  intro hL hS hσ p l e s m args below meth c A D cI cZ ad C H locs ls hP hD hV hl
  obtain ⟨hx, hb, hml, hown, hts, hlocks, hr, hK, hA, hN⟩ := id C
  exact lv_iconst hx hb d rfl (k hL (ok_cons hn hS) hσ p l e s m args below meth c A D cI cZ ad C H locs ls hP hD hV hl)
theorem WP.bipush {G : MG} {M : MI} {pc : Nat} {L : List (Option MV)} {S : List MV} {σ : Mem} {Q : Int → Mem → Prop} {n : Int} (d : decode (m_c M) pc = .ok (.bipush n, 2)) (hn : R32 n) (hv : (Int8.ofInt n).toInt32 = Int32.ofInt n) (k : WP G M (pc + 2) L (mi n :: S) σ Q) : WP G M pc L S σ Q := by
  intro hL hS hσ p l e s m args below meth c A D cI cZ ad C H locs ls hP hD hV hl
  obtain ⟨hx, hb, hml, hown, hts, hlocks, hr, hK, hA, hN⟩ := id C
  exact lv_bipush hx hb d hv (k hL (ok_cons hn hS) hσ p l e s m args below meth c A D cI cZ ad C H locs ls hP hD hV hl)
theorem WP.sipush {G : MG} {M : MI} {pc : Nat} {L : List (Option MV)} {S : List MV} {σ : Mem} {Q : Int → Mem → Prop} {n : Int} (d : decode (m_c M) pc = .ok (.sipush n, 3)) (hn : R32 n) (hv : (Int16.ofInt n).toInt32 = Int32.ofInt n) (k : WP G M (pc + 3) L (mi n :: S) σ Q) : WP G M pc L S σ Q := by
  intro hL hS hσ p l e s m args below meth c A D cI cZ ad C H locs ls hP hD hV hl
  obtain ⟨hx, hb, hml, hown, hts, hlocks, hr, hK, hA, hN⟩ := id C
  exact lv_sipush hx hb d hv (k hL (ok_cons hn hS) hσ p l e s m args below meth c A D cI cZ ad C H locs ls hP hD hV hl)
theorem WP.lconst {G : MG} {M : MI} {pc : Nat} {L : List (Option MV)} {S : List MV} {σ : Mem} {Q : Int → Mem → Prop} {n : Fin 2} {x : Int} (d : decode (m_c M) pc = .ok (.lconst n, 1)) (hn : R64 x) (hv : Int64.ofNat (n : Nat) = Int64.ofInt x) (k : WP G M (pc + 1) L (ml x :: S) σ Q) : WP G M pc L S σ Q := by
  intro hL hS hσ p l e s m args below meth c A D cI cZ ad C H locs ls hP hD hV hl
  obtain ⟨hx, hb, hml, hown, hts, hlocks, hr, hK, hA, hN⟩ := id C
  exact lv_lconst hx hb d hv (k hL (ok_cons hn hS) hσ p l e s m args below meth c A D cI cZ ad C H locs ls hP hD hV hl)
theorem WP.ldc {G : MG} {M : MI} {pc : Nat} {L : List (Option MV)} {S : List MV} {σ : Mem} {Q : Int → Mem → Prop} {i : Nat} {v : Int32} {x : Int} (d : decode (m_c M) pc = .ok (.ldc i, 2)) (hc : Cond.constant (m_y M).cls i v ∈ TBL) (hn : R32 x) (hv : Int32.ofInt x = v) (k : WP G M (pc + 2) L (mi x :: S) σ Q) : WP G M pc L S σ Q := by
  intro hL hS hσ p l e s m args below meth c A D cI cZ ad C H locs ls hP hD hV hl
  obtain ⟨hx, hb, hml, hown, hts, hlocks, hr, hK, hA, hN⟩ := id C
  subst hv
  exact lv_ldc hx hb hown (hts _ hc) d (k hL (ok_cons hn hS) hσ p l e s m args below meth c A D cI cZ ad C H locs ls hP hD hV hl)
theorem WP.ldcw {G : MG} {M : MI} {pc : Nat} {L : List (Option MV)} {S : List MV} {σ : Mem} {Q : Int → Mem → Prop} {i : Nat} {v : Int32} {x : Int} (d : decode (m_c M) pc = .ok (.ldc_w i, 3)) (hc : Cond.constant (m_y M).cls i v ∈ TBL) (hn : R32 x) (hv : Int32.ofInt x = v) (k : WP G M (pc + 3) L (mi x :: S) σ Q) : WP G M pc L S σ Q := by
  intro hL hS hσ p l e s m args below meth c A D cI cZ ad C H locs ls hP hD hV hl
  obtain ⟨hx, hb, hml, hown, hts, hlocks, hr, hK, hA, hN⟩ := id C
  subst hv
  exact lv_ldcw hx hb hown (hts _ hc) d (k hL (ok_cons hn hS) hσ p l e s m args below meth c A D cI cZ ad C H locs ls hP hD hV hl)
theorem WP.ldc2 {G : MG} {M : MI} {pc : Nat} {L : List (Option MV)} {S : List MV} {σ : Mem} {Q : Int → Mem → Prop} {i : Nat} {v : Int64} {x : Int} (d : decode (m_c M) pc = .ok (.ldc2_w i, 3)) (hc : Cond.constantLong (m_y M).cls i v ∈ TBL) (hn : R64 x) (hv : Int64.ofInt x = v) (k : WP G M (pc + 3) L (ml x :: S) σ Q) : WP G M pc L S σ Q := by
  intro hL hS hσ p l e s m args below meth c A D cI cZ ad C H locs ls hP hD hV hl
  obtain ⟨hx, hb, hml, hown, hts, hlocks, hr, hK, hA, hN⟩ := id C
  subst hv
  exact lv_ldc2 hx hb hown (hts _ hc) d (k hL (ok_cons hn hS) hσ p l e s m args below meth c A D cI cZ ad C H locs ls hP hD hV hl)
theorem WP.iload {G : MG} {M : MI} {pc : Nat} {L : List (Option MV)} {S : List MV} {σ : Mem} {Q : Int → Mem → Prop} {i : Nat} {x : Int} (d : decode (m_c M) pc = .ok (.iload i, 2)) (h : L[i]? = some (some (mi x))) (k : WP G M (pc + 2) L (mi x :: S) σ Q) : WP G M pc L S σ Q := by
  intro hL hS hσ p l e s m args below meth c A D cI cZ ad C H locs ls hP hD hV hl
  obtain ⟨hx, hb, hml, hown, hts, hlocks, hr, hK, hA, hN⟩ := id C
  exact lv_iload hx hb d (hl.2.2 i _ h) (k hL (ok_cons (ok_at hL h) hS) hσ p l e s m args below meth c A D cI cZ ad C H locs ls hP hD hV hl)
theorem WP.iload_n {G : MG} {M : MI} {pc : Nat} {L : List (Option MV)} {S : List MV} {σ : Mem} {Q : Int → Mem → Prop} {j : Fin 4} {x : Int} (d : decode (m_c M) pc = .ok (.iload_n j, 1)) (h : L[(j : Nat)]? = some (some (mi x))) (k : WP G M (pc + 1) L (mi x :: S) σ Q) : WP G M pc L S σ Q := by
  intro hL hS hσ p l e s m args below meth c A D cI cZ ad C H locs ls hP hD hV hl
  obtain ⟨hx, hb, hml, hown, hts, hlocks, hr, hK, hA, hN⟩ := id C
  exact lv_iload_n hx hb d rfl (hl.2.2 _ _ h) (k hL (ok_cons (ok_at hL h) hS) hσ p l e s m args below meth c A D cI cZ ad C H locs ls hP hD hV hl)
theorem WP.lload {G : MG} {M : MI} {pc : Nat} {L : List (Option MV)} {S : List MV} {σ : Mem} {Q : Int → Mem → Prop} {i : Nat} {x : Int} (d : decode (m_c M) pc = .ok (.lload i, 2)) (h : L[i]? = some (some (ml x))) (k : WP G M (pc + 2) L (ml x :: S) σ Q) : WP G M pc L S σ Q := by
  intro hL hS hσ p l e s m args below meth c A D cI cZ ad C H locs ls hP hD hV hl
  obtain ⟨hx, hb, hml, hown, hts, hlocks, hr, hK, hA, hN⟩ := id C
  exact lv_lload hx hb d (hl.2.2 i _ h) (k hL (ok_cons (ok_at hL h) hS) hσ p l e s m args below meth c A D cI cZ ad C H locs ls hP hD hV hl)
theorem WP.lload_n {G : MG} {M : MI} {pc : Nat} {L : List (Option MV)} {S : List MV} {σ : Mem} {Q : Int → Mem → Prop} {j : Fin 4} {x : Int} (d : decode (m_c M) pc = .ok (.lload_n j, 1)) (h : L[(j : Nat)]? = some (some (ml x))) (k : WP G M (pc + 1) L (ml x :: S) σ Q) : WP G M pc L S σ Q := by
  intro hL hS hσ p l e s m args below meth c A D cI cZ ad C H locs ls hP hD hV hl
  obtain ⟨hx, hb, hml, hown, hts, hlocks, hr, hK, hA, hN⟩ := id C
  exact lv_lload_n hx hb d rfl (hl.2.2 _ _ h) (k hL (ok_cons (ok_at hL h) hS) hσ p l e s m args below meth c A D cI cZ ad C H locs ls hP hD hV hl)
theorem WP.aload {G : MG} {M : MI} {pc : Nat} {L : List (Option MV)} {S : List MV} {σ : Mem} {Q : Int → Mem → Prop} {i : Nat} {x : Nat} (d : decode (m_c M) pc = .ok (.aload i, 2)) (h : L[i]? = some (some (mr x))) (k : WP G M (pc + 2) L (mr x :: S) σ Q) : WP G M pc L S σ Q := by
  intro hL hS hσ p l e s m args below meth c A D cI cZ ad C H locs ls hP hD hV hl
  obtain ⟨hx, hb, hml, hown, hts, hlocks, hr, hK, hA, hN⟩ := id C
  exact lv_aload hx hb d (hl.2.2 i _ h) (k hL (ok_cons trivial hS) hσ p l e s m args below meth c A D cI cZ ad C H locs ls hP hD hV hl)
theorem WP.aload_n {G : MG} {M : MI} {pc : Nat} {L : List (Option MV)} {S : List MV} {σ : Mem} {Q : Int → Mem → Prop} {j : Fin 4} {x : Nat} (d : decode (m_c M) pc = .ok (.aload_n j, 1)) (h : L[(j : Nat)]? = some (some (mr x))) (k : WP G M (pc + 1) L (mr x :: S) σ Q) : WP G M pc L S σ Q := by
  intro hL hS hσ p l e s m args below meth c A D cI cZ ad C H locs ls hP hD hV hl
  obtain ⟨hx, hb, hml, hown, hts, hlocks, hr, hK, hA, hN⟩ := id C
  exact lv_aload_n hx hb d rfl (hl.2.2 _ _ h) (k hL (ok_cons trivial hS) hσ p l e s m args below meth c A D cI cZ ad C H locs ls hP hD hV hl)
theorem WP.istore {G : MG} {M : MI} {pc : Nat} {L : List (Option MV)} {S : List MV} {σ : Mem} {Q : Int → Mem → Prop} {i : Nat} {x : Int} {L2 : List (Option MV)} (d : decode (m_c M) pc = .ok (.istore i, 2)) (hi : i < m_n M) (h : mst L i (mi x) = L2) (k : WP G M (pc + 2) L2 S σ Q) : WP G M pc L (mi x :: S) σ Q := by
  intro hL hS hσ p l e s m args below meth c A D cI cZ ad C H locs ls hP hD hV hl
  obtain ⟨hx, hb, hml, hown, hts, hlocks, hr, hK, hA, hN⟩ := id C
  subst h
  exact lv_istore hx hb d (mlh_has hl) hi rfl (fun ls2 hl2 => k (ok_mst hL i (ok_hd hS)) (ok_tl hS) hσ p l e s m args below meth c A D cI cZ ad C H locs ls2 hP hD hV (mst_has (v := mi x) hl2))
theorem WP.istore_n {G : MG} {M : MI} {pc : Nat} {L : List (Option MV)} {S : List MV} {σ : Mem} {Q : Int → Mem → Prop} {j : Fin 4} {x : Int} {L2 : List (Option MV)} (d : decode (m_c M) pc = .ok (.istore_n j, 1)) (hi : (j : Nat) < m_n M) (h : mst L j (mi x) = L2) (k : WP G M (pc + 1) L2 S σ Q) : WP G M pc L (mi x :: S) σ Q := by
  intro hL hS hσ p l e s m args below meth c A D cI cZ ad C H locs ls hP hD hV hl
  obtain ⟨hx, hb, hml, hown, hts, hlocks, hr, hK, hA, hN⟩ := id C
  subst h
  exact lv_istore_n hx hb d rfl (mlh_has hl) hi rfl (fun ls2 hl2 => k (ok_mst hL j (ok_hd hS)) (ok_tl hS) hσ p l e s m args below meth c A D cI cZ ad C H locs ls2 hP hD hV (mst_has (v := mi x) hl2))
theorem WP.lstore {G : MG} {M : MI} {pc : Nat} {L : List (Option MV)} {S : List MV} {σ : Mem} {Q : Int → Mem → Prop} {i : Nat} {x : Int} {L2 : List (Option MV)} (d : decode (m_c M) pc = .ok (.lstore i, 2)) (hi : i + 1 < m_n M) (h : mst2 L i (ml x) = L2) (k : WP G M (pc + 2) L2 S σ Q) : WP G M pc L (ml x :: S) σ Q := by
  intro hL hS hσ p l e s m args below meth c A D cI cZ ad C H locs ls hP hD hV hl
  obtain ⟨hx, hb, hml, hown, hts, hlocks, hr, hK, hA, hN⟩ := id C
  subst h
  exact lv_lstore hx hb d (mlh_has hl) hi rfl (fun ls2 hl2 => k (ok_mst2 hL i (ok_hd hS)) (ok_tl hS) hσ p l e s m args below meth c A D cI cZ ad C H locs ls2 hP hD hV (mst2_has (v := ml x) hl2))
theorem WP.astore {G : MG} {M : MI} {pc : Nat} {L : List (Option MV)} {S : List MV} {σ : Mem} {Q : Int → Mem → Prop} {i : Nat} {x : Nat} {L2 : List (Option MV)} (d : decode (m_c M) pc = .ok (.astore i, 2)) (hi : i < m_n M) (h : mst L i (mr x) = L2) (k : WP G M (pc + 2) L2 S σ Q) : WP G M pc L (mr x :: S) σ Q := by
  intro hL hS hσ p l e s m args below meth c A D cI cZ ad C H locs ls hP hD hV hl
  obtain ⟨hx, hb, hml, hown, hts, hlocks, hr, hK, hA, hN⟩ := id C
  subst h
  exact lv_astore hx hb d (mlh_has hl) hi rfl (fun ls2 hl2 => k (ok_mst hL i trivial) (ok_tl hS) hσ p l e s m args below meth c A D cI cZ ad C H locs ls2 hP hD hV (mst_has (v := mr x) hl2))
def jadd (a b : Int) : Int := (Int32.ofInt a + Int32.ofInt b).toInt
theorem o_iadd (a b : Int) : Int32.ofInt (jadd a b) = Int32.ofInt a + Int32.ofInt b := Int32.ofInt_toInt _
theorem WP.iadd {G : MG} {M : MI} {pc : Nat} {L : List (Option MV)} {S : List MV} {σ : Mem} {Q : Int → Mem → Prop} {a b : Int} (d : decode (m_c M) pc = .ok (.iadd, 1))  (k : WP G M (pc + 1) L (mi (jadd a b) :: S) σ Q) : WP G M pc L (mi b :: mi a :: S) σ Q := by
  intro hL hS hσ p l e s m args below meth c A D cI cZ ad C H locs ls hP hD hV hl
  obtain ⟨hx, hb, hml, hown, hts, hlocks, hr, hK, hA, hN⟩ := id C
  have kk := k hL (ok_cons (r32_of _) (ok_tl (ok_tl hS))) hσ p l e s m args below meth c A D cI cZ ad C H locs ls hP hD hV hl
  simp only [List.map_cons, mval, o_iadd] at kk
  exact lv_iadd hx hb d  kk
def jsub (a b : Int) : Int := (Int32.ofInt a - Int32.ofInt b).toInt
theorem o_isub (a b : Int) : Int32.ofInt (jsub a b) = Int32.ofInt a - Int32.ofInt b := Int32.ofInt_toInt _
theorem WP.isub {G : MG} {M : MI} {pc : Nat} {L : List (Option MV)} {S : List MV} {σ : Mem} {Q : Int → Mem → Prop} {a b : Int} (d : decode (m_c M) pc = .ok (.isub, 1))  (k : WP G M (pc + 1) L (mi (jsub a b) :: S) σ Q) : WP G M pc L (mi b :: mi a :: S) σ Q := by
  intro hL hS hσ p l e s m args below meth c A D cI cZ ad C H locs ls hP hD hV hl
  obtain ⟨hx, hb, hml, hown, hts, hlocks, hr, hK, hA, hN⟩ := id C
  have kk := k hL (ok_cons (r32_of _) (ok_tl (ok_tl hS))) hσ p l e s m args below meth c A D cI cZ ad C H locs ls hP hD hV hl
  simp only [List.map_cons, mval, o_isub] at kk
  exact lv_isub hx hb d  kk
def jmul (a b : Int) : Int := (Int32.ofInt a * Int32.ofInt b).toInt
theorem o_imul (a b : Int) : Int32.ofInt (jmul a b) = Int32.ofInt a * Int32.ofInt b := Int32.ofInt_toInt _
theorem WP.imul {G : MG} {M : MI} {pc : Nat} {L : List (Option MV)} {S : List MV} {σ : Mem} {Q : Int → Mem → Prop} {a b : Int} (d : decode (m_c M) pc = .ok (.imul, 1))  (k : WP G M (pc + 1) L (mi (jmul a b) :: S) σ Q) : WP G M pc L (mi b :: mi a :: S) σ Q := by
  intro hL hS hσ p l e s m args below meth c A D cI cZ ad C H locs ls hP hD hV hl
  obtain ⟨hx, hb, hml, hown, hts, hlocks, hr, hK, hA, hN⟩ := id C
  have kk := k hL (ok_cons (r32_of _) (ok_tl (ok_tl hS))) hσ p l e s m args below meth c A D cI cZ ad C H locs ls hP hD hV hl
  simp only [List.map_cons, mval, o_imul] at kk
  exact lv_imul hx hb d  kk
def jand (a b : Int) : Int := (Int32.ofInt a &&& Int32.ofInt b).toInt
theorem o_iand (a b : Int) : Int32.ofInt (jand a b) = Int32.ofInt a &&& Int32.ofInt b := Int32.ofInt_toInt _
theorem WP.iand {G : MG} {M : MI} {pc : Nat} {L : List (Option MV)} {S : List MV} {σ : Mem} {Q : Int → Mem → Prop} {a b : Int} (d : decode (m_c M) pc = .ok (.iand, 1))  (k : WP G M (pc + 1) L (mi (jand a b) :: S) σ Q) : WP G M pc L (mi b :: mi a :: S) σ Q := by
  intro hL hS hσ p l e s m args below meth c A D cI cZ ad C H locs ls hP hD hV hl
  obtain ⟨hx, hb, hml, hown, hts, hlocks, hr, hK, hA, hN⟩ := id C
  have kk := k hL (ok_cons (r32_of _) (ok_tl (ok_tl hS))) hσ p l e s m args below meth c A D cI cZ ad C H locs ls hP hD hV hl
  simp only [List.map_cons, mval, o_iand] at kk
  exact lv_iand hx hb d  kk
def jor (a b : Int) : Int := (Int32.ofInt a ||| Int32.ofInt b).toInt
theorem o_ior (a b : Int) : Int32.ofInt (jor a b) = Int32.ofInt a ||| Int32.ofInt b := Int32.ofInt_toInt _
theorem WP.ior {G : MG} {M : MI} {pc : Nat} {L : List (Option MV)} {S : List MV} {σ : Mem} {Q : Int → Mem → Prop} {a b : Int} (d : decode (m_c M) pc = .ok (.ior, 1))  (k : WP G M (pc + 1) L (mi (jor a b) :: S) σ Q) : WP G M pc L (mi b :: mi a :: S) σ Q := by
  intro hL hS hσ p l e s m args below meth c A D cI cZ ad C H locs ls hP hD hV hl
  obtain ⟨hx, hb, hml, hown, hts, hlocks, hr, hK, hA, hN⟩ := id C
  have kk := k hL (ok_cons (r32_of _) (ok_tl (ok_tl hS))) hσ p l e s m args below meth c A D cI cZ ad C H locs ls hP hD hV hl
  simp only [List.map_cons, mval, o_ior] at kk
  exact lv_ior hx hb d  kk
def jxor (a b : Int) : Int := (Int32.ofInt a ^^^ Int32.ofInt b).toInt
theorem o_ixor (a b : Int) : Int32.ofInt (jxor a b) = Int32.ofInt a ^^^ Int32.ofInt b := Int32.ofInt_toInt _
theorem WP.ixor {G : MG} {M : MI} {pc : Nat} {L : List (Option MV)} {S : List MV} {σ : Mem} {Q : Int → Mem → Prop} {a b : Int} (d : decode (m_c M) pc = .ok (.ixor, 1))  (k : WP G M (pc + 1) L (mi (jxor a b) :: S) σ Q) : WP G M pc L (mi b :: mi a :: S) σ Q := by
  intro hL hS hσ p l e s m args below meth c A D cI cZ ad C H locs ls hP hD hV hl
  obtain ⟨hx, hb, hml, hown, hts, hlocks, hr, hK, hA, hN⟩ := id C
  have kk := k hL (ok_cons (r32_of _) (ok_tl (ok_tl hS))) hσ p l e s m args below meth c A D cI cZ ad C H locs ls hP hD hV hl
  simp only [List.map_cons, mval, o_ixor] at kk
  exact lv_ixor hx hb d  kk
def jdiv (a b : Int) : Int := (Int32.ofInt a / Int32.ofInt b).toInt
theorem o_idiv (a b : Int) : Int32.ofInt (jdiv a b) = Int32.ofInt a / Int32.ofInt b := Int32.ofInt_toInt _
theorem WP.idiv {G : MG} {M : MI} {pc : Nat} {L : List (Option MV)} {S : List MV} {σ : Mem} {Q : Int → Mem → Prop} {a b : Int} (d : decode (m_c M) pc = .ok (.idiv, 1)) (hb0 : ¬ b = 0) (k : WP G M (pc + 1) L (mi (jdiv a b) :: S) σ Q) : WP G M pc L (mi b :: mi a :: S) σ Q := by
  intro hL hS hσ p l e s m args below meth c A D cI cZ ad C H locs ls hP hD hV hl
  obtain ⟨hx, hb, hml, hown, hts, hlocks, hr, hK, hA, hN⟩ := id C
  have hb0 : ¬ Int32.ofInt b = 0 := fun z => hb0 (by have hq : R32 b := hS (mi b) List.mem_cons_self; have h1 := r32_lo hq; rw [z] at h1; exact h1.symm)
  have kk := k hL (ok_cons (r32_of _) (ok_tl (ok_tl hS))) hσ p l e s m args below meth c A D cI cZ ad C H locs ls hP hD hV hl
  simp only [List.map_cons, mval, o_idiv] at kk
  exact lv_idiv hx hb d hb0 kk
def jrem (a b : Int) : Int := ((Int32.ofInt a) - (Int32.ofInt a) / (Int32.ofInt b) * (Int32.ofInt b)).toInt
theorem o_irem (a b : Int) : Int32.ofInt (jrem a b) = (Int32.ofInt a) - (Int32.ofInt a) / (Int32.ofInt b) * (Int32.ofInt b) := Int32.ofInt_toInt _
theorem WP.irem {G : MG} {M : MI} {pc : Nat} {L : List (Option MV)} {S : List MV} {σ : Mem} {Q : Int → Mem → Prop} {a b : Int} (d : decode (m_c M) pc = .ok (.irem, 1)) (hb0 : ¬ b = 0) (k : WP G M (pc + 1) L (mi (jrem a b) :: S) σ Q) : WP G M pc L (mi b :: mi a :: S) σ Q := by
  intro hL hS hσ p l e s m args below meth c A D cI cZ ad C H locs ls hP hD hV hl
  obtain ⟨hx, hb, hml, hown, hts, hlocks, hr, hK, hA, hN⟩ := id C
  have hb0 : ¬ Int32.ofInt b = 0 := fun z => hb0 (by have hq : R32 b := hS (mi b) List.mem_cons_self; have h1 := r32_lo hq; rw [z] at h1; exact h1.symm)
  have kk := k hL (ok_cons (r32_of _) (ok_tl (ok_tl hS))) hσ p l e s m args below meth c A D cI cZ ad C H locs ls hP hD hV hl
  simp only [List.map_cons, mval, o_irem] at kk
  exact lv_irem hx hb d hb0 kk
def jshl (a b : Int) : Int := (Int32.ofInt a <<< (Int32.ofInt b &&& 31)).toInt
theorem o_ishl (a b : Int) : Int32.ofInt (jshl a b) = Int32.ofInt a <<< (Int32.ofInt b &&& 31) := Int32.ofInt_toInt _
theorem WP.ishl {G : MG} {M : MI} {pc : Nat} {L : List (Option MV)} {S : List MV} {σ : Mem} {Q : Int → Mem → Prop} {a b : Int} (d : decode (m_c M) pc = .ok (.ishl, 1))  (k : WP G M (pc + 1) L (mi (jshl a b) :: S) σ Q) : WP G M pc L (mi b :: mi a :: S) σ Q := by
  intro hL hS hσ p l e s m args below meth c A D cI cZ ad C H locs ls hP hD hV hl
  obtain ⟨hx, hb, hml, hown, hts, hlocks, hr, hK, hA, hN⟩ := id C
  have kk := k hL (ok_cons (r32_of _) (ok_tl (ok_tl hS))) hσ p l e s m args below meth c A D cI cZ ad C H locs ls hP hD hV hl
  simp only [List.map_cons, mval, o_ishl] at kk
  exact lv_ishl hx hb d  kk
def jshr (a b : Int) : Int := (Int32.ofInt a >>> (Int32.ofInt b &&& 31)).toInt
theorem o_ishr (a b : Int) : Int32.ofInt (jshr a b) = Int32.ofInt a >>> (Int32.ofInt b &&& 31) := Int32.ofInt_toInt _
theorem WP.ishr {G : MG} {M : MI} {pc : Nat} {L : List (Option MV)} {S : List MV} {σ : Mem} {Q : Int → Mem → Prop} {a b : Int} (d : decode (m_c M) pc = .ok (.ishr, 1))  (k : WP G M (pc + 1) L (mi (jshr a b) :: S) σ Q) : WP G M pc L (mi b :: mi a :: S) σ Q := by
  intro hL hS hσ p l e s m args below meth c A D cI cZ ad C H locs ls hP hD hV hl
  obtain ⟨hx, hb, hml, hown, hts, hlocks, hr, hK, hA, hN⟩ := id C
  have kk := k hL (ok_cons (r32_of _) (ok_tl (ok_tl hS))) hσ p l e s m args below meth c A D cI cZ ad C H locs ls hP hD hV hl
  simp only [List.map_cons, mval, o_ishr] at kk
  exact lv_ishr hx hb d  kk
def jladd (a b : Int) : Int := (Int64.ofInt a + Int64.ofInt b).toInt
theorem o_ladd (a b : Int) : Int64.ofInt (jladd a b) = Int64.ofInt a + Int64.ofInt b := Int64.ofInt_toInt _
theorem WP.ladd {G : MG} {M : MI} {pc : Nat} {L : List (Option MV)} {S : List MV} {σ : Mem} {Q : Int → Mem → Prop} {a b : Int} (d : decode (m_c M) pc = .ok (.ladd, 1))  (k : WP G M (pc + 1) L (ml (jladd a b) :: S) σ Q) : WP G M pc L (ml b :: ml a :: S) σ Q := by
  intro hL hS hσ p l e s m args below meth c A D cI cZ ad C H locs ls hP hD hV hl
  obtain ⟨hx, hb, hml, hown, hts, hlocks, hr, hK, hA, hN⟩ := id C
  have kk := k hL (ok_cons (r64_of _) (ok_tl (ok_tl hS))) hσ p l e s m args below meth c A D cI cZ ad C H locs ls hP hD hV hl
  simp only [List.map_cons, mval, o_ladd] at kk
  exact lv_ladd hx hb d  kk
def jlsub (a b : Int) : Int := (Int64.ofInt a - Int64.ofInt b).toInt
theorem o_lsub (a b : Int) : Int64.ofInt (jlsub a b) = Int64.ofInt a - Int64.ofInt b := Int64.ofInt_toInt _
theorem WP.lsub {G : MG} {M : MI} {pc : Nat} {L : List (Option MV)} {S : List MV} {σ : Mem} {Q : Int → Mem → Prop} {a b : Int} (d : decode (m_c M) pc = .ok (.lsub, 1))  (k : WP G M (pc + 1) L (ml (jlsub a b) :: S) σ Q) : WP G M pc L (ml b :: ml a :: S) σ Q := by
  intro hL hS hσ p l e s m args below meth c A D cI cZ ad C H locs ls hP hD hV hl
  obtain ⟨hx, hb, hml, hown, hts, hlocks, hr, hK, hA, hN⟩ := id C
  have kk := k hL (ok_cons (r64_of _) (ok_tl (ok_tl hS))) hσ p l e s m args below meth c A D cI cZ ad C H locs ls hP hD hV hl
  simp only [List.map_cons, mval, o_lsub] at kk
  exact lv_lsub hx hb d  kk
def jlmul (a b : Int) : Int := (Int64.ofInt a * Int64.ofInt b).toInt
theorem o_lmul (a b : Int) : Int64.ofInt (jlmul a b) = Int64.ofInt a * Int64.ofInt b := Int64.ofInt_toInt _
theorem WP.lmul {G : MG} {M : MI} {pc : Nat} {L : List (Option MV)} {S : List MV} {σ : Mem} {Q : Int → Mem → Prop} {a b : Int} (d : decode (m_c M) pc = .ok (.lmul, 1))  (k : WP G M (pc + 1) L (ml (jlmul a b) :: S) σ Q) : WP G M pc L (ml b :: ml a :: S) σ Q := by
  intro hL hS hσ p l e s m args below meth c A D cI cZ ad C H locs ls hP hD hV hl
  obtain ⟨hx, hb, hml, hown, hts, hlocks, hr, hK, hA, hN⟩ := id C
  have kk := k hL (ok_cons (r64_of _) (ok_tl (ok_tl hS))) hσ p l e s m args below meth c A D cI cZ ad C H locs ls hP hD hV hl
  simp only [List.map_cons, mval, o_lmul] at kk
  exact lv_lmul hx hb d  kk
def jland (a b : Int) : Int := (Int64.ofInt a &&& Int64.ofInt b).toInt
theorem o_land (a b : Int) : Int64.ofInt (jland a b) = Int64.ofInt a &&& Int64.ofInt b := Int64.ofInt_toInt _
theorem WP.land {G : MG} {M : MI} {pc : Nat} {L : List (Option MV)} {S : List MV} {σ : Mem} {Q : Int → Mem → Prop} {a b : Int} (d : decode (m_c M) pc = .ok (.land, 1))  (k : WP G M (pc + 1) L (ml (jland a b) :: S) σ Q) : WP G M pc L (ml b :: ml a :: S) σ Q := by
  intro hL hS hσ p l e s m args below meth c A D cI cZ ad C H locs ls hP hD hV hl
  obtain ⟨hx, hb, hml, hown, hts, hlocks, hr, hK, hA, hN⟩ := id C
  have kk := k hL (ok_cons (r64_of _) (ok_tl (ok_tl hS))) hσ p l e s m args below meth c A D cI cZ ad C H locs ls hP hD hV hl
  simp only [List.map_cons, mval, o_land] at kk
  exact lv_land hx hb d  kk
def jlor (a b : Int) : Int := (Int64.ofInt a ||| Int64.ofInt b).toInt
theorem o_lor (a b : Int) : Int64.ofInt (jlor a b) = Int64.ofInt a ||| Int64.ofInt b := Int64.ofInt_toInt _
theorem WP.lor {G : MG} {M : MI} {pc : Nat} {L : List (Option MV)} {S : List MV} {σ : Mem} {Q : Int → Mem → Prop} {a b : Int} (d : decode (m_c M) pc = .ok (.lor, 1))  (k : WP G M (pc + 1) L (ml (jlor a b) :: S) σ Q) : WP G M pc L (ml b :: ml a :: S) σ Q := by
  intro hL hS hσ p l e s m args below meth c A D cI cZ ad C H locs ls hP hD hV hl
  obtain ⟨hx, hb, hml, hown, hts, hlocks, hr, hK, hA, hN⟩ := id C
  have kk := k hL (ok_cons (r64_of _) (ok_tl (ok_tl hS))) hσ p l e s m args below meth c A D cI cZ ad C H locs ls hP hD hV hl
  simp only [List.map_cons, mval, o_lor] at kk
  exact lv_lor hx hb d  kk
def jushr (a b : Int) : Int := (((Int32.ofInt a).toUInt32 >>> ((Int32.ofInt b).toUInt32 &&& Int32.toUInt32 31)).toInt32).toInt
theorem o_iushr (a b : Int) : Int32.ofInt (jushr a b) = ((Int32.ofInt a).toUInt32 >>> ((Int32.ofInt b).toUInt32 &&& Int32.toUInt32 31)).toInt32 := Int32.ofInt_toInt _
theorem WP.iushr {G : MG} {M : MI} {pc : Nat} {L : List (Option MV)} {S : List MV} {σ : Mem} {Q : Int → Mem → Prop} {a b : Int} (d : decode (m_c M) pc = .ok (.iushr, 1))  (k : WP G M (pc + 1) L (mi (jushr a b) :: S) σ Q) : WP G M pc L (mi b :: mi a :: S) σ Q := by
  intro hL hS hσ p l e s m args below meth c A D cI cZ ad C H locs ls hP hD hV hl
  obtain ⟨hx, hb, hml, hown, hts, hlocks, hr, hK, hA, hN⟩ := id C
  exact lv_iushr hx hb d (o_iushr a b).symm (k hL (ok_cons (r32_of _) (ok_tl (ok_tl hS))) hσ p l e s m args below meth c A D cI cZ ad C H locs ls hP hD hV hl)
def jlshl (a b : Int) : Int := (Int64.ofInt a <<< ((Int32.ofInt b).toInt64 &&& 63)).toInt
theorem o_lshl (a b : Int) : Int64.ofInt (jlshl a b) = Int64.ofInt a <<< ((Int32.ofInt b).toInt64 &&& 63) := Int64.ofInt_toInt _
theorem WP.lshl {G : MG} {M : MI} {pc : Nat} {L : List (Option MV)} {S : List MV} {σ : Mem} {Q : Int → Mem → Prop} {a b : Int} (d : decode (m_c M) pc = .ok (.lshl, 1))  (k : WP G M (pc + 1) L (ml (jlshl a b) :: S) σ Q) : WP G M pc L (mi b :: ml a :: S) σ Q := by
  intro hL hS hσ p l e s m args below meth c A D cI cZ ad C H locs ls hP hD hV hl
  obtain ⟨hx, hb, hml, hown, hts, hlocks, hr, hK, hA, hN⟩ := id C
  exact lv_lshl hx hb d (o_lshl a b).symm (k hL (ok_cons (r64_of _) (ok_tl (ok_tl hS))) hσ p l e s m args below meth c A D cI cZ ad C H locs ls hP hD hV hl)
def jlshr (a b : Int) : Int := (Int64.ofInt a >>> ((Int32.ofInt b).toInt64 &&& 63)).toInt
theorem o_lshr (a b : Int) : Int64.ofInt (jlshr a b) = Int64.ofInt a >>> ((Int32.ofInt b).toInt64 &&& 63) := Int64.ofInt_toInt _
theorem WP.lshr {G : MG} {M : MI} {pc : Nat} {L : List (Option MV)} {S : List MV} {σ : Mem} {Q : Int → Mem → Prop} {a b : Int} (d : decode (m_c M) pc = .ok (.lshr, 1))  (k : WP G M (pc + 1) L (ml (jlshr a b) :: S) σ Q) : WP G M pc L (mi b :: ml a :: S) σ Q := by
  intro hL hS hσ p l e s m args below meth c A D cI cZ ad C H locs ls hP hD hV hl
  obtain ⟨hx, hb, hml, hown, hts, hlocks, hr, hK, hA, hN⟩ := id C
  exact lv_lshr hx hb d (o_lshr a b).symm (k hL (ok_cons (r64_of _) (ok_tl (ok_tl hS))) hσ p l e s m args below meth c A D cI cZ ad C H locs ls hP hD hV hl)
def jl2i (a : Int) : Int := (Int64.ofInt a).toInt32.toInt
def j2b (a : Int) : Int := (Int32.ofInt a).toInt8.toInt32.toInt
def j2s (a : Int) : Int := (Int32.ofInt a).toInt16.toInt32.toInt
theorem WP.l2i {G : MG} {M : MI} {pc : Nat} {L : List (Option MV)} {S : List MV} {σ : Mem} {Q : Int → Mem → Prop} {a : Int} (d : decode (m_c M) pc = .ok (.l2i, 1))  (k : WP G M (pc + 1) L (mi (jl2i a) :: S) σ Q) : WP G M pc L (ml a :: S) σ Q := by
  intro hL hS hσ p l e s m args below meth c A D cI cZ ad C H locs ls hP hD hV hl
  obtain ⟨hx, hb, hml, hown, hts, hlocks, hr, hK, hA, hN⟩ := id C
  exact lv_l2i hx hb d (Int32.ofInt_toInt _).symm (k hL (ok_cons (r32_of _) (ok_tl hS)) hσ p l e s m args below meth c A D cI cZ ad C H locs ls hP hD hV hl)
theorem WP.i2b {G : MG} {M : MI} {pc : Nat} {L : List (Option MV)} {S : List MV} {σ : Mem} {Q : Int → Mem → Prop} {a : Int} (d : decode (m_c M) pc = .ok (.i2b, 1))  (k : WP G M (pc + 1) L (mi (j2b a) :: S) σ Q) : WP G M pc L (mi a :: S) σ Q := by
  intro hL hS hσ p l e s m args below meth c A D cI cZ ad C H locs ls hP hD hV hl
  obtain ⟨hx, hb, hml, hown, hts, hlocks, hr, hK, hA, hN⟩ := id C
  exact lv_i2b hx hb d (Int32.ofInt_toInt _).symm (k hL (ok_cons (r32_of _) (ok_tl hS)) hσ p l e s m args below meth c A D cI cZ ad C H locs ls hP hD hV hl)
theorem WP.i2s {G : MG} {M : MI} {pc : Nat} {L : List (Option MV)} {S : List MV} {σ : Mem} {Q : Int → Mem → Prop} {a : Int} (d : decode (m_c M) pc = .ok (.i2s, 1))  (k : WP G M (pc + 1) L (mi (j2s a) :: S) σ Q) : WP G M pc L (mi a :: S) σ Q := by
  intro hL hS hσ p l e s m args below meth c A D cI cZ ad C H locs ls hP hD hV hl
  obtain ⟨hx, hb, hml, hown, hts, hlocks, hr, hK, hA, hN⟩ := id C
  exact lv_i2s hx hb d (Int32.ofInt_toInt _).symm (k hL (ok_cons (r32_of _) (ok_tl hS)) hσ p l e s m args below meth c A D cI cZ ad C H locs ls hP hD hV hl)
theorem w_i2l {a : Int} (h : R32 a) : (Int32.ofInt a).toInt64 = Int64.ofInt a := by
  apply Int64.toInt_inj.mp
  rw [Int32.toInt_toInt64, r32_lo h, r64_lo ⟨by omega, by omega⟩]
theorem WP.i2l {G : MG} {M : MI} {pc : Nat} {L : List (Option MV)} {S : List MV} {σ : Mem} {Q : Int → Mem → Prop} {a : Int} (d : decode (m_c M) pc = .ok (.i2l, 1))  (k : WP G M (pc + 1) L (ml a :: S) σ Q) : WP G M pc L (mi a :: S) σ Q := by
  intro hL hS hσ p l e s m args below meth c A D cI cZ ad C H locs ls hP hD hV hl
  obtain ⟨hx, hb, hml, hown, hts, hlocks, hr, hK, hA, hN⟩ := id C
  have ha : R32 a := ok_hd hS
  exact lv_i2l hx hb d (w_i2l ha) (k hL (ok_cons (show R64 a from ⟨by omega, by omega⟩) (ok_tl hS)) hσ p l e s m args below meth c A D cI cZ ad C H locs ls hP hD hV hl)
def lcmpM (a b : Int) : Int := if b < a then 1 else if a = b then 0 else -1
theorem w_lcmp {a b : Int} (ha : R64 a) (hb : R64 b) : lg_cmp (Int64.ofInt a) (Int64.ofInt b) = Int32.ofInt (lcmpM a b) := by
  unfold lg_cmp lcmpM
  simp only [gt_iff_lt, Int64.lt_iff_toInt_lt, ← Int64.toInt_inj, r64_lo ha, r64_lo hb]
  repeat' split
  all_goals rfl
theorem WP.lcmp {G : MG} {M : MI} {pc : Nat} {L : List (Option MV)} {S : List MV} {σ : Mem} {Q : Int → Mem → Prop} {a b : Int} (d : decode (m_c M) pc = .ok (.lcmp, 1))  (k : WP G M (pc + 1) L (mi (lcmpM a b) :: S) σ Q) : WP G M pc L (ml b :: ml a :: S) σ Q := by
  intro hL hS hσ p l e s m args below meth c A D cI cZ ad C H locs ls hP hD hV hl
  obtain ⟨hx, hb, hml, hown, hts, hlocks, hr, hK, hA, hN⟩ := id C
  have hr0 : R32 (lcmpM a b) := by unfold lcmpM; repeat' split
                                   all_goals exact ⟨by decide, by decide⟩
  have kk := k hL (ok_cons hr0 (ok_tl (ok_tl hS))) hσ p l e s m args below meth c A D cI cZ ad C H locs ls hP hD hV hl
  simp only [List.map_cons, mval, ← w_lcmp (show R64 a from hS (ml a) (List.mem_cons_of_mem _ List.mem_cons_self)) (show R64 b from ok_hd hS)] at kk
  exact W.lcmp hx hb d kk
theorem WP.dup {G : MG} {M : MI} {pc : Nat} {L : List (Option MV)} {S : List MV} {σ : Mem} {Q : Int → Mem → Prop} {v : MV} (d : decode (m_c M) pc = .ok (.dup, 1)) (hv : mcat v = 1) (k : WP G M (pc + 1) L (v :: v :: S) σ Q) : WP G M pc L (v :: S) σ Q := by
  intro hL hS hσ p l e s m args below meth c A D cI cZ ad C H locs ls hP hD hV hl
  obtain ⟨hx, hb, hml, hown, hts, hlocks, hr, hK, hA, hN⟩ := id C
  exact lv_dup hx hb d ((mcat_val ad v).trans hv) (k hL (ok_cons (ok_hd hS) hS) hσ p l e s m args below meth c A D cI cZ ad C H locs ls hP hD hV hl)
theorem WP.pop {G : MG} {M : MI} {pc : Nat} {L : List (Option MV)} {S : List MV} {σ : Mem} {Q : Int → Mem → Prop} {v : MV} (d : decode (m_c M) pc = .ok (.pop, 1)) (hv : mcat v = 1) (k : WP G M (pc + 1) L S σ Q) : WP G M pc L (v :: S) σ Q := by
  intro hL hS hσ p l e s m args below meth c A D cI cZ ad C H locs ls hP hD hV hl
  obtain ⟨hx, hb, hml, hown, hts, hlocks, hr, hK, hA, hN⟩ := id C
  exact lv_pop hx hb d ((mcat_val ad v).trans hv) (k hL (ok_tl hS) hσ p l e s m args below meth c A D cI cZ ad C H locs ls hP hD hV hl)
theorem WP.dup2 {G : MG} {M : MI} {pc : Nat} {L : List (Option MV)} {S : List MV} {σ : Mem} {Q : Int → Mem → Prop} {v w : MV} (d : decode (m_c M) pc = .ok (.dup2, 1)) (hv : mcat v = 1) (hw : mcat w = 1) (k : WP G M (pc + 1) L (v :: w :: v :: w :: S) σ Q) : WP G M pc L (v :: w :: S) σ Q := by
  intro hL hS hσ p l e s m args below meth c A D cI cZ ad C H locs ls hP hD hV hl
  obtain ⟨hx, hb, hml, hown, hts, hlocks, hr, hK, hA, hN⟩ := id C
  exact lv_dup2_11 hx hb d ((mcat_val ad v).trans hv) ((mcat_val ad w).trans hw) (k hL (ok_cons (ok_hd hS) (ok_cons (ok_hd (ok_tl hS)) hS)) hσ p l e s m args below meth c A D cI cZ ad C H locs ls hP hD hV hl)
theorem w_eq0 {a : Int} (h : R32 a) : Int32.ofInt a = 0 ↔ a = 0 := by
  rw [← Int32.toInt_inj, r32_lo h]; rfl
theorem w_lt0 {a : Int} (h : R32 a) : Int32.ofInt a < 0 ↔ a < 0 := by
  rw [Int32.lt_iff_toInt_lt, r32_lo h]; rfl
theorem w_ge0 {a : Int} (h : R32 a) : 0 ≤ Int32.ofInt a ↔ 0 ≤ a := by
  rw [Int32.le_iff_toInt_le, r32_lo h]; rfl
theorem w_gt0 {a : Int} (h : R32 a) : 0 < Int32.ofInt a ↔ 0 < a := by
  rw [Int32.lt_iff_toInt_lt, r32_lo h]; rfl
theorem w_le0 {a : Int} (h : R32 a) : Int32.ofInt a ≤ 0 ↔ a ≤ 0 := by
  rw [Int32.le_iff_toInt_le, r32_lo h]; rfl
theorem w_eq {a b : Int} (h : R32 a) (h2 : R32 b) : Int32.ofInt a = Int32.ofInt b ↔ a = b := by
  rw [← Int32.toInt_inj, r32_lo h, r32_lo h2]
theorem w_lt {a b : Int} (h : R32 a) (h2 : R32 b) : Int32.ofInt a < Int32.ofInt b ↔ a < b := by
  rw [Int32.lt_iff_toInt_lt, r32_lo h, r32_lo h2]
theorem w_le {a b : Int} (h : R32 a) (h2 : R32 b) : Int32.ofInt a ≤ Int32.ofInt b ↔ a ≤ b := by
  rw [Int32.le_iff_toInt_le, r32_lo h, r32_lo h2]
theorem WP.if_eq {G : MG} {M : MI} {pc : Nat} {L : List (Option MV)} {S : List MV} {σ : Mem} {Q : Int → Mem → Prop} {a off : Int} {tgt : Nat} (d : decode (m_c M) pc = .ok (.ifCond .eq off, 3)) (ht : (pc : Int) + off = (tgt : Int)) (kt : a = 0 → WP G M tgt L S σ Q) (kf : ¬ a = 0 → WP G M (pc + 3) L S σ Q) : WP G M pc L (mi a :: S) σ Q := by
  intro hL hS hσ p l e s m args below meth c A D cI cZ ad C H locs ls hP hD hV hl
  obtain ⟨hx, hb, hml, hown, hts, hlocks, hr, hK, hA, hN⟩ := id C
  have ha : R32 a := ok_hd hS
  exact lv_if_eq hx hb d ht (fun q => kt ((w_eq0 ha).mp q) hL (ok_tl hS) hσ p l e s m args below meth c A D cI cZ ad C H locs ls hP hD hV hl) (fun q => kf (fun z => q ((w_eq0 ha).mpr z)) hL (ok_tl hS) hσ p l e s m args below meth c A D cI cZ ad C H locs ls hP hD hV hl)
theorem WP.if_ne {G : MG} {M : MI} {pc : Nat} {L : List (Option MV)} {S : List MV} {σ : Mem} {Q : Int → Mem → Prop} {a off : Int} {tgt : Nat} (d : decode (m_c M) pc = .ok (.ifCond .ne off, 3)) (ht : (pc : Int) + off = (tgt : Int)) (kt : ¬ a = 0 → WP G M tgt L S σ Q) (kf : a = 0 → WP G M (pc + 3) L S σ Q) : WP G M pc L (mi a :: S) σ Q := by
  intro hL hS hσ p l e s m args below meth c A D cI cZ ad C H locs ls hP hD hV hl
  obtain ⟨hx, hb, hml, hown, hts, hlocks, hr, hK, hA, hN⟩ := id C
  have ha : R32 a := ok_hd hS
  exact lv_if_ne hx hb d ht (fun q => kt (fun z => q ((w_eq0 ha).mpr z)) hL (ok_tl hS) hσ p l e s m args below meth c A D cI cZ ad C H locs ls hP hD hV hl) (fun q => kf ((w_eq0 ha).mp q) hL (ok_tl hS) hσ p l e s m args below meth c A D cI cZ ad C H locs ls hP hD hV hl)
theorem WP.if_lt {G : MG} {M : MI} {pc : Nat} {L : List (Option MV)} {S : List MV} {σ : Mem} {Q : Int → Mem → Prop} {a off : Int} {tgt : Nat} (d : decode (m_c M) pc = .ok (.ifCond .lt off, 3)) (ht : (pc : Int) + off = (tgt : Int)) (kt : a < 0 → WP G M tgt L S σ Q) (kf : ¬ a < 0 → WP G M (pc + 3) L S σ Q) : WP G M pc L (mi a :: S) σ Q := by
  intro hL hS hσ p l e s m args below meth c A D cI cZ ad C H locs ls hP hD hV hl
  obtain ⟨hx, hb, hml, hown, hts, hlocks, hr, hK, hA, hN⟩ := id C
  have ha : R32 a := ok_hd hS
  exact lv_if_lt hx hb d ht (fun q => kt ((w_lt0 ha).mp q) hL (ok_tl hS) hσ p l e s m args below meth c A D cI cZ ad C H locs ls hP hD hV hl) (fun q => kf (fun z => q ((w_lt0 ha).mpr z)) hL (ok_tl hS) hσ p l e s m args below meth c A D cI cZ ad C H locs ls hP hD hV hl)
theorem WP.if_ge {G : MG} {M : MI} {pc : Nat} {L : List (Option MV)} {S : List MV} {σ : Mem} {Q : Int → Mem → Prop} {a off : Int} {tgt : Nat} (d : decode (m_c M) pc = .ok (.ifCond .ge off, 3)) (ht : (pc : Int) + off = (tgt : Int)) (kt : 0 ≤ a → WP G M tgt L S σ Q) (kf : ¬ 0 ≤ a → WP G M (pc + 3) L S σ Q) : WP G M pc L (mi a :: S) σ Q := by
  intro hL hS hσ p l e s m args below meth c A D cI cZ ad C H locs ls hP hD hV hl
  obtain ⟨hx, hb, hml, hown, hts, hlocks, hr, hK, hA, hN⟩ := id C
  have ha : R32 a := ok_hd hS
  exact lv_if_ge hx hb d ht (fun q => kt ((w_ge0 ha).mp q) hL (ok_tl hS) hσ p l e s m args below meth c A D cI cZ ad C H locs ls hP hD hV hl) (fun q => kf (fun z => q ((w_ge0 ha).mpr z)) hL (ok_tl hS) hσ p l e s m args below meth c A D cI cZ ad C H locs ls hP hD hV hl)
theorem WP.if_gt {G : MG} {M : MI} {pc : Nat} {L : List (Option MV)} {S : List MV} {σ : Mem} {Q : Int → Mem → Prop} {a off : Int} {tgt : Nat} (d : decode (m_c M) pc = .ok (.ifCond .gt off, 3)) (ht : (pc : Int) + off = (tgt : Int)) (kt : 0 < a → WP G M tgt L S σ Q) (kf : ¬ 0 < a → WP G M (pc + 3) L S σ Q) : WP G M pc L (mi a :: S) σ Q := by
  intro hL hS hσ p l e s m args below meth c A D cI cZ ad C H locs ls hP hD hV hl
  obtain ⟨hx, hb, hml, hown, hts, hlocks, hr, hK, hA, hN⟩ := id C
  have ha : R32 a := ok_hd hS
  exact lv_if_gt hx hb d ht (fun q => kt ((w_gt0 ha).mp q) hL (ok_tl hS) hσ p l e s m args below meth c A D cI cZ ad C H locs ls hP hD hV hl) (fun q => kf (fun z => q ((w_gt0 ha).mpr z)) hL (ok_tl hS) hσ p l e s m args below meth c A D cI cZ ad C H locs ls hP hD hV hl)
theorem WP.if_le {G : MG} {M : MI} {pc : Nat} {L : List (Option MV)} {S : List MV} {σ : Mem} {Q : Int → Mem → Prop} {a off : Int} {tgt : Nat} (d : decode (m_c M) pc = .ok (.ifCond .le off, 3)) (ht : (pc : Int) + off = (tgt : Int)) (kt : a ≤ 0 → WP G M tgt L S σ Q) (kf : ¬ a ≤ 0 → WP G M (pc + 3) L S σ Q) : WP G M pc L (mi a :: S) σ Q := by
  intro hL hS hσ p l e s m args below meth c A D cI cZ ad C H locs ls hP hD hV hl
  obtain ⟨hx, hb, hml, hown, hts, hlocks, hr, hK, hA, hN⟩ := id C
  have ha : R32 a := ok_hd hS
  exact lv_if_le hx hb d ht (fun q => kt ((w_le0 ha).mp q) hL (ok_tl hS) hσ p l e s m args below meth c A D cI cZ ad C H locs ls hP hD hV hl) (fun q => kf (fun z => q ((w_le0 ha).mpr z)) hL (ok_tl hS) hσ p l e s m args below meth c A D cI cZ ad C H locs ls hP hD hV hl)
theorem WP.icmp_eq {G : MG} {M : MI} {pc : Nat} {L : List (Option MV)} {S : List MV} {σ : Mem} {Q : Int → Mem → Prop} {a b off : Int} {tgt : Nat} (d : decode (m_c M) pc = .ok (.if_icmp .eq off, 3)) (ht : (pc : Int) + off = (tgt : Int)) (kt : a = b → WP G M tgt L S σ Q) (kf : ¬ a = b → WP G M (pc + 3) L S σ Q) : WP G M pc L (mi b :: mi a :: S) σ Q := by
  intro hL hS hσ p l e s m args below meth c A D cI cZ ad C H locs ls hP hD hV hl
  obtain ⟨hx, hb, hml, hown, hts, hlocks, hr, hK, hA, hN⟩ := id C
  have hb2 : R32 b := ok_hd hS
  have ha : R32 a := ok_hd (ok_tl hS)
  exact lv_icmp_eq hx hb d ht (fun q => kt ((w_eq ha hb2).mp q) hL (ok_tl (ok_tl hS)) hσ p l e s m args below meth c A D cI cZ ad C H locs ls hP hD hV hl) (fun q => kf (fun z => q ((w_eq ha hb2).mpr z)) hL (ok_tl (ok_tl hS)) hσ p l e s m args below meth c A D cI cZ ad C H locs ls hP hD hV hl)
theorem WP.icmp_ne {G : MG} {M : MI} {pc : Nat} {L : List (Option MV)} {S : List MV} {σ : Mem} {Q : Int → Mem → Prop} {a b off : Int} {tgt : Nat} (d : decode (m_c M) pc = .ok (.if_icmp .ne off, 3)) (ht : (pc : Int) + off = (tgt : Int)) (kt : ¬ a = b → WP G M tgt L S σ Q) (kf : a = b → WP G M (pc + 3) L S σ Q) : WP G M pc L (mi b :: mi a :: S) σ Q := by
  intro hL hS hσ p l e s m args below meth c A D cI cZ ad C H locs ls hP hD hV hl
  obtain ⟨hx, hb, hml, hown, hts, hlocks, hr, hK, hA, hN⟩ := id C
  have hb2 : R32 b := ok_hd hS
  have ha : R32 a := ok_hd (ok_tl hS)
  exact lv_icmp_ne hx hb d ht (fun q => kt (fun z => q ((w_eq ha hb2).mpr z)) hL (ok_tl (ok_tl hS)) hσ p l e s m args below meth c A D cI cZ ad C H locs ls hP hD hV hl) (fun q => kf ((w_eq ha hb2).mp q) hL (ok_tl (ok_tl hS)) hσ p l e s m args below meth c A D cI cZ ad C H locs ls hP hD hV hl)
theorem WP.icmp_lt {G : MG} {M : MI} {pc : Nat} {L : List (Option MV)} {S : List MV} {σ : Mem} {Q : Int → Mem → Prop} {a b off : Int} {tgt : Nat} (d : decode (m_c M) pc = .ok (.if_icmp .lt off, 3)) (ht : (pc : Int) + off = (tgt : Int)) (kt : a < b → WP G M tgt L S σ Q) (kf : ¬ a < b → WP G M (pc + 3) L S σ Q) : WP G M pc L (mi b :: mi a :: S) σ Q := by
  intro hL hS hσ p l e s m args below meth c A D cI cZ ad C H locs ls hP hD hV hl
  obtain ⟨hx, hb, hml, hown, hts, hlocks, hr, hK, hA, hN⟩ := id C
  have hb2 : R32 b := ok_hd hS
  have ha : R32 a := ok_hd (ok_tl hS)
  exact lv_icmp_lt hx hb d ht (fun q => kt ((w_lt ha hb2).mp q) hL (ok_tl (ok_tl hS)) hσ p l e s m args below meth c A D cI cZ ad C H locs ls hP hD hV hl) (fun q => kf (fun z => q ((w_lt ha hb2).mpr z)) hL (ok_tl (ok_tl hS)) hσ p l e s m args below meth c A D cI cZ ad C H locs ls hP hD hV hl)
theorem WP.icmp_ge {G : MG} {M : MI} {pc : Nat} {L : List (Option MV)} {S : List MV} {σ : Mem} {Q : Int → Mem → Prop} {a b off : Int} {tgt : Nat} (d : decode (m_c M) pc = .ok (.if_icmp .ge off, 3)) (ht : (pc : Int) + off = (tgt : Int)) (kt : b ≤ a → WP G M tgt L S σ Q) (kf : ¬ b ≤ a → WP G M (pc + 3) L S σ Q) : WP G M pc L (mi b :: mi a :: S) σ Q := by
  intro hL hS hσ p l e s m args below meth c A D cI cZ ad C H locs ls hP hD hV hl
  obtain ⟨hx, hb, hml, hown, hts, hlocks, hr, hK, hA, hN⟩ := id C
  have hb2 : R32 b := ok_hd hS
  have ha : R32 a := ok_hd (ok_tl hS)
  exact lv_icmp_ge hx hb d ht (fun q => kt ((w_le hb2 ha).mp q) hL (ok_tl (ok_tl hS)) hσ p l e s m args below meth c A D cI cZ ad C H locs ls hP hD hV hl) (fun q => kf (fun z => q ((w_le hb2 ha).mpr z)) hL (ok_tl (ok_tl hS)) hσ p l e s m args below meth c A D cI cZ ad C H locs ls hP hD hV hl)
theorem WP.icmp_gt {G : MG} {M : MI} {pc : Nat} {L : List (Option MV)} {S : List MV} {σ : Mem} {Q : Int → Mem → Prop} {a b off : Int} {tgt : Nat} (d : decode (m_c M) pc = .ok (.if_icmp .gt off, 3)) (ht : (pc : Int) + off = (tgt : Int)) (kt : b < a → WP G M tgt L S σ Q) (kf : ¬ b < a → WP G M (pc + 3) L S σ Q) : WP G M pc L (mi b :: mi a :: S) σ Q := by
  intro hL hS hσ p l e s m args below meth c A D cI cZ ad C H locs ls hP hD hV hl
  obtain ⟨hx, hb, hml, hown, hts, hlocks, hr, hK, hA, hN⟩ := id C
  have hb2 : R32 b := ok_hd hS
  have ha : R32 a := ok_hd (ok_tl hS)
  exact lv_icmp_gt hx hb d ht (fun q => kt ((w_lt hb2 ha).mp q) hL (ok_tl (ok_tl hS)) hσ p l e s m args below meth c A D cI cZ ad C H locs ls hP hD hV hl) (fun q => kf (fun z => q ((w_lt hb2 ha).mpr z)) hL (ok_tl (ok_tl hS)) hσ p l e s m args below meth c A D cI cZ ad C H locs ls hP hD hV hl)
theorem WP.icmp_le {G : MG} {M : MI} {pc : Nat} {L : List (Option MV)} {S : List MV} {σ : Mem} {Q : Int → Mem → Prop} {a b off : Int} {tgt : Nat} (d : decode (m_c M) pc = .ok (.if_icmp .le off, 3)) (ht : (pc : Int) + off = (tgt : Int)) (kt : a ≤ b → WP G M tgt L S σ Q) (kf : ¬ a ≤ b → WP G M (pc + 3) L S σ Q) : WP G M pc L (mi b :: mi a :: S) σ Q := by
  intro hL hS hσ p l e s m args below meth c A D cI cZ ad C H locs ls hP hD hV hl
  obtain ⟨hx, hb, hml, hown, hts, hlocks, hr, hK, hA, hN⟩ := id C
  have hb2 : R32 b := ok_hd hS
  have ha : R32 a := ok_hd (ok_tl hS)
  exact lv_icmp_le hx hb d ht (fun q => kt ((w_le ha hb2).mp q) hL (ok_tl (ok_tl hS)) hσ p l e s m args below meth c A D cI cZ ad C H locs ls hP hD hV hl) (fun q => kf (fun z => q ((w_le ha hb2).mpr z)) hL (ok_tl (ok_tl hS)) hσ p l e s m args below meth c A D cI cZ ad C H locs ls hP hD hV hl)
theorem WP.goto {G : MG} {M : MI} {pc : Nat} {L : List (Option MV)} {S : List MV} {σ : Mem} {Q : Int → Mem → Prop} {off : Int} {tgt : Nat} (d : decode (m_c M) pc = .ok (.goto off, 3)) (ht : (pc : Int) + off = (tgt : Int)) (k : WP G M tgt L S σ Q) : WP G M pc L S σ Q := by
  intro hL hS hσ p l e s m args below meth c A D cI cZ ad C H locs ls hP hD hV hl
  obtain ⟨hx, hb, hml, hown, hts, hlocks, hr, hK, hA, hN⟩ := id C
  exact lv_goto hx hb d ht (k hL hS hσ p l e s m args below meth c A D cI cZ ad C H locs ls hP hD hV hl)
theorem WP.iinc {G : MG} {M : MI} {pc : Nat} {L : List (Option MV)} {S : List MV} {σ : Mem} {Q : Int → Mem → Prop} {i : Nat} {n x : Int} {L2 : List (Option MV)} (d : decode (m_c M) pc = .ok (.iinc i n, 3)) (hi : i < m_n M) (h0 : L[i]? = some (some (mi x))) (hn : R32 n) (h : mst L i (mi (jadd x n)) = L2) (k : WP G M (pc + 3) L2 S σ Q) : WP G M pc L S σ Q := by
  intro hL hS hσ p l e s m args below meth c A D cI cZ ad C H locs ls hP hD hV hl
  obtain ⟨hx, hb, hml, hown, hts, hlocks, hr, hK, hA, hN⟩ := id C
  subst h
  obtain ⟨kx, hkx⟩ := List.getElem?_of_mem (mlist_in (ad := ad) h0)
  exact lv_iinc (v := Int32.ofInt (jadd x n)) hx hb d (mlh_has hl) hkx (o_iadd x n).symm hi rfl (fun ls2 hl2 => k (ok_mst hL i (r32_of _)) hS hσ p l e s m args below meth c A D cI cZ ad C H locs ls2 hP hD hV (mst_has (v := mi (jadd x n)) hl2))
theorem WP.tsw_at {G : MG} {M : MI} {pc : Nat} {L : List (Option MV)} {S : List MV} {σ : Mem} {Q : Int → Mem → Prop} {dflt lo hi : Int} {offs : Array Int} {len : Nat} {a off v : Int} {tgt : Nat} (d : decode (m_c M) pc = .ok (.tableswitch dflt lo hi offs, len)) (hv : a = v) (h1 : ¬ v < lo) (h2 : ¬ hi < v) (ho : offs[(v - lo).toNat]? = some off) (ht : (pc : Int) + off = (tgt : Int)) (k : WP G M tgt L S σ Q) : WP G M pc L (mi a :: S) σ Q := by
  intro hL hS hσ p l e s m args below meth c A D cI cZ ad C H locs ls hP hD hV hl
  obtain ⟨hx, hb, hml, hown, hts, hlocks, hr, hK, hA, hN⟩ := id C
  have ha : R32 a := ok_hd hS
  subst hv
  exact lv_tableIn hx hb d (by rw [r32_lo ha]; exact h1) (by rw [r32_lo ha]; exact h2) (by rw [r32_lo ha]; exact ho) ht (k hL (ok_tl hS) hσ p l e s m args below meth c A D cI cZ ad C H locs ls hP hD hV hl)
theorem WP.tsw_out {G : MG} {M : MI} {pc : Nat} {L : List (Option MV)} {S : List MV} {σ : Mem} {Q : Int → Mem → Prop} {dflt lo hi : Int} {offs : Array Int} {len : Nat} {a : Int} {tgt : Nat} (d : decode (m_c M) pc = .ok (.tableswitch dflt lo hi offs, len)) (h : a < lo ∨ hi < a) (ht : (pc : Int) + dflt = (tgt : Int)) (k : WP G M tgt L S σ Q) : WP G M pc L (mi a :: S) σ Q := by
  intro hL hS hσ p l e s m args below meth c A D cI cZ ad C H locs ls hP hD hV hl
  obtain ⟨hx, hb, hml, hown, hts, hlocks, hr, hK, hA, hN⟩ := id C
  have ha : R32 a := ok_hd hS
  exact lv_tableOut hx hb d (by rw [r32_lo ha]; exact h) ht (k hL (ok_tl hS) hσ p l e s m args below meth c A D cI cZ ad C H locs ls hP hD hV hl)
theorem WP.lsw {G : MG} {M : MI} {pc : Nat} {L : List (Option MV)} {S : List MV} {σ : Mem} {Q : Int → Mem → Prop} {dflt : Int} {ps : Array (Int × Int)} {len : Nat} {a off : Int} {tgt : Nat} (d : decode (m_c M) pc = .ok (.lookupswitch dflt ps, len)) (hp : (ps.toList.zip (ps.toList.drop 1)).all (fun (a, next) => a.1 < next.1) = true) (ho : Op.lookupswitch.offset ps.toList dflt a = off) (ht : (pc : Int) + off = (tgt : Int)) (k : WP G M tgt L S σ Q) : WP G M pc L (mi a :: S) σ Q := by
  intro hL hS hσ p l e s m args below meth c A D cI cZ ad C H locs ls hP hD hV hl
  obtain ⟨hx, hb, hml, hown, hts, hlocks, hr, hK, hA, hN⟩ := id C
  have ha : R32 a := ok_hd hS
  exact lv_lookup hx hb d hp (by rw [r32_lo ha]; exact ho) ht (k hL (ok_tl hS) hσ p l e s m args below meth c A D cI cZ ad C H locs ls hP hD hV hl)
theorem WP.drop {G : MG} {M : MI} {pc : Nat} {L : List (Option MV)} {S : List MV} {σ : Mem} {Q : Int → Mem → Prop} (i : Nat) {L2 : List (Option MV)} (h : L.set i none = L2) (k : WP G M pc L2 S σ Q) : WP G M pc L S σ Q := by
  intro hL hS hσ p l e s m args below meth c A D cI cZ ad C H locs ls hP hD hV hl
  obtain ⟨hx, hb, hml, hown, hts, hlocks, hr, hK, hA, hN⟩ := id C
  subst h
  refine k (fun v hv => ?_) hS hσ p l e s m args below meth c A D cI cZ ad C H locs ls hP hD hV ⟨hl.1, hl.2.1, fun j w hw => ?_⟩
  · rcases List.mem_or_eq_of_mem_set hv with h1 | h1
    · exact hL v h1
    · cases h1
  · by_cases hj : j = i
    · subst hj
      by_cases hq : j < L.length
      · rw [List.getElem?_set_self hq] at hw; cases hw
      · rw [List.getElem?_eq_none (by rw [List.length_set]; omega)] at hw; cases hw
    · rw [List.getElem?_set_ne (Ne.symm hj)] at hw
      exact hl.2.2 j w hw
theorem WP.rng {G : MG} {M : MI} {pc : Nat} {L : List (Option MV)} {S : List MV} {σ : Mem} {Q : Int → Mem → Prop} (k : (∀ v, some v ∈ L → mok v) → (∀ v ∈ S, mok v) → mokm σ → WP G M pc L S σ Q) : WP G M pc L S σ Q := fun hL hS hσ => k hL hS hσ hL hS hσ
end
section
/-! fields, arrays, calls, returns over WP -/
def mfd (own : String) (idx ci j : Nat) : Prop := ∃ (C : String) (T : u_T) (N : Nat), vwCl[ci]? = some (C, T, N) ∧ j < N ∧ (∀ w ∈ u_ws C T N, w ∈ TBL) ∧ Cond.fieldLink own idx C (T j).2.1 (T j).2.2.1 ∈ TBL ∧ (T j).1 = C
def mfp (own : String) (idx ci j : Nat) (ty : FieldType) : Prop := ∃ (C : String) (T : u_T) (N : Nat) (tt : Nat → FieldType), vwCl[ci]? = some (C, T, N) ∧ j < N ∧ (∀ w ∈ u_ws C T N, w ∈ TBL) ∧ Cond.fieldLink own idx C (T j).2.1 (T j).2.2.1 ∈ TBL ∧ (T j).1 = C ∧ (∀ k, k < N → parseFieldDescriptor (T k).2.2.1 = some (tt k)) ∧ (∀ a, a < N → ∀ b, b < N → a ≠ b → (T a).2.1 ≠ (T b).2.1) ∧ (T j).2.2.2 = false ∧ parseFieldDescriptor (T j).2.2.1 = some ty
theorem mfld_at {ad : Nat → Nat} {σ : Mem} {k j : Nat} {fs : List (Option Nat)} {o : Option Nat} (h : fs[j]? = some o) : (fs.zipIdx.map (mfld ad σ k))[j]? = some (mfld ad σ k (o, j)) := by
  simp [List.getElem?_zipIdx, h]
theorem mfld_set {ad : Nat → Nat} {σ : Mem} {k j : Nat} {x : Int} {fs : List (Option Nat)} (h : fs[j]? = some none) : (fs.zipIdx.map (mfld ad σ k)).set j (.int (Int32.ofInt x)) = fs.zipIdx.map (mfld ad (mupd σ k j x) k) := by
  apply List.ext_getElem?
  intro i
  by_cases hi : i = j
  · subst hi
    rw [List.getElem?_set_self (by simp; exact (List.getElem?_eq_some_iff.mp h).1), mfld_at h]
    simp [mfld, mupd]
  · have hi2 : ¬ (i : Int) = (j : Int) := by omega
    rw [List.getElem?_set_ne (Ne.symm hi)]
    cases hx : fs[i]? with
    | none => simp [List.getElem?_zipIdx, hx]
    | some o =>
      rw [mfld_at hx, mfld_at hx]
      cases o with
      | none => simp [mfld, mupd, hi2]
      | some q => rfl
theorem WP.getI {G : MG} {M : MI} {pc : Nat} {L : List (Option MV)} {S : List MV} {σ : Mem} {Q : Int → Mem → Prop} {idx ci j k : Nat} {fs : List (Option Nat)} (f : mfd (m_y M).cls idx ci j) (d : decode (m_c M) pc = .ok (.getfield idx, 3)) (hG : G[k]? = some (.inr (ci, fs))) (hj : fs[j]? = some none)
    (kk : WP G M (pc + 3) L (mi (σ k j) :: S) σ Q) : WP G M pc L (mr k :: S) σ Q := by
  intro hL hS hσ p l e s m args below meth c A D cI cZ ad C H locs ls hP hD hV hl
  obtain ⟨hx, hb, hml, hown, hts, hlocks, hr, hK, hA, hN⟩ := id C
  obtain ⟨Cn, T, N, f1, f2, f3, f4, f5⟩ := f
  exact va_get hx hb hts f3 hown hK hP k (mws_at hG) f1 j f2 (hts _ f4) (fun x h => by rw [f5] at h; exact h) (mfld_at hj) d (kk hL (ok_cons (hσ _ _) (ok_tl hS)) hσ p l e s m args below meth c A D cI cZ ad C H locs ls hP hD hV hl)
theorem WP.getR {G : MG} {M : MI} {pc : Nat} {L : List (Option MV)} {S : List MV} {σ : Mem} {Q : Int → Mem → Prop} {idx ci j k q : Nat} {fs : List (Option Nat)} (f : mfd (m_y M).cls idx ci j) (d : decode (m_c M) pc = .ok (.getfield idx, 3)) (hG : G[k]? = some (.inr (ci, fs))) (hj : fs[j]? = some (some q))
    (kk : WP G M (pc + 3) L (mr q :: S) σ Q) : WP G M pc L (mr k :: S) σ Q := by
  intro hL hS hσ p l e s m args below meth c A D cI cZ ad C H locs ls hP hD hV hl
  obtain ⟨hx, hb, hml, hown, hts, hlocks, hr, hK, hA, hN⟩ := id C
  obtain ⟨Cn, T, N, f1, f2, f3, f4, f5⟩ := f
  exact va_get hx hb hts f3 hown hK hP k (mws_at hG) f1 j f2 (hts _ f4) (fun x h => by rw [f5] at h; exact h) (mfld_at hj) d (kk hL (ok_cons trivial (ok_tl hS)) hσ p l e s m args below meth c A D cI cZ ad C H locs ls hP hD hV hl)
theorem WP.put {G : MG} {M : MI} {pc : Nat} {L : List (Option MV)} {S : List MV} {σ : Mem} {Q : Int → Mem → Prop} {idx ci j k : Nat} {fs : List (Option Nat)} {ty : FieldType} {x : Int} (f : mfp (m_y M).cls idx ci j ty) (d : decode (m_c M) pc = .ok (.putfield idx, 3)) (hG : G[k]? = some (.inr (ci, fs))) (hj : fs[j]? = some none)
    (hn : narrow ty (.int (Int32.ofInt x)) = .int (Int32.ofInt x)) (hf : fits ty (.int (Int32.ofInt x)) = true)
    (kk : WP G M (pc + 3) L S (mupd σ k j x) Q) : WP G M pc L (mi x :: mr k :: S) σ Q := by
  intro hL hS hσ p l e s m args below meth c A D cI cZ ad C H locs ls hP hD hV hl
  obtain ⟨hx, hb, hml, hown, hts, hlocks, hr, hK, hA, hN⟩ := id C
  obtain ⟨Cn, T, N, tt, f1, f2, f3, f4, f5, f6, f7, f8, f9⟩ := f
  have he : (mws cI cZ ad G σ).set k (ad k, .inr (ci, (fs.zipIdx.map (mfld ad σ k)).set j (.int (Int32.ofInt x)))) = mws cI cZ ad G (mupd σ k j x) :=
    mws_set hG (fun a h => mupd_ne a h) (by rw [mfld_set hj]; rfl)
  refine va_put hx hb hts f3 tt f6 f7 hown hK hP hD hV k (mws_at hG) f1 j f2 (hts _ f4) (fun x h => by rw [f5] at h; exact h) f8 f9 hn hf (by simp; exact (List.getElem?_eq_some_iff.mp hj).1) d (fun H1 locs1 hP1 hD1 hV1 => ?_)
  have hP2 : va_P D vwCl ((mws cI cZ ad G σ).set k (ad k, .inr (ci, (fs.zipIdx.map (mfld ad σ k)).set j (.int (Int32.ofInt x))))) H1 := hP1
  have hD2 : va_D A ((mws cI cZ ad G σ).set k (ad k, .inr (ci, (fs.zipIdx.map (mfld ad σ k)).set j (.int (Int32.ofInt x))))) := hD1
  rw [he] at hP2 hD2
  exact kk hL (ok_tl (ok_tl hS)) (mokm_upd hσ (ok_hd hS)) p l e s m args below meth c A D cI cZ ad C H1 locs1 ls hP2 hD2 hV1 hl
theorem w_in {i : Int} {n : Nat} (h : R32 i) (h0 : 0 ≤ i) (h1 : i < n) : vp_in (Int32.ofInt i) n := by
  rw [vp_in_iff, r32_lo h]; exact ⟨h0, h1⟩
theorem w_ix {i : Int} (h : R32 i) (h0 : 0 ≤ i) : (((Int32.ofInt i).toNatClampNeg : Nat) : Int) = i := by
  rw [Int32.toNatClampNeg_ofInt_of_le (by omega) (by omega)]; omega
theorem WP.iald {G : MG} {M : MI} {pc : Nat} {L : List (Option MV)} {S : List MV} {σ : Mem} {Q : Int → Mem → Prop} {k n : Nat} {i : Int} (d : decode (m_c M) pc = .ok (.iaload, 1)) (hG : G[k]? = some (.inl (false, n))) (hi : 0 ≤ i ∧ i < n)
    (kk : WP G M (pc + 1) L (mi (σ k i) :: S) σ Q) : WP G M pc L (mi i :: mr k :: S) σ Q := by
  intro hL hS hσ p l e s m args below meth c A D cI cZ ad C H locs ls hP hD hV hl
  obtain ⟨hx, hb, hml, hown, hts, hlocks, hr, hK, hA, hN⟩ := id C
  have hi32 : R32 i := ok_hd hS
  have k2 := kk hL (ok_cons (hσ _ _) (ok_tl (ok_tl hS))) hσ p l e s m args below meth c A D cI cZ ad C H locs ls hP hD hV hl
  refine va_iald hx hb hK hP k 0 (mws_at hG) rfl (w_in hi32 hi.1 hi.2) d ?_
  rw [w_ix hi32 hi.1]
  exact k2
theorem WP.zald {G : MG} {M : MI} {pc : Nat} {L : List (Option MV)} {S : List MV} {σ : Mem} {Q : Int → Mem → Prop} {k n : Nat} {i : Int} (d : decode (m_c M) pc = .ok (.baload, 1)) (hG : G[k]? = some (.inl (true, n))) (hi : 0 ≤ i ∧ i < n)
    (kk : WP G M (pc + 1) L (mi (σ k i) :: S) σ Q) : WP G M pc L (mi i :: mr k :: S) σ Q := by
  intro hL hS hσ p l e s m args below meth c A D cI cZ ad C H locs ls hP hD hV hl
  obtain ⟨hx, hb, hml, hown, hts, hlocks, hr, hK, hA, hN⟩ := id C
  have hi32 : R32 i := ok_hd hS
  have k2 := kk hL (ok_cons (hσ _ _) (ok_tl (ok_tl hS))) hσ p l e s m args below meth c A D cI cZ ad C H locs ls hP hD hV hl
  refine va_zald hx hb hK hP k 1 (mws_at hG) rfl (w_in hi32 hi.1 hi.2) d ?_
  rw [w_ix hi32 hi.1]
  exact k2
theorem w_upd {σ : Mem} {k : Nat} {i x : Int} (h : R32 i) (h0 : 0 ≤ i) : upd (fun j : Nat => Int32.ofInt (σ k j)) (Int32.ofInt i).toNatClampNeg (Int32.ofInt x) = fun j : Nat => Int32.ofInt (mupd σ k i x k j) := by
  funext j
  have e := w_ix h h0
  by_cases hj : j = (Int32.ofInt i).toNatClampNeg
  · subst hj
    simp [upd, mupd, e]
  · have hne : ¬ (j : Int) = i := by omega
    simp [upd, mupd, hj, hne]
theorem WP.iast {G : MG} {M : MI} {pc : Nat} {L : List (Option MV)} {S : List MV} {σ : Mem} {Q : Int → Mem → Prop} {k n : Nat} {i x : Int} (d : decode (m_c M) pc = .ok (.iastore, 1)) (hG : G[k]? = some (.inl (false, n))) (hi : 0 ≤ i ∧ i < n)
    (kk : WP G M (pc + 1) L S (mupd σ k i x) Q) : WP G M pc L (mi x :: mi i :: mr k :: S) σ Q := by
  intro hL hS hσ p l e s m args below meth c A D cI cZ ad C H locs ls hP hD hV hl
  obtain ⟨hx, hb, hml, hown, hts, hlocks, hr, hK, hA, hN⟩ := id C
  have hi32 : R32 i := ok_hd (ok_tl hS)
  refine va_iast hx hb hK hP hD hV k 0 (mws_at hG) rfl (w_in hi32 hi.1 hi.2) d (fun H1 locs1 hP1 hD1 hV1 => ?_)
  rw [w_upd hi32 hi.1] at hP1 hD1
  have he : (mws cI cZ ad G σ).set k (ad k, .inl (cI, n, .inl (fun j : Nat => Int32.ofInt (mupd σ k i x k j)))) = mws cI cZ ad G (mupd σ k i x) :=
    mws_set hG (fun a h => mupd_ne a h) rfl
  have hP2 : va_P D vwCl ((mws cI cZ ad G σ).set k (ad k, .inl (cI, n, .inl (fun j : Nat => Int32.ofInt (mupd σ k i x k j))))) H1 := hP1
  have hD2 : va_D A ((mws cI cZ ad G σ).set k (ad k, .inl (cI, n, .inl (fun j : Nat => Int32.ofInt (mupd σ k i x k j))))) := hD1
  rw [he] at hP2 hD2
  exact kk hL (ok_tl (ok_tl (ok_tl hS))) (mokm_upd hσ (ok_hd hS)) p l e s m args below meth c A D cI cZ ad C H1 locs1 ls hP2 hD2 hV1 hl
theorem WP.zast {G : MG} {M : MI} {pc : Nat} {L : List (Option MV)} {S : List MV} {σ : Mem} {Q : Int → Mem → Prop} {k n : Nat} {i x : Int} (d : decode (m_c M) pc = .ok (.bastore, 1)) (hG : G[k]? = some (.inl (true, n))) (hi : 0 ≤ i ∧ i < n) (hx01 : x = 0 ∨ x = 1)
    (kk : WP G M (pc + 1) L S (mupd σ k i x) Q) : WP G M pc L (mi x :: mi i :: mr k :: S) σ Q := by
  intro hL hS hσ p l e s m args below meth c A D cI cZ ad C H locs ls hP hD hV hl
  obtain ⟨hx, hb, hml, hown, hts, hlocks, hr, hK, hA, hN⟩ := id C
  have hi32 : R32 i := ok_hd (ok_tl hS)
  refine va_zast hx hb hK hP hD hV k 1 (mws_at hG) rfl (w_in hi32 hi.1 hi.2) d (fun H1 locs1 hP1 hD1 hV1 => ?_)
  have hnar : vp_nar .boolean (Int32.ofInt x) = Int32.ofInt x := by rcases hx01 with rfl | rfl <;> decide
  rw [hnar, w_upd hi32 hi.1] at hP1 hD1
  have he : (mws cI cZ ad G σ).set k (ad k, .inl (cZ, n, .inl (fun j : Nat => Int32.ofInt (mupd σ k i x k j)))) = mws cI cZ ad G (mupd σ k i x) :=
    mws_set hG (fun a h => mupd_ne a h) rfl
  have hP2 : va_P D vwCl ((mws cI cZ ad G σ).set k (ad k, .inl (cZ, n, .inl (fun j : Nat => Int32.ofInt (mupd σ k i x k j))))) H1 := hP1
  have hD2 : va_D A ((mws cI cZ ad G σ).set k (ad k, .inl (cZ, n, .inl (fun j : Nat => Int32.ofInt (mupd σ k i x k j))))) := hD1
  rw [he] at hP2 hD2
  exact kk hL (ok_tl (ok_tl (ok_tl hS))) (mokm_upd hσ (ok_hd hS)) p l e s m args below meth c A D cI cZ ad C H1 locs1 ls hP2 hD2 hV1 hl
theorem w_cats (ad : Nat → Nat) (S : List MV) : (S.map (mval ad)).map (fun v => v.category) = S.map mcat := by
  rw [List.map_map]
  exact List.map_congr_left fun v _ => mcat_val ad v
def mcpC (own : String) (idx : Nat) : Prop := Cond.methodLink own idx arraycopyName ∈ TBL ∧ Cond.native arraycopyName ∈ TBL ∧ Cond.static arraycopyName ∈ TBL ∧ Cond.initialized "java/lang/System" ∈ TBL
theorem WP.acopy {G : MG} {M : MI} {pc : Nat} {L : List (Option MV)} {S : List MV} {σ : Mem} {Q : Int → Mem → Prop} {idx k0 k1 n0 n1 : Nat} {sp dp n : Int} (f : mcpC (m_y M).cls idx) (d : decode (m_c M) pc = .ok (.invokestatic idx, 3)) (hG0 : G[k0]? = some (.inl (false, n0))) (hG1 : G[k1]? = some (.inl (false, n1)))
    (hi : 0 ≤ sp ∧ 0 ≤ dp ∧ 0 ≤ n ∧ sp + n ≤ n0 ∧ dp + n ≤ n1) (hf : 1 ≤ m_f M) (hlo : (S.map mcat).sum + 18 ≤ m_l M)
    (kk : WP G M (pc + 3) L S (mcpy σ k0 sp k1 dp n) Q) : WP G M pc L (mi n :: mi dp :: mr k1 :: mi sp :: mr k0 :: S) σ Q := by
  intro hL hS hσ p l e s m args below meth c A D cI cZ ad C H locs ls hP hD hV hl
  obtain ⟨hx, hb, hml, hown, hts, hlocks, hr, hK, hA, hN⟩ := id C
  have hn32 : R32 n := ok_hd hS
  have hd32 : R32 dp := ok_hd (ok_tl hS)
  have hs32 : R32 sp := ok_hd (ok_tl (ok_tl (ok_tl hS)))
  obtain ⟨i1, i2, i3, i4, i5⟩ := hi
  have e1 := w_ix hs32 i1
  have e2 := w_ix hd32 i2
  have e3 := w_ix hn32 i3
  refine va_copyi hx hb (hml.trans hl.1.symm) hown (hts _ f.1) (hts _ f.2.1) (hts _ f.2.2.1) (hts _ f.2.2.2) hK hP hD hV k0 k1 0 0 (mws_at hG0) (mws_at hG1) rfl rfl rfl (fun q => absurd ((w_lt0 hs32).mp q) (by omega)) (fun q => absurd ((w_lt0 hd32).mp q) (by omega)) (fun q => absurd ((w_lt0 hn32).mp q) (by omega)) (by omega) (by omega) (fun _ _ => rfl) hf (by rw [w_cats]; exact hlo) d (fun H1 locs1 hP1 hD1 hV1 => ?_)
  have ef : va_cpy (fun j : Nat => Int32.ofInt (σ k0 j)) (fun j : Nat => Int32.ofInt (σ k1 j)) (Int32.ofInt sp).toNatClampNeg (Int32.ofInt dp).toNatClampNeg (Int32.ofInt n).toNatClampNeg = fun j : Nat => Int32.ofInt (mcpy σ k0 sp k1 dp n k1 j) := by
    funext j
    unfold va_cpy mcpy
    by_cases hj : (Int32.ofInt dp).toNatClampNeg ≤ j ∧ j < (Int32.ofInt dp).toNatClampNeg + (Int32.ofInt n).toNatClampNeg
    · have e4 : (((Int32.ofInt sp).toNatClampNeg + (j - (Int32.ofInt dp).toNatClampNeg) : Nat) : Int) = sp + ((j : Int) - dp) := by omega
      rw [if_pos hj, if_pos ⟨rfl, by omega, by omega⟩, ← e4]
    · rw [if_neg hj, if_neg (fun z => hj (by omega))]
  rw [ef] at hP1 hD1
  have he : (mws cI cZ ad G σ).set k1 (ad k1, .inl (cI, n1, .inl (fun j : Nat => Int32.ofInt (mcpy σ k0 sp k1 dp n k1 j)))) = mws cI cZ ad G (mcpy σ k0 sp k1 dp n) :=
    mws_set hG1 (fun a h => mcpy_ne a h) rfl
  have hP2 : va_P D vwCl ((mws cI cZ ad G σ).set k1 (ad k1, .inl (cI, n1, .inl (fun j : Nat => Int32.ofInt (mcpy σ k0 sp k1 dp n k1 j))))) H1 := hP1
  have hD2 : va_D A ((mws cI cZ ad G σ).set k1 (ad k1, .inl (cI, n1, .inl (fun j : Nat => Int32.ofInt (mcpy σ k0 sp k1 dp n k1 j))))) := hD1
  rw [he] at hP2 hD2
  exact kk hL (ok_tl (ok_tl (ok_tl (ok_tl (ok_tl hS))))) (mokm_cpy hσ) p l e s m args below meth c A D cI cZ ad C H1 locs1 ls hP2 hD2 hV1 hl
def jmax (a b : Int) : Int := if a < b then b else a
def mmxC (own : String) (idx : Nat) : Prop := Cond.methodLink own idx Lib.Math.max.name ∈ TBL ∧ Cond.static Lib.Math.max.name ∈ TBL ∧ Cond.initialized "java/lang/Math" ∈ TBL ∧ Cond.code Lib.Math.max.name Lib.Math.max.code 2 (some .int) ∈ TBL
theorem WP.mmax {G : MG} {M : MI} {pc : Nat} {L : List (Option MV)} {S : List MV} {σ : Mem} {Q : Int → Mem → Prop} {idx : Nat} {a b : Int} (f : mmxC (m_y M).cls idx) (d : decode (m_c M) pc = .ok (.invokestatic idx, 3)) (hf : 1 ≤ m_f M) (hlo : (S.map mcat).sum + 13 ≤ m_l M)
    (kk : WP G M (pc + 3) L (mi (jmax a b) :: S) σ Q) : WP G M pc L (mi b :: mi a :: S) σ Q := by
  intro hL hS hσ p l e s m args below meth c A D cI cZ ad C H locs ls hP hD hV hl
  obtain ⟨hx, hb, hml, hown, hts, hlocks, hr, hK, hA, hN⟩ := id C
  have hb32 : R32 b := ok_hd hS
  have ha32 : R32 a := ok_hd (ok_tl hS)
  have hm32 : R32 (jmax a b) := by unfold jmax; split <;> assumption
  have k2 := kk hL (ok_cons hm32 (ok_tl (ok_tl hS))) hσ p l e s m args below meth c A D cI cZ ad C H locs ls hP hD hV hl
  refine va_mmax hx hb (hml.trans hl.1.symm) hown (hts _ f.1) (hts _ f.2.1) (hts _ f.2.2.1) (hts _ f.2.2.2) hf (by rw [w_cats]; exact hlo) (Nat.zero_le _) (Nat.zero_le _) d ?_
  have e : (if Int32.ofInt a < Int32.ofInt b then Int32.ofInt b else Int32.ofInt a) = Int32.ofInt (jmax a b) := by
    unfold jmax
    by_cases h : a < b
    · rw [if_pos h, if_pos ((w_lt ha32 hb32).mpr h)]
    · rw [if_neg h, if_neg (fun z => h ((w_lt ha32 hb32).mp z))]
  rw [e]
  exact k2
/-! calls -/
def mdesc (M : MI) (n : Nat) : Prop := (m_y M).cls ≠ "java/lang/invoke/MethodHandle" ∧ (m_y M).cls ≠ "java/lang/invoke/VarHandle" ∧ (parseMethodDescriptor (m_y M).desc).map (fun d => d.parameters.length) = some n
def mcv (M : MI) (n : Nat) : Prop := Cond.code (m_y M) (m_c M) (m_n M) (m_r M) ∈ TBL ∧ Cond.initialized (m_y M).cls ∈ TBL ∧ Cond.instanceMethod (m_y M) ∈ TBL ∧ Cond.selects (m_y M).cls (m_y M) (m_y M) ∈ TBL ∧ mdesc M n
def mcs (M : MI) (n : Nat) : Prop := Cond.code (m_y M) (m_c M) (m_n M) (m_r M) ∈ TBL ∧ Cond.initialized (m_y M).cls ∈ TBL ∧ Cond.static (m_y M) ∈ TBL ∧ mdesc M n
def mfit (M M' : MI) : Prop := m_f M' + 1 ≤ m_f M ∧ 8 + (m_n M' + 11) + m_l M' ≤ m_l M
theorem goodIn_M {M : MI} (h : Cond.code (m_y M) (m_c M) (m_n M) (m_r M) ∈ TBL) : GoodIn TBL (wsM M) := fun w hw => (List.mem_cons.mp hw).elim (fun z => by rw [z]; exact tb_good _ h) (fun z => tb_good w z)
theorem blind_M (as : List MV) (D : va_G) (cI cZ : ClassId) (ad : Nat → Nat) (G : MG) (sz : Nat) (σ : Mem) : FrameBlind (va_Pc (as.map (mval ad)) (mpre D cI cZ ad G sz σ)) := by
  intro a U g mk q
  obtain ⟨q1, q2, ⟨q3, q4, q5⟩, q6⟩ := q
  exact ⟨q1, q2, ⟨q3, va_K.moved (u := U) (U := U.calling g mk a) (Vm.Alike.refl U.vm) q4, q5⟩, mnest_same (u := U) (U := U.calling g mk a) rfl q6⟩
theorem w_push (ret : Option FieldType) (r : Int) (S : List MV) (ad : Nat → Nat) : (mpush ret r S).map (mval ad) = (mret ret r).toList ++ S.map (mval ad) := by
  cases ret <;> rfl
/-- behind a call -/
theorem WP.back {G : MG} {M M' : MI} {pc : Nat} {L : List (Option MV)} {S : List MV} {σ : Mem} {Q : Int → Mem → Prop} {p : Program} {l : Launch} {e : Env} {s : State} {m : MethodId} {args : Array Value} {below : List Frame} {meth : Method} {c : Code} {A : Nat → Prop} {D : va_G} {cI cZ : ClassId} {ad : Nat → Nat} {H : Heap} {locs : List Loc} {ls : Array Slot} {st0 : List Value} {a : Array Value}
    (hL : ∀ v, some v ∈ L → mok v) (hS : ∀ v ∈ S, mok v) (C : mcx M p s m args meth c A D cI cZ) (hP : va_P D vwCl (mws cI cZ ad G σ) H) (hD : va_D A (mws cI cZ ad G σ)) (hV : va_S A s.heap H locs) (hl : mlh ad ls (m_n M) L)
    (hr : va_Run p l e (mroom M) s m args below meth c H locs 0 0 0 0 (F0 m pc ls st0) (S.map (mval ad)) (mQ (m_r M') D cI cZ ad G (va_A (mws cI cZ ad G σ) H.size) (fun r σ1 => WP G M (pc + 3) L (mpush (m_r M') r S) σ1 Q) a) (va_A (mws cI cZ ad G σ) H.size)) :
    W p l e (mroom M) s m args below meth c H locs 0 0 (MQ below (mQ (m_r M) D cI cZ ad G A Q) args s 0 0 A) (F0 m pc ls st0) := by
  obtain ⟨hx, hb, hml, hown, hts, hlocks, hrt, hK, hA, hN⟩ := id C
  intro T hT X
  obtain ⟨v, st₀, t, T', Lo, h0, X', hLo, e1, e2, ⟨⟨r, σ1, hv, hr32, hσ1, hq, hw1, hw2, hw3⟩, hz, hk⟩, st⟩ := hr T hT X
  have hv2 : v = mret (m_r M') r := by injection hv
  subst hv2
  rw [h0] at hz hk
  have hAA : ∀ q, va_A (mws cI cZ ad G σ) H.size q → A q := by
    intro q hq
    rcases hq with ⟨k, z, hk⟩ | hq
    · exact hD.2 k _ hk
    · exact hA q (Nat.le_trans hV.1 hq)
  have hS1 : ∀ v ∈ mpush (m_r M') r S, mok v := by
    cases h : m_r M' with
    | none => exact hS
    | some ty => exact ok_cons hr32 hS
  have hV1 : va_S A s.heap T'.heap (locs ++ Lo) :=
    ⟨Nat.le_trans hV.1 (by rw [e1]; exact hz), fun q h1 h2 => by rw [e1, hk q (Nat.lt_of_lt_of_le h1 hV.1) (fun z => h2 (hAA q z))]; exact hV.2.1 q h1 h2, fun q hq => by
      rcases List.mem_append.mp hq with h | h
      · exact hV.2.2 q h
      · exact hAA _ (hLo q h)⟩
  have k2 := hq hL hS1 hσ1 p l e s m args below meth c A D cI cZ ad C T'.heap (locs ++ Lo) ls (by rw [e1]; exact hw1) (hw3.weaken (fun _ _ _ h => hAA _ h)) hV1 hl
  rw [w_push] at k2
  obtain ⟨t2, a1, b1⟩ := k2 T' rfl X'
  exact ⟨t2, st t2 a1, b1⟩
theorem WP.callV {G : MG} {M : MI} (M' : MI) {pc : Nat} {L : List (Option MV)} {S S0 : List MV} {σ : Mem} {Q : Int → Mem → Prop} {idx k ci : Nat} {fs : List (Option Nat)} (As : List MV) (hc : mcv M' As.length) (d : decode (m_c M) pc = .ok (.invokevirtual idx, 3)) (hl0 : Cond.methodLink (m_y M).cls idx (m_y M') ∈ TBL)
    (hG : G[k]? = some (.inr (ci, fs))) (hcl : (vwCl[ci]?).map (fun q => q.1) = some (m_y M').cls) (hR : mfit M M') (hS0 : As.reverse ++ mr k :: S = S0) (hW : (S.map mcat).sum ≤ 8)
    (h : HT G M' (mr k :: As) σ (fun r σ1 => WP G M (pc + 3) L (mpush (m_r M') r S) σ1 Q)) : WP G M pc L S0 σ Q := by
  intro hL hS hσ p l e s m args below meth c A D cI cZ ad C H locs ls hP hD hV hl
  obtain ⟨hx, hb, hml, hown, hts, hlocks, hr, hK, hA, hN⟩ := id C
  obtain ⟨c1, c2, c3, c4, c5⟩ := hc
  subst hS0
  have hargs : ∀ v ∈ mr k :: As, mok v := ok_cons trivial (fun v hv => hS v (List.mem_append_left _ (List.mem_reverse.mpr hv)))
  have hM := h hargs hσ l D cI cZ ad H.size
  obtain ⟨q, hq, hq2⟩ : ∃ q, vwCl[ci]? = some q ∧ q.1 = (m_y M').cls := by
    cases hz : vwCl[ci]? with
    | none => rw [hz] at hcl; cases hcl
    | some q => rw [hz] at hcl; exact ⟨q, rfl, Option.some.inj hcl⟩
  have hrecv := va_recv hK hP hq (mws_at hG)
  rw [hq2] at hrecv
  refine WP.back (M' := M') hL (fun v hv => hS v (List.mem_append_right _ (List.mem_cons_of_mem _ hv))) C hP hD hV hl
    (va_runV (As := As.map (mval ad)) ⟨hx, hb, hml, hown, hts⟩ hM ⟨callB_of As.length hts (goodIn_M c1) rfl rfl rfl (hts _ c2) (hts _ hl0) c5 hR, hts _ c3, hts _ c4⟩
      ⟨blind_M (mr k :: As) D cI cZ ad G H.size σ, hrecv, fun U hU hW => ⟨rfl, by rw [hU], ⟨by rw [hU]; exact hP, va_K.moved hW.alike hK, hD.weaken (fun _ _ _ _ => trivial)⟩, mnest_warm hW hN⟩⟩
      rfl (by simp) hl.1 (by simp [mval]) (lv_room (by rw [w_cats]; exact hW)) d ⟨Nat.zero_le _, Nat.zero_le _⟩)
theorem WP.callS {G : MG} {M : MI} (M' : MI) {pc : Nat} {L : List (Option MV)} {S S0 : List MV} {σ : Mem} {Q : Int → Mem → Prop} {idx : Nat} (As : List MV) (hc : mcs M' As.length) (d : decode (m_c M) pc = .ok (.invokestatic idx, 3)) (hl0 : Cond.methodLink (m_y M).cls idx (m_y M') ∈ TBL)
    (hR : mfit M M') (hS0 : As.reverse ++ S = S0) (hW : (S.map mcat).sum ≤ 8)
    (h : HT G M' As σ (fun r σ1 => WP G M (pc + 3) L (mpush (m_r M') r S) σ1 Q)) : WP G M pc L S0 σ Q := by
  intro hL hS hσ p l e s m args below meth c A D cI cZ ad C H locs ls hP hD hV hl
  obtain ⟨hx, hb, hml, hown, hts, hlocks, hr, hK, hA, hN⟩ := id C
  obtain ⟨c1, c2, c3, c5⟩ := hc
  subst hS0
  have hM := h (fun v hv => hS v (List.mem_append_left _ (List.mem_reverse.mpr hv))) hσ l D cI cZ ad H.size
  refine WP.back (M' := M') hL (fun v hv => hS v (List.mem_append_right _ hv)) C hP hD hV hl
    (va_runS (As := As.map (mval ad)) ⟨hx, hb, hml, hown, hts⟩ hM ⟨callB_of As.length hts (goodIn_M c1) rfl rfl rfl (hts _ c2) (hts _ hl0) c5 hR, hts _ c3⟩
      ⟨blind_M As D cI cZ ad G H.size σ, fun U hU hW => ⟨rfl, by rw [hU], ⟨by rw [hU]; exact hP, va_K.moved hW.alike hK, hD.weaken (fun _ _ _ _ => trivial)⟩, mnest_warm hW hN⟩⟩
      rfl (by simp) hl.1 (by simp) (lv_room (by rw [w_cats]; exact hW)) d ⟨Nat.zero_le _, Nat.zero_le _⟩)
theorem WP.callSN {G : MG} {M : MI} (M' : MI) {pc : Nat} {L : List (Option MV)} {S S0 : List MV} {σ : Mem} {Q : Int → Mem → Prop} {idx : Nat} {host : String} (As : List MV) (hc : mcs M' As.length) (d : decode (m_c M) pc = .ok (.invokestatic idx, 3)) (hl0 : Cond.methodLinkNest (m_y M).cls idx (m_y M') host ∈ mNW)
    (hR : mfit M M') (hS0 : As.reverse ++ S = S0) (hW : (S.map mcat).sum ≤ 8)
    (h : HT G M' As σ (fun r σ1 => WP G M (pc + 3) L (mpush (m_r M') r S) σ1 Q)) : WP G M pc L S0 σ Q := by
  intro hL hS hσ p l e s m args below meth c A D cI cZ ad C H locs ls hP hD hV hl
  obtain ⟨hx, hb, hml, hown, hts, hlocks, hr, hK, hA, hN⟩ := id C
  obtain ⟨c1, c2, c3, c5⟩ := hc
  subst hS0
  have hM := h (fun v hv => hS v (List.mem_append_left _ (List.mem_reverse.mpr hv))) hσ l D cI cZ ad H.size
  refine WP.back (M' := M') hL (fun v hv => hS v (List.mem_append_right _ hv)) C hP hD hV hl
    (va_runSN (As := As.map (mval ad)) ⟨hx, hb, hml, hown, hts⟩ hM ⟨va_cnB As.length hts (goodIn_M c1) rfl rfl rfl (hN _ hl0) (hts _ c2) c5 hR, hts _ c3, trivial⟩
      ⟨blind_M As D cI cZ ad G H.size σ, fun U hU hW => ⟨rfl, by rw [hU], ⟨by rw [hU]; exact hP, va_K.moved hW.alike hK, hD.weaken (fun _ _ _ _ => trivial)⟩, mnest_warm hW hN⟩⟩
      rfl (by simp) hl.1 (by simp) (lv_room (by rw [w_cats]; exact hW)) d ⟨Nat.zero_le _, Nat.zero_le _⟩)
/-! returns -/
theorem WP.iret {G : MG} {M : MI} {pc : Nat} {L : List (Option MV)} {σ : Mem} {Q : Int → Mem → Prop} {x : Int} (hr0 : m_r M = some .int) (d : decode (m_c M) pc = .ok (.ireturn, 1)) (h : Q x σ) : WP G M pc L [mi x] σ Q := by
  intro hL hS hσ p l e s m args below meth c A D cI cZ ad C H locs ls hP hD hV hl
  obtain ⟨hx, hb, hml, hown, hts, hlocks, hr, hK, hA, hN⟩ := id C
  exact W.iret (v := Int32.ofInt x) hx hb (hr.trans hr0) (fun t ht hW => ⟨⟨x, σ, by rw [hr0]; rfl, ok_hd hS, hσ, h, by rw [ht]; exact hP, va_K.moved hW.alike hK, hD⟩, hV.F ht⟩) hV.2.2 d hlocks
theorem WP.zret {G : MG} {M : MI} {pc : Nat} {L : List (Option MV)} {σ : Mem} {Q : Int → Mem → Prop} {x : Int} (hr0 : m_r M = some .boolean) (d : decode (m_c M) pc = .ok (.ireturn, 1)) (h01 : x = 0 ∨ x = 1) (h : Q x σ) : WP G M pc L [mi x] σ Q := by
  intro hL hS hσ p l e s m args below meth c A D cI cZ ad C H locs ls hP hD hV hl
  obtain ⟨hx, hb, hml, hown, hts, hlocks, hr, hK, hA, hN⟩ := id C
  exact W.zret (v := Int32.ofInt x) hx hb (hr.trans hr0) (by rcases h01 with rfl | rfl <;> decide) (fun t ht hW => ⟨⟨x, σ, by rw [hr0]; rfl, ok_hd hS, hσ, h, by rw [ht]; exact hP, va_K.moved hW.alike hK, hD⟩, hV.F ht⟩) hV.2.2 d hlocks
theorem WP.vret {G : MG} {M : MI} {pc : Nat} {L : List (Option MV)} {σ : Mem} {Q : Int → Mem → Prop} (hr0 : m_r M = none) (d : decode (m_c M) pc = .ok (.return_, 1)) (h : Q 0 σ) : WP G M pc L [] σ Q := by
  intro hL hS hσ p l e s m args below meth c A D cI cZ ad C H locs ls hP hD hV hl
  obtain ⟨hx, hb, hml, hown, hts, hlocks, hr, hK, hA, hN⟩ := id C
  exact W.vret hx hb (hr.trans hr0) (fun t ht hW => ⟨⟨0, σ, by rw [hr0]; rfl, ⟨by decide, by decide⟩, hσ, h, by rw [ht]; exact hP, va_K.moved hW.alike hK, hD⟩, hV.F ht⟩) hV.2.2 d hlocks
end
