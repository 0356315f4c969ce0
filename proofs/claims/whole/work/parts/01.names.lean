-- ===== PART A: goes FIRST, ahead of the names: the tables' words, and 'selects' of the private methods out of them =====
/-- a private method of a class that the tables say can be made, by its rows of tables_1 -/
def lw_okq (q : MethodName × Nat) : Prop := (q.1.cls ≠ "java/lang/invoke/MethodHandle" ∧ q.1.cls ≠ "java/lang/invoke/VarHandle") ∧ Cond.instantiable q.1.cls q.2 ∈ tables_1 ∧ Cond.privateMethod q.1 ∈ tables_1 ∧ Cond.instanceMethod q.1 ∈ tables_1
theorem lw_p0 : lw_okq (⟨"CoatPockets$Reader", "readCoat", "(LCoatPockets$Tape;)Z"⟩, 4) := ⟨⟨by decide +kernel, by decide +kernel⟩, List.mem_of_getElem? (i := 136) (by decide +kernel), List.mem_of_getElem? (i := 350) (by decide +kernel), List.mem_of_getElem? (i := 351) (by decide +kernel)⟩
theorem lw_p1 : lw_okq (⟨"CoatPockets$Reader", "readAct", "(LCoatPockets$Tape;LCoatPockets$State;)Z"⟩, 4) := ⟨⟨by decide +kernel, by decide +kernel⟩, List.mem_of_getElem? (i := 136) (by decide +kernel), List.mem_of_getElem? (i := 403) (by decide +kernel), List.mem_of_getElem? (i := 404) (by decide +kernel)⟩
theorem lw_p2 : lw_okq (⟨"CoatPockets$Reader", "readWay", "(LCoatPockets$Tape;LCoatPockets$State;I)Z"⟩, 4) := ⟨⟨by decide +kernel, by decide +kernel⟩, List.mem_of_getElem? (i := 136) (by decide +kernel), List.mem_of_getElem? (i := 407) (by decide +kernel), List.mem_of_getElem? (i := 408) (by decide +kernel)⟩
theorem lw_p3 : lw_okq (⟨"CoatPockets$Reader", "doAct", "(LCoatPockets$State;)I"⟩, 4) := ⟨⟨by decide +kernel, by decide +kernel⟩, List.mem_of_getElem? (i := 136) (by decide +kernel), List.mem_of_getElem? (i := 415) (by decide +kernel), List.mem_of_getElem? (i := 416) (by decide +kernel)⟩
theorem lw_p4 : lw_okq (⟨"CoatPockets$State", "change", "(II)I"⟩, 5) := ⟨⟨by decide +kernel, by decide +kernel⟩, List.mem_of_getElem? (i := 23) (by decide +kernel), List.mem_of_getElem? (i := 453) (by decide +kernel), List.mem_of_getElem? (i := 454) (by decide +kernel)⟩
theorem lw_p5 : lw_okq (⟨"CoatPockets$State", "drawsBelow", "(I)Z"⟩, 5) := ⟨⟨by decide +kernel, by decide +kernel⟩, List.mem_of_getElem? (i := 23) (by decide +kernel), List.mem_of_getElem? (i := 457) (by decide +kernel), List.mem_of_getElem? (i := 458) (by decide +kernel)⟩
theorem lw_p6 : lw_okq (⟨"CoatPockets$Ways", "start", "(II)V"⟩, 6) := ⟨⟨by decide +kernel, by decide +kernel⟩, List.mem_of_getElem? (i := 158) (by decide +kernel), List.mem_of_getElem? (i := 513) (by decide +kernel), List.mem_of_getElem? (i := 514) (by decide +kernel)⟩
theorem lw_p7 : lw_okq (⟨"CoatPockets$Ways", "spread", "()V"⟩, 6) := ⟨⟨by decide +kernel, by decide +kernel⟩, List.mem_of_getElem? (i := 158) (by decide +kernel), List.mem_of_getElem? (i := 517) (by decide +kernel), List.mem_of_getElem? (i := 518) (by decide +kernel)⟩
theorem lw_p8 : lw_okq (⟨"CoatPockets$Ways", "ring", "()V"⟩, 6) := ⟨⟨by decide +kernel, by decide +kernel⟩, List.mem_of_getElem? (i := 158) (by decide +kernel), List.mem_of_getElem? (i := 522) (by decide +kernel), List.mem_of_getElem? (i := 523) (by decide +kernel)⟩
theorem lw_p9 : lw_okq (⟨"CoatPockets$Ways", "bellsTo", "(II)I"⟩, 6) := ⟨⟨by decide +kernel, by decide +kernel⟩, List.mem_of_getElem? (i := 158) (by decide +kernel), List.mem_of_getElem? (i := 535) (by decide +kernel), List.mem_of_getElem? (i := 536) (by decide +kernel)⟩
theorem lw_p10 : lw_okq (⟨"CoatPockets$Coats", "swap", "(II)V"⟩, 5) := ⟨⟨by decide +kernel, by decide +kernel⟩, List.mem_of_getElem? (i := 29) (by decide +kernel), List.mem_of_getElem? (i := 555) (by decide +kernel), List.mem_of_getElem? (i := 556) (by decide +kernel)⟩
theorem lw_p11 : lw_okq (⟨"CoatPockets$Ledger", "mostSets", "(I)I"⟩, 4) := ⟨⟨by decide +kernel, by decide +kernel⟩, List.mem_of_getElem? (i := 186) (by decide +kernel), List.mem_of_getElem? (i := 597) (by decide +kernel), List.mem_of_getElem? (i := 598) (by decide +kernel)⟩
theorem lw_p12 : lw_okq (⟨"CoatPockets$Ledger", "addDebt", "(III)Z"⟩, 4) := ⟨⟨by decide +kernel, by decide +kernel⟩, List.mem_of_getElem? (i := 186) (by decide +kernel), List.mem_of_getElem? (i := 640) (by decide +kernel), List.mem_of_getElem? (i := 641) (by decide +kernel)⟩
theorem lw_p13 : lw_okq (⟨"CoatPocketsModel", "isThing", "(I)Z"⟩, 33) := ⟨⟨by decide +kernel, by decide +kernel⟩, List.mem_of_getElem? (i := 674) (by decide +kernel), List.mem_of_getElem? (i := 804) (by decide +kernel), List.mem_of_getElem? (i := 805) (by decide +kernel)⟩
theorem lw_p14 : lw_okq (⟨"CoatPocketsModel", "isCoat", "(I)Z"⟩, 33) := ⟨⟨by decide +kernel, by decide +kernel⟩, List.mem_of_getElem? (i := 674) (by decide +kernel), List.mem_of_getElem? (i := 817) (by decide +kernel), List.mem_of_getElem? (i := 818) (by decide +kernel)⟩
theorem lw_p15 : lw_okq (⟨"CoatPocketsModel", "wearer", "(II)I"⟩, 33) := ⟨⟨by decide +kernel, by decide +kernel⟩, List.mem_of_getElem? (i := 674) (by decide +kernel), List.mem_of_getElem? (i := 822) (by decide +kernel), List.mem_of_getElem? (i := 823) (by decide +kernel)⟩
def lw_privs_1 : List (MethodName × Nat) := [(⟨"CoatPockets$Reader", "readCoat", "(LCoatPockets$Tape;)Z"⟩, 4), (⟨"CoatPockets$Reader", "readAct", "(LCoatPockets$Tape;LCoatPockets$State;)Z"⟩, 4), (⟨"CoatPockets$Reader", "readWay", "(LCoatPockets$Tape;LCoatPockets$State;I)Z"⟩, 4), (⟨"CoatPockets$Reader", "doAct", "(LCoatPockets$State;)I"⟩, 4), (⟨"CoatPockets$State", "change", "(II)I"⟩, 5), (⟨"CoatPockets$State", "drawsBelow", "(I)Z"⟩, 5), (⟨"CoatPockets$Ways", "start", "(II)V"⟩, 6), (⟨"CoatPockets$Ways", "spread", "()V"⟩, 6), (⟨"CoatPockets$Ways", "ring", "()V"⟩, 6), (⟨"CoatPockets$Ways", "bellsTo", "(II)I"⟩, 6), (⟨"CoatPockets$Coats", "swap", "(II)V"⟩, 5), (⟨"CoatPockets$Ledger", "mostSets", "(I)I"⟩, 4), (⟨"CoatPockets$Ledger", "addDebt", "(III)Z"⟩, 4), (⟨"CoatPocketsModel", "isThing", "(I)Z"⟩, 33), (⟨"CoatPocketsModel", "isCoat", "(I)Z"⟩, 33), (⟨"CoatPocketsModel", "wearer", "(II)I"⟩, 33)]
theorem lw_r1 : ∀ q ∈ lw_privs_1, lw_okq q := List.forall_mem_cons.mpr ⟨lw_p0, List.forall_mem_cons.mpr ⟨lw_p1, List.forall_mem_cons.mpr ⟨lw_p2, List.forall_mem_cons.mpr ⟨lw_p3, List.forall_mem_cons.mpr ⟨lw_p4, List.forall_mem_cons.mpr ⟨lw_p5, List.forall_mem_cons.mpr ⟨lw_p6, List.forall_mem_cons.mpr ⟨lw_p7, List.forall_mem_cons.mpr ⟨lw_p8, List.forall_mem_cons.mpr ⟨lw_p9, List.forall_mem_cons.mpr ⟨lw_p10, List.forall_mem_cons.mpr ⟨lw_p11, List.forall_mem_cons.mpr ⟨lw_p12, List.forall_mem_cons.mpr ⟨lw_p13, List.forall_mem_cons.mpr ⟨lw_p14, List.forall_mem_cons.mpr ⟨lw_p15, fun _ h => absurd h List.not_mem_nil⟩⟩⟩⟩⟩⟩⟩⟩⟩⟩⟩⟩⟩⟩⟩⟩
theorem lw_p16 : lw_okq (⟨"CoatPocketsModel", "thingsAt", "(I)I"⟩, 33) := ⟨⟨by decide +kernel, by decide +kernel⟩, List.mem_of_getElem? (i := 674) (by decide +kernel), List.mem_of_getElem? (i := 826) (by decide +kernel), List.mem_of_getElem? (i := 827) (by decide +kernel)⟩
theorem lw_p17 : lw_okq (⟨"CoatPocketsModel", "readSchool", "()Z"⟩, 33) := ⟨⟨by decide +kernel, by decide +kernel⟩, List.mem_of_getElem? (i := 674) (by decide +kernel), List.mem_of_getElem? (i := 853) (by decide +kernel), List.mem_of_getElem? (i := 854) (by decide +kernel)⟩
theorem lw_p18 : lw_okq (⟨"CoatPocketsModel", "readCoat", "(I)Z"⟩, 33) := ⟨⟨by decide +kernel, by decide +kernel⟩, List.mem_of_getElem? (i := 674) (by decide +kernel), List.mem_of_getElem? (i := 857) (by decide +kernel), List.mem_of_getElem? (i := 858) (by decide +kernel)⟩
theorem lw_p19 : lw_okq (⟨"CoatPocketsModel", "nextByte", "()I"⟩, 33) := ⟨⟨by decide +kernel, by decide +kernel⟩, List.mem_of_getElem? (i := 674) (by decide +kernel), List.mem_of_getElem? (i := 861) (by decide +kernel), List.mem_of_getElem? (i := 862) (by decide +kernel)⟩
theorem lw_p20 : lw_okq (⟨"CoatPocketsModel", "readDigit", "(I)I"⟩, 33) := ⟨⟨by decide +kernel, by decide +kernel⟩, List.mem_of_getElem? (i := 674) (by decide +kernel), List.mem_of_getElem? (i := 870) (by decide +kernel), List.mem_of_getElem? (i := 871) (by decide +kernel)⟩
theorem lw_p21 : lw_okq (⟨"CoatPocketsModel", "readDay", "()Z"⟩, 33) := ⟨⟨by decide +kernel, by decide +kernel⟩, List.mem_of_getElem? (i := 674) (by decide +kernel), List.mem_of_getElem? (i := 878) (by decide +kernel), List.mem_of_getElem? (i := 879) (by decide +kernel)⟩
theorem lw_p22 : lw_okq (⟨"CoatPocketsModel", "readAct", "(I)Z"⟩, 33) := ⟨⟨by decide +kernel, by decide +kernel⟩, List.mem_of_getElem? (i := 674) (by decide +kernel), List.mem_of_getElem? (i := 882) (by decide +kernel), List.mem_of_getElem? (i := 883) (by decide +kernel)⟩
theorem lw_p23 : lw_okq (⟨"CoatPocketsModel", "does", "(I)Z"⟩, 33) := ⟨⟨by decide +kernel, by decide +kernel⟩, List.mem_of_getElem? (i := 674) (by decide +kernel), List.mem_of_getElem? (i := 886) (by decide +kernel), List.mem_of_getElem? (i := 887) (by decide +kernel)⟩
theorem lw_p24 : lw_okq (⟨"CoatPocketsModel", "come", "(II)V"⟩, 33) := ⟨⟨by decide +kernel, by decide +kernel⟩, List.mem_of_getElem? (i := 674) (by decide +kernel), List.mem_of_getElem? (i := 894) (by decide +kernel), List.mem_of_getElem? (i := 895) (by decide +kernel)⟩
theorem lw_p25 : lw_okq (⟨"CoatPocketsModel", "wearsAny", "(I)Z"⟩, 33) := ⟨⟨by decide +kernel, by decide +kernel⟩, List.mem_of_getElem? (i := 674) (by decide +kernel), List.mem_of_getElem? (i := 910) (by decide +kernel), List.mem_of_getElem? (i := 911) (by decide +kernel)⟩
theorem lw_p26 : lw_okq (⟨"CoatPocketsModel", "ring", "(II)Z"⟩, 33) := ⟨⟨by decide +kernel, by decide +kernel⟩, List.mem_of_getElem? (i := 674) (by decide +kernel), List.mem_of_getElem? (i := 918) (by decide +kernel), List.mem_of_getElem? (i := 919) (by decide +kernel)⟩
theorem lw_p27 : lw_okq (⟨"CoatPocketsModel", "begin", "(I)V"⟩, 33) := ⟨⟨by decide +kernel, by decide +kernel⟩, List.mem_of_getElem? (i := 674) (by decide +kernel), List.mem_of_getElem? (i := 936) (by decide +kernel), List.mem_of_getElem? (i := 937) (by decide +kernel)⟩
theorem lw_p28 : lw_okq (⟨"CoatPocketsModel", "closeAll", "(II)V"⟩, 33) := ⟨⟨by decide +kernel, by decide +kernel⟩, List.mem_of_getElem? (i := 674) (by decide +kernel), List.mem_of_getElem? (i := 940) (by decide +kernel), List.mem_of_getElem? (i := 941) (by decide +kernel)⟩
theorem lw_p29 : lw_okq (⟨"CoatPocketsModel", "close", "(II)V"⟩, 33) := ⟨⟨by decide +kernel, by decide +kernel⟩, List.mem_of_getElem? (i := 674) (by decide +kernel), List.mem_of_getElem? (i := 944) (by decide +kernel), List.mem_of_getElem? (i := 945) (by decide +kernel)⟩
theorem lw_p30 : lw_okq (⟨"CoatPocketsModel", "ringOn", "(II)V"⟩, 33) := ⟨⟨by decide +kernel, by decide +kernel⟩, List.mem_of_getElem? (i := 674) (by decide +kernel), List.mem_of_getElem? (i := 948) (by decide +kernel), List.mem_of_getElem? (i := 949) (by decide +kernel)⟩
theorem lw_p31 : lw_okq (⟨"CoatPocketsModel", "findSoonest", "(III)I"⟩, 33) := ⟨⟨by decide +kernel, by decide +kernel⟩, List.mem_of_getElem? (i := 674) (by decide +kernel), List.mem_of_getElem? (i := 956) (by decide +kernel), List.mem_of_getElem? (i := 957) (by decide +kernel)⟩
def lw_privs_2 : List (MethodName × Nat) := [(⟨"CoatPocketsModel", "thingsAt", "(I)I"⟩, 33), (⟨"CoatPocketsModel", "readSchool", "()Z"⟩, 33), (⟨"CoatPocketsModel", "readCoat", "(I)Z"⟩, 33), (⟨"CoatPocketsModel", "nextByte", "()I"⟩, 33), (⟨"CoatPocketsModel", "readDigit", "(I)I"⟩, 33), (⟨"CoatPocketsModel", "readDay", "()Z"⟩, 33), (⟨"CoatPocketsModel", "readAct", "(I)Z"⟩, 33), (⟨"CoatPocketsModel", "does", "(I)Z"⟩, 33), (⟨"CoatPocketsModel", "come", "(II)V"⟩, 33), (⟨"CoatPocketsModel", "wearsAny", "(I)Z"⟩, 33), (⟨"CoatPocketsModel", "ring", "(II)Z"⟩, 33), (⟨"CoatPocketsModel", "begin", "(I)V"⟩, 33), (⟨"CoatPocketsModel", "closeAll", "(II)V"⟩, 33), (⟨"CoatPocketsModel", "close", "(II)V"⟩, 33), (⟨"CoatPocketsModel", "ringOn", "(II)V"⟩, 33), (⟨"CoatPocketsModel", "findSoonest", "(III)I"⟩, 33)]
theorem lw_r2 : ∀ q ∈ lw_privs_2, lw_okq q := List.forall_mem_cons.mpr ⟨lw_p16, List.forall_mem_cons.mpr ⟨lw_p17, List.forall_mem_cons.mpr ⟨lw_p18, List.forall_mem_cons.mpr ⟨lw_p19, List.forall_mem_cons.mpr ⟨lw_p20, List.forall_mem_cons.mpr ⟨lw_p21, List.forall_mem_cons.mpr ⟨lw_p22, List.forall_mem_cons.mpr ⟨lw_p23, List.forall_mem_cons.mpr ⟨lw_p24, List.forall_mem_cons.mpr ⟨lw_p25, List.forall_mem_cons.mpr ⟨lw_p26, List.forall_mem_cons.mpr ⟨lw_p27, List.forall_mem_cons.mpr ⟨lw_p28, List.forall_mem_cons.mpr ⟨lw_p29, List.forall_mem_cons.mpr ⟨lw_p30, List.forall_mem_cons.mpr ⟨lw_p31, fun _ h => absurd h List.not_mem_nil⟩⟩⟩⟩⟩⟩⟩⟩⟩⟩⟩⟩⟩⟩⟩⟩
theorem lw_p32 : lw_okq (⟨"CoatPocketsModel", "nextOrder", "(I)Z"⟩, 33) := ⟨⟨by decide +kernel, by decide +kernel⟩, List.mem_of_getElem? (i := 674) (by decide +kernel), List.mem_of_getElem? (i := 965) (by decide +kernel), List.mem_of_getElem? (i := 966) (by decide +kernel)⟩
theorem lw_p33 : lw_okq (⟨"CoatPocketsModel", "balanceOf", "(I)I"⟩, 33) := ⟨⟨by decide +kernel, by decide +kernel⟩, List.mem_of_getElem? (i := 674) (by decide +kernel), List.mem_of_getElem? (i := 985) (by decide +kernel), List.mem_of_getElem? (i := 986) (by decide +kernel)⟩
theorem lw_p34 : lw_okq (⟨"CoatPocketsModel", "carried", "(IIZ)I"⟩, 33) := ⟨⟨by decide +kernel, by decide +kernel⟩, List.mem_of_getElem? (i := 674) (by decide +kernel), List.mem_of_getElem? (i := 1002) (by decide +kernel), List.mem_of_getElem? (i := 1003) (by decide +kernel)⟩
theorem lw_p35 : lw_okq (⟨"CoatPocketsModel", "lacksRow", "(IIII)I"⟩, 33) := ⟨⟨by decide +kernel, by decide +kernel⟩, List.mem_of_getElem? (i := 674) (by decide +kernel), List.mem_of_getElem? (i := 1025) (by decide +kernel), List.mem_of_getElem? (i := 1026) (by decide +kernel)⟩
def lw_privs_3 : List (MethodName × Nat) := [(⟨"CoatPocketsModel", "nextOrder", "(I)Z"⟩, 33), (⟨"CoatPocketsModel", "balanceOf", "(I)I"⟩, 33), (⟨"CoatPocketsModel", "carried", "(IIZ)I"⟩, 33), (⟨"CoatPocketsModel", "lacksRow", "(IIII)I"⟩, 33)]
theorem lw_r3 : ∀ q ∈ lw_privs_3, lw_okq q := List.forall_mem_cons.mpr ⟨lw_p32, List.forall_mem_cons.mpr ⟨lw_p33, List.forall_mem_cons.mpr ⟨lw_p34, List.forall_mem_cons.mpr ⟨lw_p35, fun _ h => absurd h List.not_mem_nil⟩⟩⟩⟩
def lw_privs : List (MethodName × Nat) := lw_privs_1 ++ (lw_privs_2 ++ (lw_privs_3))
def lw_tbl : List Cond := k2_sels lw_privs ++ tables_1
theorem lw_privs_ok : ∀ q ∈ lw_privs, lw_okq q := by
  show ∀ q ∈ lw_privs_1 ++ (lw_privs_2 ++ (lw_privs_3)), lw_okq q
  exact List.forall_mem_append.mpr ⟨lw_r1, List.forall_mem_append.mpr ⟨lw_r2, lw_r3⟩⟩
-- ===== end of PART A; then your names; then what follows =====
/-! ===== BEGIN words of one list among another's, by their places ===== -/
/-! ===== END ===== -/

/-! ===== BEGIN printed: names, fields, word lists, decode rows ===== -/
def RX0 : String := "CoatPockets$Coats"
def TX0 : u_T := fun k => match k with
  | 0 => ("CoatPockets$Coats", "many", "I", false)
  | 1 => ("CoatPockets$Coats", "boys", "[I", true)
  | 2 => ("CoatPockets$Coats", "sizes", "[I", true)
  | 3 => ("CoatPockets$Coats", "turns", "[I", true)
  | _ => ("CoatPockets$Coats", "holes", "[I", true)
def tyX0 : Nat → FieldType := fun k => match k with
  | 0 => .int
  | 1 => .array .int
  | 2 => .array .int
  | 3 => .array .int
  | _ => .array .int
abbrev wsX00 : List Cond := u_ws RX0 TX0 5
theorem nmX0 : ∀ a, a < 5 → ∀ b, b < 5 → a ≠ b → (TX0 a).2.1 ≠ (TX0 b).2.1 := by decide +kernel
theorem tyX0_ok : ∀ k, k < 5 → parseFieldDescriptor (TX0 k).2.2.1 = some (tyX0 k) := by decide +kernel
abbrev cX0_init : ByteArray := prog_2_method_1_code
def yX0_init : MethodName := ⟨RX0, "<init>", "()V"⟩
abbrev cX0_become : ByteArray := prog_2_method_2_code
def yX0_become : MethodName := ⟨RX0, "become", "(LCoatPockets$Coats;)V"⟩
abbrev cX0_has : ByteArray := prog_2_method_3_code
def yX0_has : MethodName := ⟨RX0, "has", "(I)Z"⟩
abbrev cX0_open : ByteArray := prog_2_method_4_code
def yX0_open : MethodName := ⟨RX0, "open", "()V"⟩
abbrev cX0_join : ByteArray := prog_2_method_5_code
def yX0_join : MethodName := ⟨RX0, "join", "(I)V"⟩
abbrev cX0_close : ByteArray := prog_2_method_6_code
def yX0_close : MethodName := ⟨RX0, "close", "(I)V"⟩
abbrev cX0_wearer : ByteArray := prog_2_method_7_code
def yX0_wearer : MethodName := ⟨RX0, "wearer", "(I)I"⟩
abbrev cX0_boyOfTurn : ByteArray := prog_2_method_8_code
def yX0_boyOfTurn : MethodName := ⟨RX0, "boyOfTurn", "(II)I"⟩
abbrev cX0_anyOn : ByteArray := prog_2_method_9_code
def yX0_anyOn : MethodName := ⟨RX0, "anyOn", "(I)Z"⟩
abbrev cX0_turnAll : ByteArray := prog_2_method_10_code
def yX0_turnAll : MethodName := ⟨RX0, "turnAll", "()V"⟩
abbrev cX0_wearers : ByteArray := prog_2_method_11_code
def yX0_wearers : MethodName := ⟨RX0, "wearers", "(II)I"⟩
abbrev cX0_sortTurn : ByteArray := prog_2_method_12_code
def yX0_sortTurn : MethodName := ⟨RX0, "sortTurn", "(I)V"⟩
abbrev cX0_nextOrder : ByteArray := prog_2_method_13_code
def yX0_nextOrder : MethodName := ⟨RX0, "nextOrder", "(I)Z"⟩
abbrev cX0_swap : ByteArray := prog_2_method_14_code
def yX0_swap : MethodName := ⟨RX0, "swap", "(II)V"⟩
def RX1 : String := "CoatPockets$Ledger"
def TX1 : u_T := fun k => match k with
  | 0 => ("CoatPockets$Ledger", "trial", "[I", true)
  | 1 => ("CoatPockets$Ledger", "open", "[I", true)
  | 2 => ("CoatPockets$Ledger", "sums", "[I", true)
  | _ => ("CoatPockets$Ledger", "most", "[I", true)
def tyX1 : Nat → FieldType := fun k => match k with
  | 0 => .array .int
  | 1 => .array .int
  | 2 => .array .int
  | _ => .array .int
abbrev wsX10 : List Cond := u_ws RX1 TX1 4
theorem nmX1 : ∀ a, a < 4 → ∀ b, b < 4 → a ≠ b → (TX1 a).2.1 ≠ (TX1 b).2.1 := by decide +kernel
theorem tyX1_ok : ∀ k, k < 4 → parseFieldDescriptor (TX1 k).2.2.1 = some (tyX1 k) := by decide +kernel
abbrev cX1_init : ByteArray := prog_3_method_1_code
def yX1_init : MethodName := ⟨RX1, "<init>", "()V"⟩
abbrev cX1_addDebts : ByteArray := prog_3_method_2_code
def yX1_addDebts : MethodName := ⟨RX1, "addDebts", "(LCoatPockets$State;[III)I"⟩
abbrev cX1_addDebt : ByteArray := prog_3_method_3_code
def yX1_addDebt : MethodName := ⟨RX1, "addDebt", "(III)Z"⟩
abbrev cX1_fewest : ByteArray := prog_3_method_4_code
def yX1_fewest : MethodName := ⟨RX1, "fewest", "(LCoatPockets$State;)I"⟩
abbrev cX1_mostSets : ByteArray := prog_3_method_5_code
def yX1_mostSets : MethodName := ⟨RX1, "mostSets", "(I)I"⟩
def RX2 : String := "CoatPockets$Reader"
def TX2 : u_T := fun k => match k with
  | 0 => ("CoatPockets$Reader", "coats", "LCoatPockets$Coats;", true)
  | 1 => ("CoatPockets$Reader", "act", "C", false)
  | 2 => ("CoatPockets$Reader", "thing", "I", false)
  | _ => ("CoatPockets$Reader", "target", "I", false)
def tyX2 : Nat → FieldType := fun k => match k with
  | 0 => .object "CoatPockets$Coats"
  | 1 => .char
  | 2 => .int
  | _ => .int
abbrev wsX20 : List Cond := u_ws RX2 TX2 4
theorem nmX2 : ∀ a, a < 4 → ∀ b, b < 4 → a ≠ b → (TX2 a).2.1 ≠ (TX2 b).2.1 := by decide +kernel
theorem tyX2_ok : ∀ k, k < 4 → parseFieldDescriptor (TX2 k).2.2.1 = some (tyX2 k) := by decide +kernel
abbrev cX2_init : ByteArray := prog_4_method_1_code
def yX2_init : MethodName := ⟨RX2, "<init>", "()V"⟩
abbrev cX2_readSchool : ByteArray := prog_4_method_2_code
def yX2_readSchool : MethodName := ⟨RX2, "readSchool", "(LCoatPockets$Tape;)I"⟩
abbrev cX2_readCoat : ByteArray := prog_4_method_3_code
def yX2_readCoat : MethodName := ⟨RX2, "readCoat", "(LCoatPockets$Tape;)Z"⟩
abbrev cX2_checkDay : ByteArray := prog_4_method_4_code
def yX2_checkDay : MethodName := ⟨RX2, "checkDay", "(LCoatPockets$Tape;LCoatPockets$State;)I"⟩
abbrev cX2_runDay : ByteArray := prog_4_method_5_code
def yX2_runDay : MethodName := ⟨RX2, "runDay", "(LCoatPockets$Tape;LCoatPockets$State;)I"⟩
abbrev cX2_readAct : ByteArray := prog_4_method_6_code
def yX2_readAct : MethodName := ⟨RX2, "readAct", "(LCoatPockets$Tape;LCoatPockets$State;)Z"⟩
abbrev cX2_readWay : ByteArray := prog_4_method_7_code
def yX2_readWay : MethodName := ⟨RX2, "readWay", "(LCoatPockets$Tape;LCoatPockets$State;I)Z"⟩
abbrev cX2_doAct : ByteArray := prog_4_method_8_code
def yX2_doAct : MethodName := ⟨RX2, "doAct", "(LCoatPockets$State;)I"⟩
def RX3 : String := "CoatPockets$Sheets"
def TX3 : u_T := fun k => match k with
  | 0 => ("CoatPockets$Sheets", "held", "[Z", true)
  | 1 => ("CoatPockets$Sheets", "lanes", "[I", true)
  | 2 => ("CoatPockets$Sheets", "sizes", "[I", true)
  | _ => ("CoatPockets$Sheets", "items", "[I", true)
def tyX3 : Nat → FieldType := fun k => match k with
  | 0 => .array .boolean
  | 1 => .array .int
  | 2 => .array .int
  | _ => .array .int
abbrev wsX30 : List Cond := u_ws RX3 TX3 4
theorem nmX3 : ∀ a, a < 4 → ∀ b, b < 4 → a ≠ b → (TX3 a).2.1 ≠ (TX3 b).2.1 := by decide +kernel
theorem tyX3_ok : ∀ k, k < 4 → parseFieldDescriptor (TX3 k).2.2.1 = some (tyX3 k) := by decide +kernel
abbrev cX3_init : ByteArray := prog_5_method_1_code
def yX3_init : MethodName := ⟨RX3, "<init>", "()V"⟩
abbrev cX3_lay : ByteArray := prog_5_method_2_code
def yX3_lay : MethodName := ⟨RX3, "lay", "(III)V"⟩
abbrev cX3_find : ByteArray := prog_5_method_3_code
def yX3_find : MethodName := ⟨RX3, "find", "(IIII)I"⟩
def RX4 : String := "CoatPockets$State"
def TX4 : u_T := fun k => match k with
  | 0 => ("CoatPockets$State", "coats", "LCoatPockets$Coats;", true)
  | 1 => ("CoatPockets$State", "things", "LCoatPockets$Things;", true)
  | 2 => ("CoatPockets$State", "owed", "[I", true)
  | 3 => ("CoatPockets$State", "bells", "I", false)
  | _ => ("CoatPockets$State", "draw", "I", false)
def tyX4 : Nat → FieldType := fun k => match k with
  | 0 => .object "CoatPockets$Coats"
  | 1 => .object "CoatPockets$Things"
  | 2 => .array .int
  | 3 => .int
  | _ => .int
abbrev wsX40 : List Cond := u_ws RX4 TX4 5
theorem nmX4 : ∀ a, a < 5 → ∀ b, b < 5 → a ≠ b → (TX4 a).2.1 ≠ (TX4 b).2.1 := by decide +kernel
theorem tyX4_ok : ∀ k, k < 5 → parseFieldDescriptor (TX4 k).2.2.1 = some (tyX4 k) := by decide +kernel
abbrev cX4_init : ByteArray := prog_6_method_1_code
def yX4_init : MethodName := ⟨RX4, "<init>", "()V"⟩
abbrev cX4_become : ByteArray := prog_6_method_2_code
def yX4_become : MethodName := ⟨RX4, "become", "(LCoatPockets$State;)V"⟩
abbrev cX4_putIn : ByteArray := prog_6_method_3_code
def yX4_putIn : MethodName := ⟨RX4, "putIn", "(II)I"⟩
abbrev cX4_takeOut : ByteArray := prog_6_method_4_code
def yX4_takeOut : MethodName := ⟨RX4, "takeOut", "(II)I"⟩
abbrev cX4_searchLining : ByteArray := prog_6_method_5_code
def yX4_searchLining : MethodName := ⟨RX4, "searchLining", "(I)I"⟩
abbrev cX4_handOver : ByteArray := prog_6_method_6_code
def yX4_handOver : MethodName := ⟨RX4, "handOver", "(II)I"⟩
abbrev cX4_ring : ByteArray := prog_6_method_7_code
def yX4_ring : MethodName := ⟨RX4, "ring", "()I"⟩
abbrev cX4_change : ByteArray := prog_6_method_8_code
def yX4_change : MethodName := ⟨RX4, "change", "(II)I"⟩
abbrev cX4_drawsBelow : ByteArray := prog_6_method_9_code
def yX4_drawsBelow : MethodName := ⟨RX4, "drawsBelow", "(I)Z"⟩
abbrev cX4_balanceOf : ByteArray := prog_6_method_10_code
def yX4_balanceOf : MethodName := ⟨RX4, "balanceOf", "(I)I"⟩
def RX5 : String := "CoatPockets$Tape"
def TX5 : u_T := fun k => match k with
  | 0 => ("CoatPockets$Tape", "bytes", "[I", true)
  | 1 => ("CoatPockets$Tape", "length", "I", false)
  | _ => ("CoatPockets$Tape", "looked", "I", false)
def tyX5 : Nat → FieldType := fun k => match k with
  | 0 => .array .int
  | 1 => .int
  | _ => .int
abbrev wsX50 : List Cond := u_ws RX5 TX5 3
theorem nmX5 : ∀ a, a < 3 → ∀ b, b < 3 → a ≠ b → (TX5 a).2.1 ≠ (TX5 b).2.1 := by decide +kernel
theorem tyX5_ok : ∀ k, k < 3 → parseFieldDescriptor (TX5 k).2.2.1 = some (tyX5 k) := by decide +kernel
abbrev cX5_init : ByteArray := prog_7_method_1_code
def yX5_init : MethodName := ⟨RX5, "<init>", "()V"⟩
abbrev cX5_append : ByteArray := prog_7_method_2_code
def yX5_append : MethodName := ⟨RX5, "append", "(I)V"⟩
abbrev cX5_clear : ByteArray := prog_7_method_3_code
def yX5_clear : MethodName := ⟨RX5, "clear", "()V"⟩
abbrev cX5_atEnd : ByteArray := prog_7_method_4_code
def yX5_atEnd : MethodName := ⟨RX5, "atEnd", "()Z"⟩
abbrev cX5_passes : ByteArray := prog_7_method_5_code
def yX5_passes : MethodName := ⟨RX5, "passes", "(C)Z"⟩
abbrev cX5_digitBelow : ByteArray := prog_7_method_6_code
def yX5_digitBelow : MethodName := ⟨RX5, "digitBelow", "(I)I"⟩
abbrev cX5_passDigit : ByteArray := prog_7_method_7_code
def yX5_passDigit : MethodName := ⟨RX5, "passDigit", "(I)I"⟩
abbrev cX5_fault : ByteArray := prog_7_method_8_code
def yX5_fault : MethodName := ⟨RX5, "fault", "()I"⟩
def RX6 : String := "CoatPockets$Things"
def TX6 : u_T := fun k => match k with
  | 0 => ("CoatPockets$Things", "many", "I", false)
  | 1 => ("CoatPockets$Things", "kinds", "[I", true)
  | 2 => ("CoatPockets$Things", "places", "[I", true)
  | 3 => ("CoatPockets$Things", "readers", "[I", true)
  | _ => ("CoatPockets$Things", "eaters", "[I", true)
def tyX6 : Nat → FieldType := fun k => match k with
  | 0 => .int
  | 1 => .array .int
  | 2 => .array .int
  | 3 => .array .int
  | _ => .array .int
abbrev wsX60 : List Cond := u_ws RX6 TX6 5
theorem nmX6 : ∀ a, a < 5 → ∀ b, b < 5 → a ≠ b → (TX6 a).2.1 ≠ (TX6 b).2.1 := by decide +kernel
theorem tyX6_ok : ∀ k, k < 5 → parseFieldDescriptor (TX6 k).2.2.1 = some (tyX6 k) := by decide +kernel
abbrev cX6_init : ByteArray := prog_8_method_1_code
def yX6_init : MethodName := ⟨RX6, "<init>", "()V"⟩
abbrev cX6_become : ByteArray := prog_8_method_2_code
def yX6_become : MethodName := ⟨RX6, "become", "(LCoatPockets$Things;)V"⟩
abbrev cX6_has : ByteArray := prog_8_method_3_code
def yX6_has : MethodName := ⟨RX6, "has", "(I)Z"⟩
abbrev cX6_add : ByteArray := prog_8_method_4_code
def yX6_add : MethodName := ⟨RX6, "add", "(II)I"⟩
abbrev cX6_inPocket : ByteArray := prog_8_method_5_code
def yX6_inPocket : MethodName := ⟨RX6, "inPocket", "(I)Z"⟩
abbrev cX6_readBy : ByteArray := prog_8_method_6_code
def yX6_readBy : MethodName := ⟨RX6, "readBy", "(II)V"⟩
abbrev cX6_at : ByteArray := prog_8_method_7_code
def yX6_at : MethodName := ⟨RX6, "at", "(I)I"⟩
abbrev cX6_between : ByteArray := prog_8_method_8_code
def yX6_between : MethodName := ⟨RX6, "between", "(II)I"⟩
abbrev cX6_leaveCoats : ByteArray := prog_8_method_9_code
def yX6_leaveCoats : MethodName := ⟨RX6, "leaveCoats", "()V"⟩
def RX7 : String := "CoatPockets$Ways"
def TX7 : u_T := fun k => match k with
  | 0 => ("CoatPockets$Ways", "coats", "LCoatPockets$Coats;", true)
  | 1 => ("CoatPockets$Ways", "best", "[I", true)
  | 2 => ("CoatPockets$Ways", "thieves", "I", false)
  | 3 => ("CoatPockets$Ways", "hands", "I", false)
  | 4 => ("CoatPockets$Ways", "pockets", "I", false)
  | _ => ("CoatPockets$Ways", "arrived", "I", false)
def tyX7 : Nat → FieldType := fun k => match k with
  | 0 => .object "CoatPockets$Coats"
  | 1 => .array .int
  | 2 => .int
  | 3 => .int
  | 4 => .int
  | _ => .int
abbrev wsX70 : List Cond := u_ws RX7 TX7 6
theorem nmX7 : ∀ a, a < 6 → ∀ b, b < 6 → a ≠ b → (TX7 a).2.1 ≠ (TX7 b).2.1 := by decide +kernel
theorem tyX7_ok : ∀ k, k < 6 → parseFieldDescriptor (TX7 k).2.2.1 = some (tyX7 k) := by decide +kernel
abbrev cX7_init : ByteArray := prog_9_method_1_code
def yX7_init : MethodName := ⟨RX7, "<init>", "()V"⟩
abbrev cX7_handsAfter : ByteArray := prog_9_method_2_code
def yX7_handsAfter : MethodName := ⟨RX7, "handsAfter", "(LCoatPockets$Coats;III)I"⟩
abbrev cX7_fewestBells : ByteArray := prog_9_method_3_code
def yX7_fewestBells : MethodName := ⟨RX7, "fewestBells", "(LCoatPockets$Coats;III)I"⟩
abbrev cX7_comingTo : ByteArray := prog_9_method_4_code
def yX7_comingTo : MethodName := ⟨RX7, "comingTo", "(I)I"⟩
abbrev cX7_dealBest : ByteArray := prog_9_method_5_code
def yX7_dealBest : MethodName := ⟨RX7, "dealBest", "(LCoatPockets$Coats;III)I"⟩
abbrev cX7_bellsTo : ByteArray := prog_9_method_6_code
def yX7_bellsTo : MethodName := ⟨RX7, "bellsTo", "(II)I"⟩
abbrev cX7_start : ByteArray := prog_9_method_7_code
def yX7_start : MethodName := ⟨RX7, "start", "(II)V"⟩
abbrev cX7_ring : ByteArray := prog_9_method_8_code
def yX7_ring : MethodName := ⟨RX7, "ring", "()V"⟩
abbrev cX7_spread : ByteArray := prog_9_method_9_code
def yX7_spread : MethodName := ⟨RX7, "spread", "()V"⟩
def RX8 : String := "CoatPockets"
def TX8 : u_T := fun k => match k with
  | 0 => ("CoatPockets", "now", "LCoatPockets$State;", true)
  | 1 => ("CoatPockets", "kept", "LCoatPockets$State;", true)
  | 2 => ("CoatPockets", "imaged", "Z", false)
  | 3 => ("CoatPockets", "tape", "LCoatPockets$Tape;", true)
  | 4 => ("CoatPockets", "reader", "LCoatPockets$Reader;", true)
  | 5 => ("CoatPockets", "ways", "LCoatPockets$Ways;", true)
  | 6 => ("CoatPockets", "ledger", "LCoatPockets$Ledger;", true)
  | _ => ("CoatPockets", "sheets", "LCoatPockets$Sheets;", true)
def tyX8 : Nat → FieldType := fun k => match k with
  | 0 => .object "CoatPockets$State"
  | 1 => .object "CoatPockets$State"
  | 2 => .boolean
  | 3 => .object "CoatPockets$Tape"
  | 4 => .object "CoatPockets$Reader"
  | 5 => .object "CoatPockets$Ways"
  | 6 => .object "CoatPockets$Ledger"
  | _ => .object "CoatPockets$Sheets"
abbrev wsX80 : List Cond := u_ws RX8 TX8 8
theorem nmX8 : ∀ a, a < 8 → ∀ b, b < 8 → a ≠ b → (TX8 a).2.1 ≠ (TX8 b).2.1 := by decide +kernel
theorem tyX8_ok : ∀ k, k < 8 → parseFieldDescriptor (TX8 k).2.2.1 = some (tyX8 k) := by decide +kernel
abbrev cX8_init : ByteArray := prog_1_method_1_code
def yX8_init : MethodName := ⟨RX8, "<init>", "()V"⟩
abbrev cX8_coat : ByteArray := prog_1_method_2_code
def yX8_coat : MethodName := ⟨RX8, "coat", "(III)I"⟩
abbrev cX8_thing : ByteArray := prog_1_method_3_code
def yX8_thing : MethodName := ⟨RX8, "thing", "(II)I"⟩
abbrev cX8_where : ByteArray := prog_1_method_4_code
def yX8_where : MethodName := ⟨RX8, "where", "(I)I"⟩
abbrev cX8_told : ByteArray := prog_1_method_5_code
def yX8_told : MethodName := ⟨RX8, "told", "(II)I"⟩
abbrev cX8_of : ByteArray := prog_1_method_6_code
def yX8_of : MethodName := ⟨RX8, "of", "(II)I"⟩
abbrev cX8_hole : ByteArray := prog_1_method_7_code
def yX8_hole : MethodName := ⟨RX8, "hole", "(II)I"⟩
abbrev cX8_type : ByteArray := prog_1_method_8_code
def yX8_type : MethodName := ⟨RX8, "type", "(JI)I"⟩
abbrev cX8_school : ByteArray := prog_1_method_9_code
def yX8_school : MethodName := ⟨RX8, "school", "()I"⟩
abbrev cX8_day : ByteArray := prog_1_method_10_code
def yX8_day : MethodName := ⟨RX8, "day", "()I"⟩
abbrev cX8_count : ByteArray := prog_1_method_11_code
def yX8_count : MethodName := ⟨RX8, "count", "(I)I"⟩
abbrev cX8_put : ByteArray := prog_1_method_12_code
def yX8_put : MethodName := ⟨RX8, "put", "(II)I"⟩
abbrev cX8_take : ByteArray := prog_1_method_13_code
def yX8_take : MethodName := ⟨RX8, "take", "(II)I"⟩
abbrev cX8_search : ByteArray := prog_1_method_14_code
def yX8_search : MethodName := ⟨RX8, "search", "(I)I"⟩
abbrev cX8_give : ByteArray := prog_1_method_15_code
def yX8_give : MethodName := ⟨RX8, "give", "(II)I"⟩
abbrev cX8_bell : ByteArray := prog_1_method_16_code
def yX8_bell : MethodName := ⟨RX8, "bell", "()I"⟩
abbrev cX8_reach : ByteArray := prog_1_method_17_code
def yX8_reach : MethodName := ⟨RX8, "reach", "(III)I"⟩
abbrev cX8_soonest : ByteArray := prog_1_method_18_code
def yX8_soonest : MethodName := ⟨RX8, "soonest", "(IIII)I"⟩
abbrev cX8_dealt : ByteArray := prog_1_method_19_code
def yX8_dealt : MethodName := ⟨RX8, "dealt", "(IIII)I"⟩
abbrev cX8_wore : ByteArray := prog_1_method_20_code
def yX8_wore : MethodName := ⟨RX8, "wore", "(II)I"⟩
abbrev cX8_owe : ByteArray := prog_1_method_21_code
def yX8_owe : MethodName := ⟨RX8, "owe", "(III)I"⟩
abbrev cX8_balance : ByteArray := prog_1_method_22_code
def yX8_balance : MethodName := ⟨RX8, "balance", "(I)I"⟩
abbrev cX8_payments : ByteArray := prog_1_method_23_code
def yX8_payments : MethodName := ⟨RX8, "payments", "()I"⟩
abbrev cX8_seed : ByteArray := prog_1_method_24_code
def yX8_seed : MethodName := ⟨RX8, "seed", "(I)I"⟩
abbrev cX8_image : ByteArray := prog_1_method_25_code
def yX8_image : MethodName := ⟨RX8, "image", "()I"⟩
abbrev cX8_restore : ByteArray := prog_1_method_26_code
def yX8_restore : MethodName := ⟨RX8, "restore", "()I"⟩
abbrev cX8_owes : ByteArray := prog_1_method_27_code
def yX8_owes : MethodName := ⟨RX8, "owes", "(IIII)I"⟩
abbrev cX8_film : ByteArray := prog_1_method_28_code
def yX8_film : MethodName := ⟨RX8, "film", "(III)I"⟩
abbrev cX8_sheet : ByteArray := prog_1_method_29_code
def yX8_sheet : MethodName := ⟨RX8, "sheet", "(III)I"⟩
abbrev cX8_drop : ByteArray := prog_1_method_30_code
def yX8_drop : MethodName := ⟨RX8, "drop", "(I)I"⟩
abbrev cX8_item : ByteArray := prog_1_method_31_code
def yX8_item : MethodName := ⟨RX8, "item", "(IIII)I"⟩
abbrev cX8_copy : ByteArray := prog_1_method_32_code
def yX8_copy : MethodName := ⟨RX8, "copy", "(IIIII)I"⟩
abbrev cX8_within : ByteArray := prog_1_method_33_code
def yX8_within : MethodName := ⟨RX8, "within", "(II)Z"⟩
abbrev cX8_isBoys : ByteArray := prog_1_method_34_code
def yX8_isBoys : MethodName := ⟨RX8, "isBoys", "(I)Z"⟩
abbrev cX8_isPair : ByteArray := prog_1_method_35_code
def yX8_isPair : MethodName := ⟨RX8, "isPair", "(II)Z"⟩
abbrev cX8_isTurn : ByteArray := prog_1_method_36_code
def yX8_isTurn : MethodName := ⟨RX8, "isTurn", "(II)Z"⟩
abbrev cX8_isText : ByteArray := prog_1_method_37_code
def yX8_isText : MethodName := ⟨RX8, "isText", "(JI)Z"⟩
abbrev cX8_cut : ByteArray := prog_1_method_38_code
def yX8_cut : MethodName := ⟨RX8, "cut", "(II)I"⟩
def RX9 : String := "CoatPocketsModel"
def TX9 : u_T := fun k => match k with
  | 0 => ("CoatPocketsModel", "sizes", "[I", true)
  | 1 => ("CoatPocketsModel", "worn", "[I", true)
  | 2 => ("CoatPocketsModel", "holes", "[I", true)
  | 3 => ("CoatPocketsModel", "turns", "[I", true)
  | 4 => ("CoatPocketsModel", "coats", "I", false)
  | 5 => ("CoatPocketsModel", "kinds", "[I", true)
  | 6 => ("CoatPocketsModel", "places", "[I", true)
  | 7 => ("CoatPocketsModel", "reads", "[I", true)
  | 8 => ("CoatPocketsModel", "eaters", "[I", true)
  | 9 => ("CoatPocketsModel", "things", "I", false)
  | 10 => ("CoatPocketsModel", "debts", "[I", true)
  | 11 => ("CoatPocketsModel", "bells", "I", false)
  | 12 => ("CoatPocketsModel", "drawn", "I", false)
  | 13 => ("CoatPocketsModel", "tape", "[I", true)
  | 14 => ("CoatPocketsModel", "taped", "I", false)
  | 15 => ("CoatPocketsModel", "place", "I", false)
  | 16 => ("CoatPocketsModel", "many", "I", false)
  | 17 => ("CoatPocketsModel", "read", "[I", true)
  | 18 => ("CoatPocketsModel", "hands", "I", false)
  | 19 => ("CoatPocketsModel", "pockets", "I", false)
  | 20 => ("CoatPocketsModel", "via", "I", false)
  | 21 => ("CoatPocketsModel", "order", "[I", true)
  | 22 => ("CoatPocketsModel", "best", "[I", true)
  | 23 => ("CoatPocketsModel", "had", "[I", true)
  | 24 => ("CoatPocketsModel", "sums", "[I", true)
  | 25 => ("CoatPocketsModel", "parts", "[I", true)
  | 26 => ("CoatPocketsModel", "isKept", "Z", false)
  | 27 => ("CoatPocketsModel", "kept", "[I", true)
  | 28 => ("CoatPocketsModel", "lanes", "[I", true)
  | 29 => ("CoatPocketsModel", "rowSizes", "[I", true)
  | 30 => ("CoatPocketsModel", "items", "[I", true)
  | 31 => ("CoatPocketsModel", "then", "[I", true)
  | _ => ("CoatPocketsModel", "moved", "[I", true)
def tyX9 : Nat → FieldType := fun k => match k with
  | 0 => .array .int
  | 1 => .array .int
  | 2 => .array .int
  | 3 => .array .int
  | 4 => .int
  | 5 => .array .int
  | 6 => .array .int
  | 7 => .array .int
  | 8 => .array .int
  | 9 => .int
  | 10 => .array .int
  | 11 => .int
  | 12 => .int
  | 13 => .array .int
  | 14 => .int
  | 15 => .int
  | 16 => .int
  | 17 => .array .int
  | 18 => .int
  | 19 => .int
  | 20 => .int
  | 21 => .array .int
  | 22 => .array .int
  | 23 => .array .int
  | 24 => .array .int
  | 25 => .array .int
  | 26 => .boolean
  | 27 => .array .int
  | 28 => .array .int
  | 29 => .array .int
  | 30 => .array .int
  | 31 => .array .int
  | _ => .array .int
abbrev wsX90 : List Cond := u_ws RX9 TX9 33
theorem nmX9 : ∀ a, a < 33 → ∀ b, b < 33 → a ≠ b → (TX9 a).2.1 ≠ (TX9 b).2.1 := by decide +kernel
theorem tyX9_ok : ∀ k, k < 33 → parseFieldDescriptor (TX9 k).2.2.1 = some (tyX9 k) := by decide +kernel
abbrev cX9_init : ByteArray := prog_11_method_1_code
def yX9_init : MethodName := ⟨RX9, "<init>", "()V"⟩
abbrev cX9_in : ByteArray := prog_11_method_2_code
def yX9_in : MethodName := ⟨RX9, "in", "(JJJ)Z"⟩
abbrev cX9_has : ByteArray := prog_11_method_3_code
def yX9_has : MethodName := ⟨RX9, "has", "(II)Z"⟩
abbrev cX9_isBoy : ByteArray := prog_11_method_4_code
def yX9_isBoy : MethodName := ⟨RX9, "isBoy", "(I)Z"⟩
abbrev cX9_isCoat : ByteArray := prog_11_method_5_code
def yX9_isCoat : MethodName := ⟨RX9, "isCoat", "(I)Z"⟩
abbrev cX9_isThing : ByteArray := prog_11_method_6_code
def yX9_isThing : MethodName := ⟨RX9, "isThing", "(I)Z"⟩
abbrev cX9_wearer : ByteArray := prog_11_method_7_code
def yX9_wearer : MethodName := ⟨RX9, "wearer", "(II)I"⟩
abbrev cX9_coat : ByteArray := prog_11_method_8_code
def yX9_coat : MethodName := ⟨RX9, "coat", "(III)I"⟩
abbrev cX9_ones : ByteArray := prog_11_method_9_code
def yX9_ones : MethodName := ⟨RX9, "ones", "(I)I"⟩
abbrev cX9_thing : ByteArray := prog_11_method_10_code
def yX9_thing : MethodName := ⟨RX9, "thing", "(II)I"⟩
abbrev cX9_where : ByteArray := prog_11_method_11_code
def yX9_where : MethodName := ⟨RX9, "where", "(I)I"⟩
abbrev cX9_told : ByteArray := prog_11_method_12_code
def yX9_told : MethodName := ⟨RX9, "told", "(II)I"⟩
abbrev cX9_thingsAt : ByteArray := prog_11_method_13_code
def yX9_thingsAt : MethodName := ⟨RX9, "thingsAt", "(I)I"⟩
abbrev cX9_of : ByteArray := prog_11_method_14_code
def yX9_of : MethodName := ⟨RX9, "of", "(II)I"⟩
abbrev cX9_hole : ByteArray := prog_11_method_15_code
def yX9_hole : MethodName := ⟨RX9, "hole", "(II)I"⟩
abbrev cX9_count : ByteArray := prog_11_method_16_code
def yX9_count : MethodName := ⟨RX9, "count", "(I)I"⟩
abbrev cX9_type : ByteArray := prog_11_method_17_code
def yX9_type : MethodName := ⟨RX9, "type", "(JI)I"⟩
abbrev cX9_nextByte : ByteArray := prog_11_method_18_code
def yX9_nextByte : MethodName := ⟨RX9, "nextByte", "()I"⟩
abbrev cX9_readDigit : ByteArray := prog_11_method_19_code
def yX9_readDigit : MethodName := ⟨RX9, "readDigit", "(I)I"⟩
abbrev cX9_readCoat : ByteArray := prog_11_method_20_code
def yX9_readCoat : MethodName := ⟨RX9, "readCoat", "(I)Z"⟩
abbrev cX9_readSchool : ByteArray := prog_11_method_21_code
def yX9_readSchool : MethodName := ⟨RX9, "readSchool", "()Z"⟩
abbrev cX9_school : ByteArray := prog_11_method_22_code
def yX9_school : MethodName := ⟨RX9, "school", "()I"⟩
abbrev cX9_readAct : ByteArray := prog_11_method_23_code
def yX9_readAct : MethodName := ⟨RX9, "readAct", "(I)Z"⟩
abbrev cX9_readDay : ByteArray := prog_11_method_24_code
def yX9_readDay : MethodName := ⟨RX9, "readDay", "()Z"⟩
abbrev cX9_does : ByteArray := prog_11_method_25_code
def yX9_does : MethodName := ⟨RX9, "does", "(I)Z"⟩
abbrev cX9_day : ByteArray := prog_11_method_26_code
def yX9_day : MethodName := ⟨RX9, "day", "()I"⟩
abbrev cX9_come : ByteArray := prog_11_method_27_code
def yX9_come : MethodName := ⟨RX9, "come", "(II)V"⟩
abbrev cX9_put : ByteArray := prog_11_method_28_code
def yX9_put : MethodName := ⟨RX9, "put", "(II)I"⟩
abbrev cX9_take : ByteArray := prog_11_method_29_code
def yX9_take : MethodName := ⟨RX9, "take", "(II)I"⟩
abbrev cX9_search : ByteArray := prog_11_method_30_code
def yX9_search : MethodName := ⟨RX9, "search", "(I)I"⟩
abbrev cX9_wearsAny : ByteArray := prog_11_method_31_code
def yX9_wearsAny : MethodName := ⟨RX9, "wearsAny", "(I)Z"⟩
abbrev cX9_give : ByteArray := prog_11_method_32_code
def yX9_give : MethodName := ⟨RX9, "give", "(II)I"⟩
abbrev cX9_ring : ByteArray := prog_11_method_33_code
def yX9_ring : MethodName := ⟨RX9, "ring", "(II)Z"⟩
abbrev cX9_bell : ByteArray := prog_11_method_34_code
def yX9_bell : MethodName := ⟨RX9, "bell", "()I"⟩
abbrev cX9_close : ByteArray := prog_11_method_35_code
def yX9_close : MethodName := ⟨RX9, "close", "(II)V"⟩
abbrev cX9_closeAll : ByteArray := prog_11_method_36_code
def yX9_closeAll : MethodName := ⟨RX9, "closeAll", "(II)V"⟩
abbrev cX9_ringOn : ByteArray := prog_11_method_37_code
def yX9_ringOn : MethodName := ⟨RX9, "ringOn", "(II)V"⟩
abbrev cX9_begin : ByteArray := prog_11_method_38_code
def yX9_begin : MethodName := ⟨RX9, "begin", "(I)V"⟩
abbrev cX9_reach : ByteArray := prog_11_method_39_code
def yX9_reach : MethodName := ⟨RX9, "reach", "(III)I"⟩
abbrev cX9_findSoonest : ByteArray := prog_11_method_40_code
def yX9_findSoonest : MethodName := ⟨RX9, "findSoonest", "(III)I"⟩
abbrev cX9_soonest : ByteArray := prog_11_method_41_code
def yX9_soonest : MethodName := ⟨RX9, "soonest", "(IIII)I"⟩
abbrev cX9_nextOrder : ByteArray := prog_11_method_42_code
def yX9_nextOrder : MethodName := ⟨RX9, "nextOrder", "(I)Z"⟩
abbrev cX9_dealt : ByteArray := prog_11_method_43_code
def yX9_dealt : MethodName := ⟨RX9, "dealt", "(IIII)I"⟩
abbrev cX9_wore : ByteArray := prog_11_method_44_code
def yX9_wore : MethodName := ⟨RX9, "wore", "(II)I"⟩
abbrev cX9_areTwo : ByteArray := prog_11_method_45_code
def yX9_areTwo : MethodName := ⟨RX9, "areTwo", "(II)Z"⟩
abbrev cX9_owe : ByteArray := prog_11_method_46_code
def yX9_owe : MethodName := ⟨RX9, "owe", "(III)I"⟩
abbrev cX9_balanceOf : ByteArray := prog_11_method_47_code
def yX9_balanceOf : MethodName := ⟨RX9, "balanceOf", "(I)I"⟩
abbrev cX9_balance : ByteArray := prog_11_method_48_code
def yX9_balance : MethodName := ⟨RX9, "balance", "(I)I"⟩
abbrev cX9_payments : ByteArray := prog_11_method_49_code
def yX9_payments : MethodName := ⟨RX9, "payments", "()I"⟩
abbrev cX9_seed : ByteArray := prog_11_method_50_code
def yX9_seed : MethodName := ⟨RX9, "seed", "(I)I"⟩
abbrev cX9_carried : ByteArray := prog_11_method_51_code
def yX9_carried : MethodName := ⟨RX9, "carried", "(IIZ)I"⟩
abbrev cX9_image : ByteArray := prog_11_method_52_code
def yX9_image : MethodName := ⟨RX9, "image", "()I"⟩
abbrev cX9_restore : ByteArray := prog_11_method_53_code
def yX9_restore : MethodName := ⟨RX9, "restore", "()I"⟩
abbrev cX9_isSheet : ByteArray := prog_11_method_54_code
def yX9_isSheet : MethodName := ⟨RX9, "isSheet", "(II)Z"⟩
abbrev cX9_sheet : ByteArray := prog_11_method_55_code
def yX9_sheet : MethodName := ⟨RX9, "sheet", "(III)I"⟩
abbrev cX9_drop : ByteArray := prog_11_method_56_code
def yX9_drop : MethodName := ⟨RX9, "drop", "(I)I"⟩
abbrev cX9_lacksRow : ByteArray := prog_11_method_57_code
def yX9_lacksRow : MethodName := ⟨RX9, "lacksRow", "(IIII)I"⟩
abbrev cX9_item : ByteArray := prog_11_method_58_code
def yX9_item : MethodName := ⟨RX9, "item", "(IIII)I"⟩
abbrev cX9_owes : ByteArray := prog_11_method_59_code
def yX9_owes : MethodName := ⟨RX9, "owes", "(IIII)I"⟩
abbrev cX9_film : ByteArray := prog_11_method_60_code
def yX9_film : MethodName := ⟨RX9, "film", "(III)I"⟩
abbrev cX9_copy : ByteArray := prog_11_method_61_code
def yX9_copy : MethodName := ⟨RX9, "copy", "(IIIII)I"⟩
def RJ6 : String := "java/lang/Integer"
def TJ6 : u_T := fun k => match k with
  | _ => ("", "", "", false)
def tyJ6 : Nat → FieldType := fun k => match k with
  | _ => .int
abbrev wsJ60 : List Cond := u_ws RJ6 TJ6 0
theorem nmJ6 : ∀ a, a < 0 → ∀ b, b < 0 → a ≠ b → (TJ6 a).2.1 ≠ (TJ6 b).2.1 := by decide +kernel
theorem tyJ6_ok : ∀ k, k < 0 → parseFieldDescriptor (TJ6 k).2.2.1 = some (tyJ6 k) := by decide +kernel
abbrev cJ6_bitCount_0f7a4 : ByteArray := prog_12_method_49_code
def yJ6_bitCount_0f7a4 : MethodName := ⟨RJ6, "bitCount", "(I)I"⟩
def RJ9 : String := "java/lang/Math"
def TJ9 : u_T := fun k => match k with
  | _ => ("", "", "", false)
def tyJ9 : Nat → FieldType := fun k => match k with
  | _ => .int
abbrev wsJ90 : List Cond := u_ws RJ9 TJ9 0
theorem nmJ9 : ∀ a, a < 0 → ∀ b, b < 0 → a ≠ b → (TJ9 a).2.1 ≠ (TJ9 b).2.1 := by decide +kernel
theorem tyJ9_ok : ∀ k, k < 0 → parseFieldDescriptor (TJ9 k).2.2.1 = some (tyJ9 k) := by decide +kernel
abbrev cJ9_max_7cf53 : ByteArray := prog_13_method_65_code
def yJ9_max_7cf53 : MethodName := ⟨RJ9, "max", "(II)I"⟩
def RJ10 : String := "java/lang/System"
def TJ10 : u_T := fun k => match k with
  | _ => ("", "", "", false)
def tyJ10 : Nat → FieldType := fun k => match k with
  | _ => .int
abbrev wsJ100 : List Cond := u_ws RJ10 TJ10 0
theorem nmJ10 : ∀ a, a < 0 → ∀ b, b < 0 → a ≠ b → (TJ10 a).2.1 ≠ (TJ10 b).2.1 := by decide +kernel
theorem tyJ10_ok : ∀ k, k < 0 → parseFieldDescriptor (TJ10 k).2.2.1 = some (tyJ10 k) := by decide +kernel
def RL : String := "CoatPocketsLaw"
abbrev cL_law : ByteArray := code
def yL_law : MethodName := ⟨RL, "law", "([I)Z"⟩
abbrev vwCl : List vw_C := [(RX0, TX0, 5), (RX1, TX1, 4), (RX2, TX2, 4), (RX3, TX3, 4), (RX4, TX4, 5), (RX5, TX5, 3), (RX6, TX6, 5), (RX7, TX7, 6), (RX8, TX8, 8), (RX9, TX9, 33)]
/-- the words that stay, out of all that the tables give -/
def TBL : List Cond := lw_tbl.filter goodWord
theorem tb_in (i : Nat) {w : Cond} (h : lw_tbl[i]? = some w) (hg : goodWord w = true) : w ∈ TBL := List.mem_filter.mpr ⟨List.mem_of_getElem? h, hg⟩
theorem tb_sub : ∀ w ∈ TBL, w ∈ lw_tbl := fun _ h => (List.mem_filter.mp h).1
theorem tb_good : GoodIn TBL TBL := fun _ h => ⟨h, good_of_word (List.mem_filter.mp h).2⟩
theorem tb_list {ws : List Cond} (ps : List Nat) (hp : ws = ps.filterMap (fun i => lw_tbl[i]?)) (hg : ws.all goodWord = true) : ∀ w ∈ ws, w ∈ TBL := by
  intro w hw
  have h1 := List.all_eq_true.mp hg w hw
  rw [hp] at hw
  obtain ⟨i, -, hi⟩ := List.mem_filterMap.mp hw
  exact tb_in i hi h1
theorem tbX0 : ∀ w ∈ wsX00, w ∈ TBL := tb_list [85, 87, 89, 91, 93] (by decide +kernel) (by decide +kernel)
theorem tbX1 : ∀ w ∈ wsX10, w ∈ TBL := tb_list [231, 233, 235, 237] (by decide +kernel) (by decide +kernel)
theorem tbX2 : ∀ w ∈ wsX20, w ∈ TBL := tb_list [184, 186, 188, 190] (by decide +kernel) (by decide +kernel)
theorem tbX3 : ∀ w ∈ wsX30, w ∈ TBL := tb_list [254, 256, 258, 260] (by decide +kernel) (by decide +kernel)
theorem tbX4 : ∀ w ∈ wsX40, w ∈ TBL := tb_list [142, 144, 146, 148, 150] (by decide +kernel) (by decide +kernel)
theorem tbX5 : ∀ w ∈ wsX50, w ∈ TBL := tb_list [164, 166, 168] (by decide +kernel) (by decide +kernel)
theorem tbX6 : ∀ w ∈ wsX60, w ∈ TBL := tb_list [118, 120, 122, 124, 126] (by decide +kernel) (by decide +kernel)
theorem tbX7 : ∀ w ∈ wsX70, w ∈ TBL := tb_list [208, 210, 212, 214, 216, 218] (by decide +kernel) (by decide +kernel)
theorem tbX8 : ∀ w ∈ wsX80, w ∈ TBL := tb_list [272, 274, 276, 278, 280, 282, 284, 286] (by decide +kernel) (by decide +kernel)
theorem tbX9 : ∀ w ∈ wsX90, w ∈ TBL := tb_list [748, 750, 752, 754, 756, 758, 760, 762, 764, 766, 768, 770, 772, 774, 776, 778, 780, 782, 784, 786, 788, 790, 792, 794, 796, 798, 800, 802, 804, 806, 808, 810, 812] (by decide +kernel) (by decide +kernel)
