/-- a private method of a class that the tables say can be made, by its rows of tables_1 -/
def lw_okq (q : MethodName × Nat) : Prop := (q.1.cls ≠ "java/lang/invoke/MethodHandle" ∧ q.1.cls ≠ "java/lang/invoke/VarHandle") ∧ Cond.instantiable q.1.cls q.2 ∈ tables_1 ∧ Cond.privateMethod q.1 ∈ tables_1 ∧ Cond.instanceMethod q.1 ∈ tables_1
theorem lw_p0 : lw_okq (⟨"KiteWords", "record", "()V"⟩, 10) := ⟨⟨by decide +kernel, by decide +kernel⟩, List.mem_of_getElem? (i := 13) (by decide +kernel), List.mem_of_getElem? (i := 276) (by decide +kernel), List.mem_of_getElem? (i := 277) (by decide +kernel)⟩
theorem lw_p1 : lw_okq (⟨"KiteWords", "dropOldest", "()V"⟩, 10) := ⟨⟨by decide +kernel, by decide +kernel⟩, List.mem_of_getElem? (i := 13) (by decide +kernel), List.mem_of_getElem? (i := 280) (by decide +kernel), List.mem_of_getElem? (i := 281) (by decide +kernel)⟩
theorem lw_p2 : lw_okq (⟨"KiteWords", "rowFault", "()I"⟩, 10) := ⟨⟨by decide +kernel, by decide +kernel⟩, List.mem_of_getElem? (i := 13) (by decide +kernel), List.mem_of_getElem? (i := 318) (by decide +kernel), List.mem_of_getElem? (i := 319) (by decide +kernel)⟩
theorem lw_p3 : lw_okq (⟨"KiteWords$Row", "swapEntries", "(I)V"⟩, 8) := ⟨⟨by decide +kernel, by decide +kernel⟩, List.mem_of_getElem? (i := 27) (by decide +kernel), List.mem_of_getElem? (i := 344) (by decide +kernel), List.mem_of_getElem? (i := 345) (by decide +kernel)⟩
theorem lw_p4 : lw_okq (⟨"KiteWords$State", "tangleAt", "(IZ)V"⟩, 10) := ⟨⟨by decide +kernel, by decide +kernel⟩, List.mem_of_getElem? (i := 21) (by decide +kernel), List.mem_of_getElem? (i := 396) (by decide +kernel), List.mem_of_getElem? (i := 397) (by decide +kernel)⟩
theorem lw_p5 : lw_okq (⟨"KiteWords$Plan", "move", "(II)V"⟩, 4) := ⟨⟨by decide +kernel, by decide +kernel⟩, List.mem_of_getElem? (i := 71) (by decide +kernel), List.mem_of_getElem? (i := 430) (by decide +kernel), List.mem_of_getElem? (i := 431) (by decide +kernel)⟩
theorem lw_p6 : lw_okq (⟨"KiteWords", "readableKites", "()I"⟩, 10) := ⟨⟨by decide +kernel, by decide +kernel⟩, List.mem_of_getElem? (i := 13) (by decide +kernel), List.mem_of_getElem? (i := 472) (by decide +kernel), List.mem_of_getElem? (i := 473) (by decide +kernel)⟩
theorem lw_p7 : lw_okq (⟨"KiteWords$Reading", "insert", "(LKiteWords$State;II)V"⟩, 2) := ⟨⟨by decide +kernel, by decide +kernel⟩, List.mem_of_getElem? (i := 193) (by decide +kernel), List.mem_of_getElem? (i := 485) (by decide +kernel), List.mem_of_getElem? (i := 486) (by decide +kernel)⟩
theorem lw_p8 : lw_okq (⟨"KiteWords", "wordFault", "()I"⟩, 10) := ⟨⟨by decide +kernel, by decide +kernel⟩, List.mem_of_getElem? (i := 13) (by decide +kernel), List.mem_of_getElem? (i := 498) (by decide +kernel), List.mem_of_getElem? (i := 499) (by decide +kernel)⟩
theorem lw_p9 : lw_okq (⟨"KiteWords$Aim", "findTargets", "(LKiteWords$Row;LKiteWords$Word;)Z"⟩, 4) := ⟨⟨by decide +kernel, by decide +kernel⟩, List.mem_of_getElem? (i := 208) (by decide +kernel), List.mem_of_getElem? (i := 554) (by decide +kernel), List.mem_of_getElem? (i := 555) (by decide +kernel)⟩
theorem lw_p10 : lw_okq (⟨"KiteWords$Aim", "countWrongPairs", "(I)I"⟩, 4) := ⟨⟨by decide +kernel, by decide +kernel⟩, List.mem_of_getElem? (i := 208) (by decide +kernel), List.mem_of_getElem? (i := 561) (by decide +kernel), List.mem_of_getElem? (i := 562) (by decide +kernel)⟩
theorem lw_p11 : lw_okq (⟨"KiteWords$Aim", "isWrongPair", "(II)Z"⟩, 4) := ⟨⟨by decide +kernel, by decide +kernel⟩, List.mem_of_getElem? (i := 208) (by decide +kernel), List.mem_of_getElem? (i := 565) (by decide +kernel), List.mem_of_getElem? (i := 566) (by decide +kernel)⟩
theorem lw_p12 : lw_okq (⟨"KiteWords", "nextPlace", "(LKiteWords$State;)I"⟩, 10) := ⟨⟨by decide +kernel, by decide +kernel⟩, List.mem_of_getElem? (i := 13) (by decide +kernel), List.mem_of_getElem? (i := 582) (by decide +kernel), List.mem_of_getElem? (i := 583) (by decide +kernel)⟩
theorem lw_p13 : lw_okq (⟨"KiteWords", "isSpelled", "(LKiteWords$State;)Z"⟩, 10) := ⟨⟨by decide +kernel, by decide +kernel⟩, List.mem_of_getElem? (i := 13) (by decide +kernel), List.mem_of_getElem? (i := 590) (by decide +kernel), List.mem_of_getElem? (i := 591) (by decide +kernel)⟩
theorem lw_p14 : lw_okq (⟨"KiteWords", "fewestTrades", "()I"⟩, 10) := ⟨⟨by decide +kernel, by decide +kernel⟩, List.mem_of_getElem? (i := 13) (by decide +kernel), List.mem_of_getElem? (i := 611) (by decide +kernel), List.mem_of_getElem? (i := 612) (by decide +kernel)⟩
theorem lw_p15 : lw_okq (⟨"KiteWordsModel", "isRoom", "(I)Z"⟩, 12) := ⟨⟨by decide +kernel, by decide +kernel⟩, List.mem_of_getElem? (i := 615) (by decide +kernel), List.mem_of_getElem? (i := 667) (by decide +kernel), List.mem_of_getElem? (i := 668) (by decide +kernel)⟩
def lw_privs_1 : List (MethodName × Nat) := [(⟨"KiteWords", "record", "()V"⟩, 10), (⟨"KiteWords", "dropOldest", "()V"⟩, 10), (⟨"KiteWords", "rowFault", "()I"⟩, 10), (⟨"KiteWords$Row", "swapEntries", "(I)V"⟩, 8), (⟨"KiteWords$State", "tangleAt", "(IZ)V"⟩, 10), (⟨"KiteWords$Plan", "move", "(II)V"⟩, 4), (⟨"KiteWords", "readableKites", "()I"⟩, 10), (⟨"KiteWords$Reading", "insert", "(LKiteWords$State;II)V"⟩, 2), (⟨"KiteWords", "wordFault", "()I"⟩, 10), (⟨"KiteWords$Aim", "findTargets", "(LKiteWords$Row;LKiteWords$Word;)Z"⟩, 4), (⟨"KiteWords$Aim", "countWrongPairs", "(I)I"⟩, 4), (⟨"KiteWords$Aim", "isWrongPair", "(II)Z"⟩, 4), (⟨"KiteWords", "nextPlace", "(LKiteWords$State;)I"⟩, 10), (⟨"KiteWords", "isSpelled", "(LKiteWords$State;)Z"⟩, 10), (⟨"KiteWords", "fewestTrades", "()I"⟩, 10), (⟨"KiteWordsModel", "isRoom", "(I)Z"⟩, 12)]
theorem lw_r1 : ∀ q ∈ lw_privs_1, lw_okq q := List.forall_mem_cons.mpr ⟨lw_p0, List.forall_mem_cons.mpr ⟨lw_p1, List.forall_mem_cons.mpr ⟨lw_p2, List.forall_mem_cons.mpr ⟨lw_p3, List.forall_mem_cons.mpr ⟨lw_p4, List.forall_mem_cons.mpr ⟨lw_p5, List.forall_mem_cons.mpr ⟨lw_p6, List.forall_mem_cons.mpr ⟨lw_p7, List.forall_mem_cons.mpr ⟨lw_p8, List.forall_mem_cons.mpr ⟨lw_p9, List.forall_mem_cons.mpr ⟨lw_p10, List.forall_mem_cons.mpr ⟨lw_p11, List.forall_mem_cons.mpr ⟨lw_p12, List.forall_mem_cons.mpr ⟨lw_p13, List.forall_mem_cons.mpr ⟨lw_p14, List.forall_mem_cons.mpr ⟨lw_p15, fun _ h => absurd h List.not_mem_nil⟩⟩⟩⟩⟩⟩⟩⟩⟩⟩⟩⟩⟩⟩⟩⟩
theorem lw_p16 : lw_okq (⟨"KiteWordsModel", "records", "()V"⟩, 12) := ⟨⟨by decide +kernel, by decide +kernel⟩, List.mem_of_getElem? (i := 615) (by decide +kernel), List.mem_of_getElem? (i := 672) (by decide +kernel), List.mem_of_getElem? (i := 673) (by decide +kernel)⟩
theorem lw_p17 : lw_okq (⟨"KiteWordsModel", "comes", "(II)V"⟩, 12) := ⟨⟨by decide +kernel, by decide +kernel⟩, List.mem_of_getElem? (i := 615) (by decide +kernel), List.mem_of_getElem? (i := 679) (by decide +kernel), List.mem_of_getElem? (i := 680) (by decide +kernel)⟩
theorem lw_p18 : lw_okq (⟨"KiteWordsModel", "rowFault", "()I"⟩, 12) := ⟨⟨by decide +kernel, by decide +kernel⟩, List.mem_of_getElem? (i := 615) (by decide +kernel), List.mem_of_getElem? (i := 690) (by decide +kernel), List.mem_of_getElem? (i := 691) (by decide +kernel)⟩
theorem lw_p19 : lw_okq (⟨"KiteWordsModel", "isPlace", "(I)Z"⟩, 12) := ⟨⟨by decide +kernel, by decide +kernel⟩, List.mem_of_getElem? (i := 615) (by decide +kernel), List.mem_of_getElem? (i := 700) (by decide +kernel), List.mem_of_getElem? (i := 701) (by decide +kernel)⟩
theorem lw_p20 : lw_okq (⟨"KiteWordsModel", "trades", "([II)Z"⟩, 12) := ⟨⟨by decide +kernel, by decide +kernel⟩, List.mem_of_getElem? (i := 615) (by decide +kernel), List.mem_of_getElem? (i := 720) (by decide +kernel), List.mem_of_getElem? (i := 721) (by decide +kernel)⟩
theorem lw_p21 : lw_okq (⟨"KiteWordsModel", "minute", "([I)I"⟩, 12) := ⟨⟨by decide +kernel, by decide +kernel⟩, List.mem_of_getElem? (i := 615) (by decide +kernel), List.mem_of_getElem? (i := 739) (by decide +kernel), List.mem_of_getElem? (i := 740) (by decide +kernel)⟩
theorem lw_p22 : lw_okq (⟨"KiteWordsModel", "blows", "([III)I"⟩, 12) := ⟨⟨by decide +kernel, by decide +kernel⟩, List.mem_of_getElem? (i := 615) (by decide +kernel), List.mem_of_getElem? (i := 746) (by decide +kernel), List.mem_of_getElem? (i := 747) (by decide +kernel)⟩
theorem lw_p23 : lw_okq (⟨"KiteWordsModel", "turnAt", "(I)I"⟩, 12) := ⟨⟨by decide +kernel, by decide +kernel⟩, List.mem_of_getElem? (i := 615) (by decide +kernel), List.mem_of_getElem? (i := 771) (by decide +kernel), List.mem_of_getElem? (i := 772) (by decide +kernel)⟩
theorem lw_p24 : lw_okq (⟨"KiteWordsModel", "wordFault", "()I"⟩, 12) := ⟨⟨by decide +kernel, by decide +kernel⟩, List.mem_of_getElem? (i := 615) (by decide +kernel), List.mem_of_getElem? (i := 797) (by decide +kernel), List.mem_of_getElem? (i := 798) (by decide +kernel)⟩
theorem lw_p25 : lw_okq (⟨"KiteWordsModel", "isWord", "()Z"⟩, 12) := ⟨⟨by decide +kernel, by decide +kernel⟩, List.mem_of_getElem? (i := 615) (by decide +kernel), List.mem_of_getElem? (i := 801) (by decide +kernel), List.mem_of_getElem? (i := 802) (by decide +kernel)⟩
theorem lw_p26 : lw_okq (⟨"KiteWordsModel", "partner", "(I)I"⟩, 12) := ⟨⟨by decide +kernel, by decide +kernel⟩, List.mem_of_getElem? (i := 615) (by decide +kernel), List.mem_of_getElem? (i := 829) (by decide +kernel), List.mem_of_getElem? (i := 830) (by decide +kernel)⟩
theorem lw_p27 : lw_okq (⟨"KiteWordsModel", "fewest", "([I)I"⟩, 12) := ⟨⟨by decide +kernel, by decide +kernel⟩, List.mem_of_getElem? (i := 615) (by decide +kernel), List.mem_of_getElem? (i := 847) (by decide +kernel), List.mem_of_getElem? (i := 848) (by decide +kernel)⟩
theorem lw_p28 : lw_okq (⟨"KiteWordsModel", "laysGoal", "([I)Z"⟩, 12) := ⟨⟨by decide +kernel, by decide +kernel⟩, List.mem_of_getElem? (i := 615) (by decide +kernel), List.mem_of_getElem? (i := 851) (by decide +kernel), List.mem_of_getElem? (i := 852) (by decide +kernel)⟩
theorem lw_p29 : lw_okq (⟨"KiteWordsModel", "behind", "([II)I"⟩, 12) := ⟨⟨by decide +kernel, by decide +kernel⟩, List.mem_of_getElem? (i := 615) (by decide +kernel), List.mem_of_getElem? (i := 858) (by decide +kernel), List.mem_of_getElem? (i := 859) (by decide +kernel)⟩
theorem lw_p30 : lw_okq (⟨"KiteWordsModel", "next", "([I)I"⟩, 12) := ⟨⟨by decide +kernel, by decide +kernel⟩, List.mem_of_getElem? (i := 615) (by decide +kernel), List.mem_of_getElem? (i := 866) (by decide +kernel), List.mem_of_getElem? (i := 867) (by decide +kernel)⟩
def lw_privs_2 : List (MethodName × Nat) := [(⟨"KiteWordsModel", "records", "()V"⟩, 12), (⟨"KiteWordsModel", "comes", "(II)V"⟩, 12), (⟨"KiteWordsModel", "rowFault", "()I"⟩, 12), (⟨"KiteWordsModel", "isPlace", "(I)Z"⟩, 12), (⟨"KiteWordsModel", "trades", "([II)Z"⟩, 12), (⟨"KiteWordsModel", "minute", "([I)I"⟩, 12), (⟨"KiteWordsModel", "blows", "([III)I"⟩, 12), (⟨"KiteWordsModel", "turnAt", "(I)I"⟩, 12), (⟨"KiteWordsModel", "wordFault", "()I"⟩, 12), (⟨"KiteWordsModel", "isWord", "()Z"⟩, 12), (⟨"KiteWordsModel", "partner", "(I)I"⟩, 12), (⟨"KiteWordsModel", "fewest", "([I)I"⟩, 12), (⟨"KiteWordsModel", "laysGoal", "([I)Z"⟩, 12), (⟨"KiteWordsModel", "behind", "([II)I"⟩, 12), (⟨"KiteWordsModel", "next", "([I)I"⟩, 12)]
theorem lw_r2 : ∀ q ∈ lw_privs_2, lw_okq q := List.forall_mem_cons.mpr ⟨lw_p16, List.forall_mem_cons.mpr ⟨lw_p17, List.forall_mem_cons.mpr ⟨lw_p18, List.forall_mem_cons.mpr ⟨lw_p19, List.forall_mem_cons.mpr ⟨lw_p20, List.forall_mem_cons.mpr ⟨lw_p21, List.forall_mem_cons.mpr ⟨lw_p22, List.forall_mem_cons.mpr ⟨lw_p23, List.forall_mem_cons.mpr ⟨lw_p24, List.forall_mem_cons.mpr ⟨lw_p25, List.forall_mem_cons.mpr ⟨lw_p26, List.forall_mem_cons.mpr ⟨lw_p27, List.forall_mem_cons.mpr ⟨lw_p28, List.forall_mem_cons.mpr ⟨lw_p29, List.forall_mem_cons.mpr ⟨lw_p30, fun _ h => absurd h List.not_mem_nil⟩⟩⟩⟩⟩⟩⟩⟩⟩⟩⟩⟩⟩⟩⟩
def lw_privs : List (MethodName × Nat) := lw_privs_1 ++ (lw_privs_2)
def lw_tbl : List Cond := k2_sels lw_privs ++ tables_1
theorem lw_privs_ok : ∀ q ∈ lw_privs, lw_okq q := by
  show ∀ q ∈ lw_privs_1 ++ (lw_privs_2), lw_okq q
  exact List.forall_mem_append.mpr ⟨lw_r1, lw_r2⟩

def RX0 : String := "KiteWords$Aim"
def TX0 : u_T := fun k => match k with
  | 0 => ("KiteWords$Aim", "target", "[I", true)
  | 1 => ("KiteWords$Aim", "inNorth", "Z", false)
  | 2 => ("KiteWords$Aim", "isPossible", "Z", false)
  | _ => ("KiteWords$Aim", "fewest", "I", false)
def tyX0 : Nat → FieldType := fun k => match k with
  | 0 => .array .int
  | 1 => .boolean
  | 2 => .boolean
  | _ => .int
abbrev wsX00 : List Cond := u_ws RX0 TX0 4
theorem nmX0 : ∀ a, a < 4 → ∀ b, b < 4 → a ≠ b → (TX0 a).2.1 ≠ (TX0 b).2.1 := by decide +kernel
theorem tyX0_ok : ∀ k, k < 4 → parseFieldDescriptor (TX0 k).2.2.1 = some (tyX0 k) := by decide +kernel
abbrev cX0_init : ByteArray := prog_2_method_1_code
def yX0_init : MethodName := ⟨RX0, "<init>", "()V"⟩
abbrev cX0_match : ByteArray := prog_2_method_2_code
def yX0_match : MethodName := ⟨RX0, "match", "(LKiteWords$State;)V"⟩
abbrev cX0_findTargets : ByteArray := prog_2_method_3_code
def yX0_findTargets : MethodName := ⟨RX0, "findTargets", "(LKiteWords$Row;LKiteWords$Word;)Z"⟩
abbrev cX0_firstFree : ByteArray := prog_2_method_4_code
def yX0_firstFree : MethodName := ⟨RX0, "firstFree", "(LKiteWords$Word;II)I"⟩
abbrev cX0_countWrongPairs : ByteArray := prog_2_method_5_code
def yX0_countWrongPairs : MethodName := ⟨RX0, "countWrongPairs", "(I)I"⟩
abbrev cX0_isWrongPair : ByteArray := prog_2_method_6_code
def yX0_isWrongPair : MethodName := ⟨RX0, "isWrongPair", "(II)Z"⟩
abbrev cX0_isGood : ByteArray := prog_2_method_7_code
def yX0_isGood : MethodName := ⟨RX0, "isGood", "(I)Z"⟩
abbrev cX0_fewestBehind : ByteArray := prog_2_method_8_code
def yX0_fewestBehind : MethodName := ⟨RX0, "fewestBehind", "(LKiteWords$Row;I)I"⟩
def RX1 : String := "KiteWords$Plan"
def TX1 : u_T := fun k => match k with
  | 0 => ("KiteWords$Plan", "minute", "[I", true)
  | 1 => ("KiteWords$Plan", "side", "[I", true)
  | 2 => ("KiteWords$Plan", "strength", "[I", true)
  | _ => ("KiteWords$Plan", "size", "I", false)
def tyX1 : Nat → FieldType := fun k => match k with
  | 0 => .array .int
  | 1 => .array .int
  | 2 => .array .int
  | _ => .int
abbrev wsX10 : List Cond := u_ws RX1 TX1 4
theorem nmX1 : ∀ a, a < 4 → ∀ b, b < 4 → a ≠ b → (TX1 a).2.1 ≠ (TX1 b).2.1 := by decide +kernel
theorem tyX1_ok : ∀ k, k < 4 → parseFieldDescriptor (TX1 k).2.2.1 = some (tyX1 k) := by decide +kernel
abbrev cX1_init : ByteArray := prog_3_method_1_code
def yX1_init : MethodName := ⟨RX1, "<init>", "()V"⟩
abbrev cX1_copyFrom : ByteArray := prog_3_method_2_code
def yX1_copyFrom : MethodName := ⟨RX1, "copyFrom", "(LKiteWords$Plan;)V"⟩
abbrev cX1_rankOf : ByteArray := prog_3_method_3_code
def yX1_rankOf : MethodName := ⟨RX1, "rankOf", "(I)I"⟩
abbrev cX1_insert : ByteArray := prog_3_method_4_code
def yX1_insert : MethodName := ⟨RX1, "insert", "(III)V"⟩
abbrev cX1_remove : ByteArray := prog_3_method_5_code
def yX1_remove : MethodName := ⟨RX1, "remove", "(I)V"⟩
abbrev cX1_move : ByteArray := prog_3_method_6_code
def yX1_move : MethodName := ⟨RX1, "move", "(II)V"⟩
def RX2 : String := "KiteWords$Reading"
def TX2 : u_T := fun k => match k with
  | 0 => ("KiteWords$Reading", "places", "[I", true)
  | _ => ("KiteWords$Reading", "size", "I", false)
def tyX2 : Nat → FieldType := fun k => match k with
  | 0 => .array .int
  | _ => .int
abbrev wsX20 : List Cond := u_ws RX2 TX2 2
theorem nmX2 : ∀ a, a < 2 → ∀ b, b < 2 → a ≠ b → (TX2 a).2.1 ≠ (TX2 b).2.1 := by decide +kernel
theorem tyX2_ok : ∀ k, k < 2 → parseFieldDescriptor (TX2 k).2.2.1 = some (tyX2 k) := by decide +kernel
abbrev cX2_init : ByteArray := prog_4_method_1_code
def yX2_init : MethodName := ⟨RX2, "<init>", "()V"⟩
abbrev cX2_look : ByteArray := prog_4_method_2_code
def yX2_look : MethodName := ⟨RX2, "look", "(LKiteWords$State;)V"⟩
abbrev cX2_insert : ByteArray := prog_4_method_3_code
def yX2_insert : MethodName := ⟨RX2, "insert", "(LKiteWords$State;II)V"⟩
def RX3 : String := "KiteWords$Row"
def TX3 : u_T := fun k => match k with
  | 0 => ("KiteWords$Row", "number", "[I", true)
  | 1 => ("KiteWords$Row", "letter", "[I", true)
  | 2 => ("KiteWords$Row", "length", "[I", true)
  | 3 => ("KiteWords$Row", "mate", "[I", true)
  | 4 => ("KiteWords$Row", "minutesLeft", "[I", true)
  | 5 => ("KiteWords$Row", "trades", "[I", true)
  | 6 => ("KiteWords$Row", "size", "I", false)
  | _ => ("KiteWords$Row", "everCame", "I", false)
def tyX3 : Nat → FieldType := fun k => match k with
  | 0 => .array .int
  | 1 => .array .int
  | 2 => .array .int
  | 3 => .array .int
  | 4 => .array .int
  | 5 => .array .int
  | 6 => .int
  | _ => .int
abbrev wsX30 : List Cond := u_ws RX3 TX3 8
theorem nmX3 : ∀ a, a < 8 → ∀ b, b < 8 → a ≠ b → (TX3 a).2.1 ≠ (TX3 b).2.1 := by decide +kernel
theorem tyX3_ok : ∀ k, k < 8 → parseFieldDescriptor (TX3 k).2.2.1 = some (tyX3 k) := by decide +kernel
abbrev cX3_init : ByteArray := prog_5_method_1_code
def yX3_init : MethodName := ⟨RX3, "<init>", "()V"⟩
abbrev cX3_copyFrom : ByteArray := prog_5_method_2_code
def yX3_copyFrom : MethodName := ⟨RX3, "copyFrom", "(LKiteWords$Row;)V"⟩
abbrev cX3_hasPlace : ByteArray := prog_5_method_3_code
def yX3_hasPlace : MethodName := ⟨RX3, "hasPlace", "(I)Z"⟩
abbrev cX3_hasPairAt : ByteArray := prog_5_method_4_code
def yX3_hasPairAt : MethodName := ⟨RX3, "hasPairAt", "(I)Z"⟩
abbrev cX3_hasRoomFor : ByteArray := prog_5_method_5_code
def yX3_hasRoomFor : MethodName := ⟨RX3, "hasRoomFor", "(I)Z"⟩
abbrev cX3_append : ByteArray := prog_5_method_6_code
def yX3_append : MethodName := ⟨RX3, "append", "(CI)V"⟩
abbrev cX3_remove : ByteArray := prog_5_method_7_code
def yX3_remove : MethodName := ⟨RX3, "remove", "(I)V"⟩
abbrev cX3_swap : ByteArray := prog_5_method_8_code
def yX3_swap : MethodName := ⟨RX3, "swap", "(I)V"⟩
abbrev cX3_swapEntries : ByteArray := prog_5_method_9_code
def yX3_swapEntries : MethodName := ⟨RX3, "swapEntries", "(I)V"⟩
abbrev cX3_swapWithNext : ByteArray := prog_5_method_10_code
def yX3_swapWithNext : MethodName := ⟨RX3, "swapWithNext", "([II)V"⟩
abbrev cX3_isTangled : ByteArray := prog_5_method_11_code
def yX3_isTangled : MethodName := ⟨RX3, "isTangled", "(I)Z"⟩
abbrev cX3_isPairFree : ByteArray := prog_5_method_12_code
def yX3_isPairFree : MethodName := ⟨RX3, "isPairFree", "(I)Z"⟩
abbrev cX3_tie : ByteArray := prog_5_method_13_code
def yX3_tie : MethodName := ⟨RX3, "tie", "(II)V"⟩
abbrev cX3_loosen : ByteArray := prog_5_method_14_code
def yX3_loosen : MethodName := ⟨RX3, "loosen", "()V"⟩
abbrev cX3_shownAt : ByteArray := prog_5_method_15_code
def yX3_shownAt : MethodName := ⟨RX3, "shownAt", "(II)I"⟩
abbrev cX3_sideAt : ByteArray := prog_5_method_16_code
def yX3_sideAt : MethodName := ⟨RX3, "sideAt", "(II)I"⟩
abbrev cX3_wouldTangle : ByteArray := prog_5_method_17_code
def yX3_wouldTangle : MethodName := ⟨RX3, "wouldTangle", "(II)Z"⟩
abbrev cX3_canBeRead : ByteArray := prog_5_method_18_code
def yX3_canBeRead : MethodName := ⟨RX3, "canBeRead", "(II)Z"⟩
def RX4 : String := "KiteWords$State"
def TX4 : u_T := fun k => match k with
  | 0 => ("KiteWords$State", "row", "LKiteWords$Row;", true)
  | 1 => ("KiteWords$State", "plan", "LKiteWords$Plan;", true)
  | 2 => ("KiteWords$State", "log", "LKiteWords$TangleLog;", true)
  | 3 => ("KiteWords$State", "word", "LKiteWords$Word;", true)
  | 4 => ("KiteWords$State", "minutes", "I", false)
  | 5 => ("KiteWords$State", "side", "I", false)
  | 6 => ("KiteWords$State", "strength", "I", false)
  | 7 => ("KiteWords$State", "inNorth", "Z", false)
  | 8 => ("KiteWords$State", "tangleMinutes", "I", false)
  | _ => ("KiteWords$State", "tradesSoFar", "I", false)
def tyX4 : Nat → FieldType := fun k => match k with
  | 0 => .object "KiteWords$Row"
  | 1 => .object "KiteWords$Plan"
  | 2 => .object "KiteWords$TangleLog"
  | 3 => .object "KiteWords$Word"
  | 4 => .int
  | 5 => .int
  | 6 => .int
  | 7 => .boolean
  | 8 => .int
  | _ => .int
abbrev wsX40 : List Cond := u_ws RX4 TX4 10
theorem nmX4 : ∀ a, a < 10 → ∀ b, b < 10 → a ≠ b → (TX4 a).2.1 ≠ (TX4 b).2.1 := by decide +kernel
theorem tyX4_ok : ∀ k, k < 10 → parseFieldDescriptor (TX4 k).2.2.1 = some (tyX4 k) := by decide +kernel
abbrev cX4_init : ByteArray := prog_6_method_1_code
def yX4_init : MethodName := ⟨RX4, "<init>", "()V"⟩
abbrev cX4_copyFrom : ByteArray := prog_6_method_2_code
def yX4_copyFrom : MethodName := ⟨RX4, "copyFrom", "(LKiteWords$State;)V"⟩
abbrev cX4_drift : ByteArray := prog_6_method_3_code
def yX4_drift : MethodName := ⟨RX4, "drift", "()I"⟩
abbrev cX4_tradePlaces : ByteArray := prog_6_method_4_code
def yX4_tradePlaces : MethodName := ⟨RX4, "tradePlaces", "(I)Z"⟩
abbrev cX4_passMinute : ByteArray := prog_6_method_5_code
def yX4_passMinute : MethodName := ⟨RX4, "passMinute", "()I"⟩
abbrev cX4_turnWind : ByteArray := prog_6_method_6_code
def yX4_turnWind : MethodName := ⟨RX4, "turnWind", "(II)I"⟩
abbrev cX4_isSafe : ByteArray := prog_6_method_7_code
def yX4_isSafe : MethodName := ⟨RX4, "isSafe", "(I)Z"⟩
abbrev cX4_isAtRest : ByteArray := prog_6_method_8_code
def yX4_isAtRest : MethodName := ⟨RX4, "isAtRest", "()Z"⟩
abbrev cX4_tangleAt : ByteArray := prog_6_method_9_code
def yX4_tangleAt : MethodName := ⟨RX4, "tangleAt", "(IZ)V"⟩
def RX5 : String := "KiteWords$TangleLog"
def TX5 : u_T := fun k => match k with
  | 0 => ("KiteWords$TangleLog", "minute", "[I", true)
  | 1 => ("KiteWords$TangleLog", "western", "[I", true)
  | 2 => ("KiteWords$TangleLog", "eastern", "[I", true)
  | 3 => ("KiteWords$TangleLog", "byTrade", "[I", true)
  | 4 => ("KiteWords$TangleLog", "size", "I", false)
  | _ => ("KiteWords$TangleLog", "soFar", "I", false)
def tyX5 : Nat → FieldType := fun k => match k with
  | 0 => .array .int
  | 1 => .array .int
  | 2 => .array .int
  | 3 => .array .int
  | 4 => .int
  | _ => .int
abbrev wsX50 : List Cond := u_ws RX5 TX5 6
theorem nmX5 : ∀ a, a < 6 → ∀ b, b < 6 → a ≠ b → (TX5 a).2.1 ≠ (TX5 b).2.1 := by decide +kernel
theorem tyX5_ok : ∀ k, k < 6 → parseFieldDescriptor (TX5 k).2.2.1 = some (tyX5 k) := by decide +kernel
abbrev cX5_init : ByteArray := prog_7_method_1_code
def yX5_init : MethodName := ⟨RX5, "<init>", "()V"⟩
abbrev cX5_copyFrom : ByteArray := prog_7_method_2_code
def yX5_copyFrom : MethodName := ⟨RX5, "copyFrom", "(LKiteWords$TangleLog;)V"⟩
abbrev cX5_add : ByteArray := prog_7_method_3_code
def yX5_add : MethodName := ⟨RX5, "add", "(IIII)V"⟩
def RX6 : String := "KiteWords$Word"
def TX6 : u_T := fun k => match k with
  | 0 => ("KiteWords$Word", "letters", "[C", true)
  | _ => ("KiteWords$Word", "size", "I", false)
def tyX6 : Nat → FieldType := fun k => match k with
  | 0 => .array .char
  | _ => .int
abbrev wsX60 : List Cond := u_ws RX6 TX6 2
theorem nmX6 : ∀ a, a < 2 → ∀ b, b < 2 → a ≠ b → (TX6 a).2.1 ≠ (TX6 b).2.1 := by decide +kernel
theorem tyX6_ok : ∀ k, k < 2 → parseFieldDescriptor (TX6 k).2.2.1 = some (tyX6 k) := by decide +kernel
abbrev cX6_init : ByteArray := prog_8_method_1_code
def yX6_init : MethodName := ⟨RX6, "<init>", "()V"⟩
abbrev cX6_copyFrom : ByteArray := prog_8_method_2_code
def yX6_copyFrom : MethodName := ⟨RX6, "copyFrom", "(LKiteWords$Word;)V"⟩
abbrev cX6_isSame : ByteArray := prog_8_method_3_code
def yX6_isSame : MethodName := ⟨RX6, "isSame", "([CI)Z"⟩
abbrev cX6_become : ByteArray := prog_8_method_4_code
def yX6_become : MethodName := ⟨RX6, "become", "([CI)V"⟩
def RX7 : String := "KiteWords"
def TX7 : u_T := fun k => match k with
  | 0 => ("KiteWords", "now", "LKiteWords$State;", true)
  | 1 => ("KiteWords", "trial", "LKiteWords$State;", true)
  | 2 => ("KiteWords", "snapshot", "LKiteWords$State;", true)
  | 3 => ("KiteWords", "history", "[LKiteWords$State;", true)
  | 4 => ("KiteWords", "text", "[C", true)
  | 5 => ("KiteWords", "reading", "LKiteWords$Reading;", true)
  | 6 => ("KiteWords", "aim", "LKiteWords$Aim;", true)
  | 7 => ("KiteWords", "hasSnapshot", "Z", false)
  | 8 => ("KiteWords", "recorded", "I", false)
  | _ => ("KiteWords", "typed", "I", false)
def tyX7 : Nat → FieldType := fun k => match k with
  | 0 => .object "KiteWords$State"
  | 1 => .object "KiteWords$State"
  | 2 => .object "KiteWords$State"
  | 3 => .array (.object "KiteWords$State")
  | 4 => .array .char
  | 5 => .object "KiteWords$Reading"
  | 6 => .object "KiteWords$Aim"
  | 7 => .boolean
  | 8 => .int
  | _ => .int
abbrev wsX70 : List Cond := u_ws RX7 TX7 10
theorem nmX7 : ∀ a, a < 10 → ∀ b, b < 10 → a ≠ b → (TX7 a).2.1 ≠ (TX7 b).2.1 := by decide +kernel
theorem tyX7_ok : ∀ k, k < 10 → parseFieldDescriptor (TX7 k).2.2.1 = some (tyX7 k) := by decide +kernel
abbrev cX7_init : ByteArray := prog_1_method_1_code
def yX7_init : MethodName := ⟨RX7, "<init>", "()V"⟩
abbrev cX7_come : ByteArray := prog_1_method_2_code
def yX7_come : MethodName := ⟨RX7, "come", "(CI)I"⟩
abbrev cX7_readRow : ByteArray := prog_1_method_3_code
def yX7_readRow : MethodName := ⟨RX7, "readRow", "()I"⟩
abbrev cX7_go : ByteArray := prog_1_method_4_code
def yX7_go : MethodName := ⟨RX7, "go", "(I)I"⟩
abbrev cX7_pay : ByteArray := prog_1_method_5_code
def yX7_pay : MethodName := ⟨RX7, "pay", "(II)I"⟩
abbrev cX7_trade : ByteArray := prog_1_method_6_code
def yX7_trade : MethodName := ⟨RX7, "trade", "(I)I"⟩
abbrev cX7_pass : ByteArray := prog_1_method_7_code
def yX7_pass : MethodName := ⟨RX7, "pass", "(I)I"⟩
abbrev cX7_wind : ByteArray := prog_1_method_8_code
def yX7_wind : MethodName := ⟨RX7, "wind", "(II)I"⟩
abbrev cX7_planTurn : ByteArray := prog_1_method_9_code
def yX7_planTurn : MethodName := ⟨RX7, "planTurn", "(III)I"⟩
abbrev cX7_dropTurn : ByteArray := prog_1_method_10_code
def yX7_dropTurn : MethodName := ⟨RX7, "dropTurn", "(I)I"⟩
abbrev cX7_crowd : ByteArray := prog_1_method_11_code
def yX7_crowd : MethodName := ⟨RX7, "crowd", "(Z)I"⟩
abbrev cX7_setTangle : ByteArray := prog_1_method_12_code
def yX7_setTangle : MethodName := ⟨RX7, "setTangle", "(I)I"⟩
abbrev cX7_want : ByteArray := prog_1_method_13_code
def yX7_want : MethodName := ⟨RX7, "want", "()I"⟩
abbrev cX7_type : ByteArray := prog_1_method_14_code
def yX7_type : MethodName := ⟨RX7, "type", "(C)I"⟩
abbrev cX7_clearText : ByteArray := prog_1_method_15_code
def yX7_clearText : MethodName := ⟨RX7, "clearText", "()I"⟩
abbrev cX7_undo : ByteArray := prog_1_method_16_code
def yX7_undo : MethodName := ⟨RX7, "undo", "()I"⟩
abbrev cX7_keep : ByteArray := prog_1_method_17_code
def yX7_keep : MethodName := ⟨RX7, "keep", "()I"⟩
abbrev cX7_restore : ByteArray := prog_1_method_18_code
def yX7_restore : MethodName := ⟨RX7, "restore", "()I"⟩
abbrev cX7_flier : ByteArray := prog_1_method_19_code
def yX7_flier : MethodName := ⟨RX7, "flier", "(II)I"⟩
abbrev cX7_reads : ByteArray := prog_1_method_20_code
def yX7_reads : MethodName := ⟨RX7, "reads", "(I)I"⟩
abbrev cX7_ifTraded : ByteArray := prog_1_method_21_code
def yX7_ifTraded : MethodName := ⟨RX7, "ifTraded", "(II)I"⟩
abbrev cX7_nextTrade : ByteArray := prog_1_method_22_code
def yX7_nextTrade : MethodName := ⟨RX7, "nextTrade", "()I"⟩
abbrev cX7_spelledIn : ByteArray := prog_1_method_23_code
def yX7_spelledIn : MethodName := ⟨RX7, "spelledIn", "()I"⟩
abbrev cX7_turnOf : ByteArray := prog_1_method_24_code
def yX7_turnOf : MethodName := ⟨RX7, "turnOf", "(II)I"⟩
abbrev cX7_tangle : ByteArray := prog_1_method_25_code
def yX7_tangle : MethodName := ⟨RX7, "tangle", "(II)I"⟩
abbrev cX7_count : ByteArray := prog_1_method_26_code
def yX7_count : MethodName := ⟨RX7, "count", "(I)I"⟩
abbrev cX7_readableKites : ByteArray := prog_1_method_27_code
def yX7_readableKites : MethodName := ⟨RX7, "readableKites", "()I"⟩
abbrev cX7_fewestTrades : ByteArray := prog_1_method_28_code
def yX7_fewestTrades : MethodName := ⟨RX7, "fewestTrades", "()I"⟩
abbrev cX7_isSpelled : ByteArray := prog_1_method_29_code
def yX7_isSpelled : MethodName := ⟨RX7, "isSpelled", "(LKiteWords$State;)Z"⟩
abbrev cX7_nextPlace : ByteArray := prog_1_method_30_code
def yX7_nextPlace : MethodName := ⟨RX7, "nextPlace", "(LKiteWords$State;)I"⟩
abbrev cX7_record : ByteArray := prog_1_method_31_code
def yX7_record : MethodName := ⟨RX7, "record", "()V"⟩
abbrev cX7_dropOldest : ByteArray := prog_1_method_32_code
def yX7_dropOldest : MethodName := ⟨RX7, "dropOldest", "()V"⟩
abbrev cX7_rowFault : ByteArray := prog_1_method_33_code
def yX7_rowFault : MethodName := ⟨RX7, "rowFault", "()I"⟩
abbrev cX7_isAllowedInRow : ByteArray := prog_1_method_34_code
def yX7_isAllowedInRow : MethodName := ⟨RX7, "isAllowedInRow", "(CI)Z"⟩
abbrev cX7_wordFault : ByteArray := prog_1_method_35_code
def yX7_wordFault : MethodName := ⟨RX7, "wordFault", "()I"⟩
abbrev cX7_isLetter : ByteArray := prog_1_method_36_code
def yX7_isLetter : MethodName := ⟨RX7, "isLetter", "(C)Z"⟩
abbrev cX7_isWind : ByteArray := prog_1_method_37_code
def yX7_isWind : MethodName := ⟨RX7, "isWind", "(II)Z"⟩
abbrev cX7_isWithin : ByteArray := prog_1_method_38_code
def yX7_isWithin : MethodName := ⟨RX7, "isWithin", "(III)Z"⟩
abbrev cX7_asNumber : ByteArray := prog_1_method_39_code
def yX7_asNumber : MethodName := ⟨RX7, "asNumber", "(Z)I"⟩
abbrev cX7_sideOf : ByteArray := prog_1_method_40_code
def yX7_sideOf : MethodName := ⟨RX7, "sideOf", "(II)I"⟩
def RX8 : String := "KiteWordsModel"
def TX8 : u_T := fun k => match k with
  | 0 => ("KiteWordsModel", "now", "[I", true)
  | 1 => ("KiteWordsModel", "then", "[I", true)
  | 2 => ("KiteWordsModel", "past", "[I", true)
  | 3 => ("KiteWordsModel", "states", "I", false)
  | 4 => ("KiteWordsModel", "snapshot", "[I", true)
  | 5 => ("KiteWordsModel", "isKept", "Z", false)
  | 6 => ("KiteWordsModel", "text", "[C", true)
  | 7 => ("KiteWordsModel", "typed", "I", false)
  | 8 => ("KiteWordsModel", "taken", "[Z", true)
  | 9 => ("KiteWordsModel", "goal", "[I", true)
  | 10 => ("KiteWordsModel", "relations", "[I", true)
  | _ => ("KiteWordsModel", "turned", "[I", true)
def tyX8 : Nat → FieldType := fun k => match k with
  | 0 => .array .int
  | 1 => .array .int
  | 2 => .array .int
  | 3 => .int
  | 4 => .array .int
  | 5 => .boolean
  | 6 => .array .char
  | 7 => .int
  | 8 => .array .boolean
  | 9 => .array .int
  | 10 => .array .int
  | _ => .array .int
abbrev wsX80 : List Cond := u_ws RX8 TX8 12
theorem nmX8 : ∀ a, a < 12 → ∀ b, b < 12 → a ≠ b → (TX8 a).2.1 ≠ (TX8 b).2.1 := by decide +kernel
theorem tyX8_ok : ∀ k, k < 12 → parseFieldDescriptor (TX8 k).2.2.1 = some (tyX8 k) := by decide +kernel
abbrev cX8_init : ByteArray := prog_10_method_1_code
def yX8_init : MethodName := ⟨RX8, "<init>", "()V"⟩
abbrev cX8_in : ByteArray := prog_10_method_3_code
def yX8_in : MethodName := ⟨RX8, "in", "(III)Z"⟩
abbrev cX8_lays : ByteArray := prog_10_method_4_code
def yX8_lays : MethodName := ⟨RX8, "lays", "([II[II)V"⟩
abbrev cX8_records : ByteArray := prog_10_method_5_code
def yX8_records : MethodName := ⟨RX8, "records", "()V"⟩
abbrev cX8_of : ByteArray := prog_10_method_6_code
def yX8_of : MethodName := ⟨RX8, "of", "([III)I"⟩
abbrev cX8_puts : ByteArray := prog_10_method_7_code
def yX8_puts : MethodName := ⟨RX8, "puts", "([IIII)V"⟩
abbrev cX8_isPlace : ByteArray := prog_10_method_8_code
def yX8_isPlace : MethodName := ⟨RX8, "isPlace", "(I)Z"⟩
abbrev cX8_aside : ByteArray := prog_10_method_9_code
def yX8_aside : MethodName := ⟨RX8, "aside", "([II)I"⟩
abbrev cX8_shown : ByteArray := prog_10_method_10_code
def yX8_shown : MethodName := ⟨RX8, "shown", "([II)I"⟩
abbrev cX8_isTangled : ByteArray := prog_10_method_11_code
def yX8_isTangled : MethodName := ⟨RX8, "isTangled", "([II)Z"⟩
abbrev cX8_isRead : ByteArray := prog_10_method_12_code
def yX8_isRead : MethodName := ⟨RX8, "isRead", "([II)Z"⟩
abbrev cX8_readable : ByteArray := prog_10_method_13_code
def yX8_readable : MethodName := ⟨RX8, "readable", "([I)I"⟩
abbrev cX8_ranked : ByteArray := prog_10_method_14_code
def yX8_ranked : MethodName := ⟨RX8, "ranked", "([II)I"⟩
abbrev cX8_isSpelled : ByteArray := prog_10_method_15_code
def yX8_isSpelled : MethodName := ⟨RX8, "isSpelled", "([I)Z"⟩
abbrev cX8_letterAt : ByteArray := prog_10_method_16_code
def yX8_letterAt : MethodName := ⟨RX8, "letterAt", "([II)I"⟩
abbrev cX8_laysGoal : ByteArray := prog_10_method_17_code
def yX8_laysGoal : MethodName := ⟨RX8, "laysGoal", "([I)Z"⟩
abbrev cX8_fewest : ByteArray := prog_10_method_18_code
def yX8_fewest : MethodName := ⟨RX8, "fewest", "([I)I"⟩
abbrev cX8_logs : ByteArray := prog_10_method_19_code
def yX8_logs : MethodName := ⟨RX8, "logs", "([III)V"⟩
abbrev cX8_tangles : ByteArray := prog_10_method_20_code
def yX8_tangles : MethodName := ⟨RX8, "tangles", "([III)V"⟩
abbrev cX8_wouldTangle : ByteArray := prog_10_method_21_code
def yX8_wouldTangle : MethodName := ⟨RX8, "wouldTangle", "([II)Z"⟩
abbrev cX8_swaps : ByteArray := prog_10_method_22_code
def yX8_swaps : MethodName := ⟨RX8, "swaps", "([II)V"⟩
abbrev cX8_relation : ByteArray := prog_10_method_23_code
def yX8_relation : MethodName := ⟨RX8, "relation", "([II)I"⟩
abbrev cX8_blows : ByteArray := prog_10_method_24_code
def yX8_blows : MethodName := ⟨RX8, "blows", "([III)I"⟩
abbrev cX8_dropsTurn : ByteArray := prog_10_method_25_code
def yX8_dropsTurn : MethodName := ⟨RX8, "dropsTurn", "([II)V"⟩
abbrev cX8_minute : ByteArray := prog_10_method_26_code
def yX8_minute : MethodName := ⟨RX8, "minute", "([I)I"⟩
abbrev cX8_trades : ByteArray := prog_10_method_27_code
def yX8_trades : MethodName := ⟨RX8, "trades", "([II)Z"⟩
abbrev cX8_isSafe : ByteArray := prog_10_method_28_code
def yX8_isSafe : MethodName := ⟨RX8, "isSafe", "([II)Z"⟩
abbrev cX8_behind : ByteArray := prog_10_method_29_code
def yX8_behind : MethodName := ⟨RX8, "behind", "([II)I"⟩
abbrev cX8_next : ByteArray := prog_10_method_30_code
def yX8_next : MethodName := ⟨RX8, "next", "([I)I"⟩
abbrev cX8_isRoom : ByteArray := prog_10_method_31_code
def yX8_isRoom : MethodName := ⟨RX8, "isRoom", "(I)Z"⟩
abbrev cX8_comes : ByteArray := prog_10_method_32_code
def yX8_comes : MethodName := ⟨RX8, "comes", "(II)V"⟩
abbrev cX8_come : ByteArray := prog_10_method_33_code
def yX8_come : MethodName := ⟨RX8, "come", "(CI)I"⟩
abbrev cX8_readRow : ByteArray := prog_10_method_34_code
def yX8_readRow : MethodName := ⟨RX8, "readRow", "()I"⟩
abbrev cX8_go : ByteArray := prog_10_method_35_code
def yX8_go : MethodName := ⟨RX8, "go", "(I)I"⟩
abbrev cX8_pay : ByteArray := prog_10_method_36_code
def yX8_pay : MethodName := ⟨RX8, "pay", "(II)I"⟩
abbrev cX8_trade : ByteArray := prog_10_method_37_code
def yX8_trade : MethodName := ⟨RX8, "trade", "(I)I"⟩
abbrev cX8_pass : ByteArray := prog_10_method_38_code
def yX8_pass : MethodName := ⟨RX8, "pass", "(I)I"⟩
abbrev cX8_isWind : ByteArray := prog_10_method_39_code
def yX8_isWind : MethodName := ⟨RX8, "isWind", "(II)Z"⟩
abbrev cX8_wind : ByteArray := prog_10_method_40_code
def yX8_wind : MethodName := ⟨RX8, "wind", "(II)I"⟩
abbrev cX8_turnAt : ByteArray := prog_10_method_41_code
def yX8_turnAt : MethodName := ⟨RX8, "turnAt", "(I)I"⟩
abbrev cX8_planTurn : ByteArray := prog_10_method_42_code
def yX8_planTurn : MethodName := ⟨RX8, "planTurn", "(III)I"⟩
abbrev cX8_dropTurn : ByteArray := prog_10_method_43_code
def yX8_dropTurn : MethodName := ⟨RX8, "dropTurn", "(I)I"⟩
abbrev cX8_crowd : ByteArray := prog_10_method_44_code
def yX8_crowd : MethodName := ⟨RX8, "crowd", "(Z)I"⟩
abbrev cX8_setTangle : ByteArray := prog_10_method_45_code
def yX8_setTangle : MethodName := ⟨RX8, "setTangle", "(I)I"⟩
abbrev cX8_wordFault : ByteArray := prog_10_method_46_code
def yX8_wordFault : MethodName := ⟨RX8, "wordFault", "()I"⟩
abbrev cX8_rowFault : ByteArray := prog_10_method_47_code
def yX8_rowFault : MethodName := ⟨RX8, "rowFault", "()I"⟩
abbrev cX8_isWord : ByteArray := prog_10_method_48_code
def yX8_isWord : MethodName := ⟨RX8, "isWord", "()Z"⟩
abbrev cX8_want : ByteArray := prog_10_method_49_code
def yX8_want : MethodName := ⟨RX8, "want", "()I"⟩
abbrev cX8_type : ByteArray := prog_10_method_50_code
def yX8_type : MethodName := ⟨RX8, "type", "(C)I"⟩
abbrev cX8_clearText : ByteArray := prog_10_method_51_code
def yX8_clearText : MethodName := ⟨RX8, "clearText", "()I"⟩
abbrev cX8_undo : ByteArray := prog_10_method_52_code
def yX8_undo : MethodName := ⟨RX8, "undo", "()I"⟩
abbrev cX8_keep : ByteArray := prog_10_method_53_code
def yX8_keep : MethodName := ⟨RX8, "keep", "()I"⟩
abbrev cX8_restore : ByteArray := prog_10_method_54_code
def yX8_restore : MethodName := ⟨RX8, "restore", "()I"⟩
abbrev cX8_partner : ByteArray := prog_10_method_55_code
def yX8_partner : MethodName := ⟨RX8, "partner", "(I)I"⟩
abbrev cX8_flier : ByteArray := prog_10_method_56_code
def yX8_flier : MethodName := ⟨RX8, "flier", "(II)I"⟩
abbrev cX8_reads : ByteArray := prog_10_method_57_code
def yX8_reads : MethodName := ⟨RX8, "reads", "(I)I"⟩
abbrev cX8_ifTraded : ByteArray := prog_10_method_58_code
def yX8_ifTraded : MethodName := ⟨RX8, "ifTraded", "(II)I"⟩
abbrev cX8_nextTrade : ByteArray := prog_10_method_59_code
def yX8_nextTrade : MethodName := ⟨RX8, "nextTrade", "()I"⟩
abbrev cX8_spelledIn : ByteArray := prog_10_method_60_code
def yX8_spelledIn : MethodName := ⟨RX8, "spelledIn", "()I"⟩
abbrev cX8_turnOf : ByteArray := prog_10_method_61_code
def yX8_turnOf : MethodName := ⟨RX8, "turnOf", "(II)I"⟩
abbrev cX8_tangle : ByteArray := prog_10_method_62_code
def yX8_tangle : MethodName := ⟨RX8, "tangle", "(II)I"⟩
abbrev cX8_count : ByteArray := prog_10_method_63_code
def yX8_count : MethodName := ⟨RX8, "count", "(I)I"⟩
def RJ9 : String := "java/lang/Math"
def TJ9 : u_T := fun k => match k with
  | _ => ("", "", "", false)
def tyJ9 : Nat → FieldType := fun k => match k with
  | _ => .int
abbrev wsJ90 : List Cond := u_ws RJ9 TJ9 0
theorem nmJ9 : ∀ a, a < 0 → ∀ b, b < 0 → a ≠ b → (TJ9 a).2.1 ≠ (TJ9 b).2.1 := by decide +kernel
theorem tyJ9_ok : ∀ k, k < 0 → parseFieldDescriptor (TJ9 k).2.2.1 = some (tyJ9 k) := by decide +kernel
abbrev cJ9_min_7cf53 : ByteArray := prog_11_method_69_code
def yJ9_min_7cf53 : MethodName := ⟨RJ9, "min", "(II)I"⟩
def RJ10 : String := "java/lang/System"
def TJ10 : u_T := fun k => match k with
  | _ => ("", "", "", false)
def tyJ10 : Nat → FieldType := fun k => match k with
  | _ => .int
abbrev wsJ100 : List Cond := u_ws RJ10 TJ10 0
theorem nmJ10 : ∀ a, a < 0 → ∀ b, b < 0 → a ≠ b → (TJ10 a).2.1 ≠ (TJ10 b).2.1 := by decide +kernel
theorem tyJ10_ok : ∀ k, k < 0 → parseFieldDescriptor (TJ10 k).2.2.1 = some (tyJ10 k) := by decide +kernel
def RL : String := "KiteWordsLaw"
abbrev cL_law : ByteArray := code
def yL_law : MethodName := ⟨RL, "law", "([I)Z"⟩
