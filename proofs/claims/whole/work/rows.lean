section
/-- a private method of a class that the tables say can be made, by its rows of tables_1 -/
def lw_okq (q : MethodName × Nat) : Prop := (q.1.cls ≠ "java/lang/invoke/MethodHandle" ∧ q.1.cls ≠ "java/lang/invoke/VarHandle") ∧ Cond.instantiable q.1.cls q.2 ∈ tables_1 ∧ Cond.privateMethod q.1 ∈ tables_1 ∧ Cond.instanceMethod q.1 ∈ tables_1
theorem lw_p0 : lw_okq (⟨"KiteWords", "record", "()V"⟩, 10) := ⟨⟨by decide +kernel, by decide +kernel⟩, List.mem_of_getElem? (i := 13) (by decide +kernel), List.mem_of_getElem? (i := 276) (by decide +kernel), List.mem_of_getElem? (i := 277) (by decide +kernel)⟩
theorem lw_p1 : lw_okq (⟨"KiteWords", "dropOldest", "()V"⟩, 10) := ⟨⟨by decide +kernel, by decide +kernel⟩, List.mem_of_getElem? (i := 13) (by decide +kernel), List.mem_of_getElem? (i := 280) (by decide +kernel), List.mem_of_getElem? (i := 281) (by decide +kernel)⟩
theorem lw_p2 : lw_okq (⟨"KiteWords", "rowFault", "()I"⟩, 10) := ⟨⟨by decide +kernel, by decide +kernel⟩, List.mem_of_getElem? (i := 13) (by decide +kernel), List.mem_of_getElem? (i := 318) (by decide +kernel), List.mem_of_getElem? (i := 319) (by decide +kernel)⟩
theorem lw_p3 : lw_okq (⟨"KiteWords$Row", "swapEntries", "(I)V"⟩, 8) := ⟨⟨by decide +kernel, by decide +kernel⟩, List.mem_of_getElem? (i := 27) (by decide +kernel), List.mem_of_getElem? (i := 344) (by decide +kernel), List.mem_of_getElem? (i := 345) (by decide +kernel)⟩
theorem lw_p4 : lw_okq (⟨"KiteWords$State", "tangleAt", "(IZ)V"⟩, 10) := ⟨⟨by decide +kernel, by decide +kernel⟩, List.mem_of_getElem? (i := 21) (by decide +kernel), List.mem_of_getElem? (i := 396) (by decide +kernel), List.mem_of_getElem? (i := 397) (by decide +kernel)⟩
theorem lw_p5 : lw_okq (⟨"KiteWords$Plan", "move", "(II)V"⟩, 4) := ⟨⟨by decide +kernel, by decide +kernel⟩, List.mem_of_getElem? (i := 71) (by decide +kernel), List.mem_of_getElem? (i := 430) (by decide +kernel), List.mem_of_getElem? (i := 431) (by decide +kernel)⟩
theorem lw_p6 : lw_okq (⟨"KiteWords", "readableKites", "()I"⟩, 10) := ⟨⟨by decide +kernel, by decide +kernel⟩, List.mem_of_getElem? (i := 13) (by decide +kernel), List.mem_of_getElem? (i := 472) (by decide +kernel), List.mem_of_getElem? (i := 473) (by decide +kernel)⟩
theorem lw_p7 : lw_okq (⟨"KiteWords$Reading", "insert", "(LKiteWords$State;II)V"⟩, 2) := ⟨⟨by decide +kernel, by decide +kernel⟩, List.mem_of_getElem? (i := 193) (by decide +kernel), List.mem_of_getElem? (i := 485) (by decide +kernel), List.mem_of_getElem? (i := 486) (by decide +kernel)⟩
theorem lw_p8 : lw_okq (⟨"KiteWords", "wordFault", "()I"⟩, 10) := ⟨⟨by decide +kernel, by decide +kernel⟩, List.mem_of_getElem? (i := 13) (by decide +kernel), List.mem_of_getElem? (i := 498) (by decide +kernel), List.mem_of_getElem? (i := 499) (by decide +kernel)⟩
theorem lw_p9 : lw_okq (⟨"KiteWords$Aim", "findTargets", "(LKiteWords$Row;LKiteWords$Word;)Z"⟩, 4) := ⟨⟨by decide +kernel, by decide +kernel⟩, List.mem_of_getElem? (i := 208) (by decide +kernel), List.mem_of_getElem? (i := 554) (by decide +kernel), List.mem_of_getElem? (i := 555) (by decide +kernel)⟩
theorem lw_p10 : lw_okq (⟨"KiteWords$Aim", "countWrongPairs", "(I)I"⟩, 4) := ⟨⟨by decide +kernel, by decide +kernel⟩, List.mem_of_getElem? (i := 208) (by decide +kernel), List.mem_of_getElem? (i := 561) (by decide +kernel), List.mem_of_getElem? (i := 562) (by decide +kernel)⟩
theorem lw_p11 : lw_okq (⟨"KiteWords$Aim", "isWrongPair", "(II)Z"⟩, 4) := ⟨⟨by decide +kernel, by decide +kernel⟩, List.mem_of_getElem? (i := 208) (by decide +kernel), List.mem_of_getElem? (i := 565) (by decide +kernel), List.mem_of_getElem? (i := 566) (by decide +kernel)⟩
theorem lw_p12 : lw_okq (⟨"KiteWords", "nextPlace", "(LKiteWords$State;)I"⟩, 10) := ⟨⟨by decide +kernel, by decide +kernel⟩, List.mem_of_getElem? (i := 13) (by decide +kernel), List.mem_of_getElem? (i := 582) (by decide +kernel), List.mem_of_getElem? (i := 583) (by decide +kernel)⟩
theorem lw_p13 : lw_okq (⟨"KiteWords", "isSpelled", "(LKiteWords$State;)Z"⟩, 10) := ⟨⟨by decide +kernel, by decide +kernel⟩, List.mem_of_getElem? (i := 13) (by decide +kernel), List.mem_of_getElem? (i := 590) (by decide +kernel), List.mem_of_getElem? (i := 591) (by decide +kernel)⟩
theorem lw_p14 : lw_okq (⟨"KiteWords", "fewestTrades", "()I"⟩, 10) := ⟨⟨by decide +kernel, by decide +kernel⟩, List.mem_of_getElem? (i := 13) (by decide +kernel), List.mem_of_getElem? (i := 611) (by decide +kernel), List.mem_of_getElem? (i := 612) (by decide +kernel)⟩
theorem lw_p15 : lw_okq (⟨"KiteWordsModel", "isRoom", "(I)Z"⟩, 12) := ⟨⟨by decide +kernel, by decide +kernel⟩, List.mem_of_getElem? (i := 615) (by decide +kernel), List.mem_of_getElem? (i := 667) (by decide +kernel), List.mem_of_getElem? (i := 668) (by decide +kernel)⟩
def lw_privs_1 : List (MethodName × Nat) := [(⟨"KiteWords", "record", "()V"⟩, 10), (⟨"KiteWords", "dropOldest", "()V"⟩, 10), (⟨"KiteWords", "rowFault", "()I"⟩, 10), (⟨"KiteWords$Row", "swapEntries", "(I)V"⟩, 8), (⟨"KiteWords$State", "tangleAt", "(IZ)V"⟩, 10), (⟨"KiteWords$Plan", "move", "(II)V"⟩, 4), (⟨"KiteWords", "readableKites", "()I"⟩, 10), (⟨"KiteWords$Reading", "insert", "(LKiteWords$State;II)V"⟩, 2), (⟨"KiteWords", "wordFault", "()I"⟩, 10), (⟨"KiteWords$Aim", "findTargets", "(LKiteWords$Row;LKiteWords$Word;)Z"⟩, 4), (⟨"KiteWords$Aim", "countWrongPairs", "(I)I"⟩, 4), (⟨"KiteWords$Aim", "isWrongPair", "(II)Z"⟩, 4), (⟨"KiteWords", "nextPlace", "(LKiteWords$State;)I"⟩, 10), (⟨"KiteWords", "isSpelled", "(LKiteWords$State;)Z"⟩, 10), (⟨"KiteWords", "fewestTrades", "()I"⟩, 10), (⟨"KiteWordsModel", "isRoom", "(I)Z"⟩, 12)]
theorem lw_r1 : ∀ q ∈ lw_privs_1, lw_okq q := List.forall_mem_cons.mpr ⟨lw_p0, List.forall_mem_cons.mpr ⟨lw_p1, List.forall_mem_cons.mpr ⟨lw_p2, List.forall_mem_cons.mpr ⟨lw_p3, List.forall_mem_cons.mpr ⟨lw_p4, List.forall_mem_cons.mpr ⟨lw_p5, List.forall_mem_cons.mpr ⟨lw_p6, List.forall_mem_cons.mpr ⟨lw_p7, List.forall_mem_cons.mpr ⟨lw_p8, List.forall_mem_cons.mpr ⟨lw_p9, List.forall_mem_cons.mpr ⟨lw_p10, List.forall_mem_cons.mpr ⟨lw_p11, List.forall_mem_cons.mpr ⟨lw_p12, List.forall_mem_cons.mpr ⟨lw_p13, List.forall_mem_cons.mpr ⟨lw_p14, List.forall_mem_cons.mpr ⟨lw_p15, fun _ h => absurd h List.not_mem_nil⟩⟩⟩⟩⟩⟩⟩⟩⟩⟩⟩⟩⟩⟩⟩⟩
theorem lw_p16 : lw_okq (⟨"KiteWordsModel", "records", "()V"⟩, 12) := ⟨⟨by decide +kernel, by decide +kernel⟩, List.mem_of_getElem? (i := 615) (by decide +kernel), List.mem_of_getElem? (i := 672) (by decide +kernel), List.mem_of_getElem? (i := 673) (by decide +kernel)⟩
theorem lw_p17 : lw_okq (⟨"KiteWordsModel", "comes", "(II)V"⟩, 12) := ⟨⟨by decide +kernel, by decide +kernel⟩, List.mem_of_getElem? (i := 615) (by decide +kernel), List.mem_of_getElem? (i := 679) (by decide +kernel), List.mem_of_getElem? (i := 680) (by decide +kernel)⟩
theorem lw_p18 : lw_okq (⟨"KiteWordsModel", "rowFault", "()I"⟩, 12) := ⟨⟨by decide +kernel, by decide +kernel⟩, List.mem_of_getElem? (i := 615) (by decide +kernel), List.mem_of_getElem? (i := 690) (by decide +kernel), List.mem_of_getElem? (i := 691) (by decide +kernel)⟩
theorem lw_p19 : lw_okq (⟨"KiteWordsModel", "isPlace", "(I)Z"⟩, 12) := ⟨⟨by decide +kernel, by decide +kernel⟩, List.mem_of_getElem? (i := 615) (by decide +kernel), List.mem_of_getElem? (i := 700) (by decide +kernel), List.mem_of_getElem? (i := 701) (by decide +kernel)⟩
theorem lw_p20 : lw_okq (⟨"KiteWordsModel", "trades", "([II)Z"⟩, 12) := ⟨⟨by decide +kernel, by decide +kernel⟩, List.mem_of_getElem? (i := 615) (by decide +kernel), List.mem_of_getElem? (i := 720) (by decide +kernel), List.mem_of_getElem? (i := 721) (by decide +kernel)⟩
theorem lw_p21 : lw_okq (⟨"KiteWordsModel", "minute", "([I)I"⟩, 12) := ⟨⟨by decide +kernel, by decide +kernel⟩, List.mem_of_getElem? (i := 615) (by decide +kernel), List.mem_of_getElem? (i := 739) (by decide +kernel), List.mem_of_getElem? (i := 740) (by decide +kernel)⟩
theorem lw_p22 : lw_okq (⟨"KiteWordsModel", "blows", "([III)I"⟩, 12) := ⟨⟨by decide +kernel, by decide +kernel⟩, List.mem_of_getElem? (i := 615) (by decide +kernel), List.mem_of_getElem? (i := 746) (by decide +kernel), List.mem_of_getElem? (i := 747) (by decide +kernel)⟩
theorem lw_p23 : lw_okq (⟨"KiteWordsModel", "turnAt", "(I)I"⟩, 12) := ⟨⟨by decide +kernel, by decide +kernel⟩, List.mem_of_getElem? (i := 615) (by decide +kernel), List.mem_of_getElem? (i := 771) (by decide +kernel), List.mem_of_getElem? (i := 772) (by decide +kernel)⟩
theorem lw_p24 : lw_okq (⟨"KiteWordsModel", "wordFault", "()I"⟩, 12) := ⟨⟨by decide +kernel, by decide +kernel⟩, List.mem_of_getElem? (i := 615) (by decide +kernel), List.mem_of_getElem? (i := 797) (by decide +kernel), List.mem_of_getElem? (i := 798) (by decide +kernel)⟩
theorem lw_p25 : lw_okq (⟨"KiteWordsModel", "isWord", "()Z"⟩, 12) := ⟨⟨by decide +kernel, by decide +kernel⟩, List.mem_of_getElem? (i := 615) (by decide +kernel), List.mem_of_getElem? (i := 801) (by decide +kernel), List.mem_of_getElem? (i := 802) (by decide +kernel)⟩
theorem lw_p26 : lw_okq (⟨"KiteWordsModel", "partner", "(I)I"⟩, 12) := ⟨⟨by decide +kernel, by decide +kernel⟩, List.mem_of_getElem? (i := 615) (by decide +kernel), List.mem_of_getElem? (i := 829) (by decide +kernel), List.mem_of_getElem? (i := 830) (by decide +kernel)⟩
theorem lw_p27 : lw_okq (⟨"KiteWordsModel", "fewest", "([I)I"⟩, 12) := ⟨⟨by decide +kernel, by decide +kernel⟩, List.mem_of_getElem? (i := 615) (by decide +kernel), List.mem_of_getElem? (i := 847) (by decide +kernel), List.mem_of_getElem? (i := 848) (by decide +kernel)⟩
theorem lw_p28 : lw_okq (⟨"KiteWordsModel", "laysGoal", "([I)Z"⟩, 12) := ⟨⟨by decide +kernel, by decide +kernel⟩, List.mem_of_getElem? (i := 615) (by decide +kernel), List.mem_of_getElem? (i := 851) (by decide +kernel), List.mem_of_getElem? (i := 852) (by decide +kernel)⟩
theorem lw_p29 : lw_okq (⟨"KiteWordsModel", "behind", "([II)I"⟩, 12) := ⟨⟨by decide +kernel, by decide +kernel⟩, List.mem_of_getElem? (i := 615) (by decide +kernel), List.mem_of_getElem? (i := 858) (by decide +kernel), List.mem_of_getElem? (i := 859) (by decide +kernel)⟩
theorem lw_p30 : lw_okq (⟨"KiteWordsModel", "next", "([I)I"⟩, 12) := ⟨⟨by decide +kernel, by decide +kernel⟩, List.mem_of_getElem? (i := 615) (by decide +kernel), List.mem_of_getElem? (i := 866) (by decide +kernel), List.mem_of_getElem? (i := 867) (by decide +kernel)⟩
def lw_privs_2 : List (MethodName × Nat) := [(⟨"KiteWordsModel", "records", "()V"⟩, 12), (⟨"KiteWordsModel", "comes", "(II)V"⟩, 12), (⟨"KiteWordsModel", "rowFault", "()I"⟩, 12), (⟨"KiteWordsModel", "isPlace", "(I)Z"⟩, 12), (⟨"KiteWordsModel", "trades", "([II)Z"⟩, 12), (⟨"KiteWordsModel", "minute", "([I)I"⟩, 12), (⟨"KiteWordsModel", "blows", "([III)I"⟩, 12), (⟨"KiteWordsModel", "turnAt", "(I)I"⟩, 12), (⟨"KiteWordsModel", "wordFault", "()I"⟩, 12), (⟨"KiteWordsModel", "isWord", "()Z"⟩, 12), (⟨"KiteWordsModel", "partner", "(I)I"⟩, 12), (⟨"KiteWordsModel", "fewest", "([I)I"⟩, 12), (⟨"KiteWordsModel", "laysGoal", "([I)Z"⟩, 12), (⟨"KiteWordsModel", "behind", "([II)I"⟩, 12), (⟨"KiteWordsModel", "next", "([I)I"⟩, 12)]
theorem lw_r2 : ∀ q ∈ lw_privs_2, lw_okq q := List.forall_mem_cons.mpr ⟨lw_p16, List.forall_mem_cons.mpr ⟨lw_p17, List.forall_mem_cons.mpr ⟨lw_p18, List.forall_mem_cons.mpr ⟨lw_p19, List.forall_mem_cons.mpr ⟨lw_p20, List.forall_mem_cons.mpr ⟨lw_p21, List.forall_mem_cons.mpr ⟨lw_p22, List.forall_mem_cons.mpr ⟨lw_p23, List.forall_mem_cons.mpr ⟨lw_p24, List.forall_mem_cons.mpr ⟨lw_p25, List.forall_mem_cons.mpr ⟨lw_p26, List.forall_mem_cons.mpr ⟨lw_p27, List.forall_mem_cons.mpr ⟨lw_p28, List.forall_mem_cons.mpr ⟨lw_p29, List.forall_mem_cons.mpr ⟨lw_p30, fun _ h => absurd h List.not_mem_nil⟩⟩⟩⟩⟩⟩⟩⟩⟩⟩⟩⟩⟩⟩⟩
def lw_privs : List (MethodName × Nat) := lw_privs_1 ++ (lw_privs_2)
def lw_tbl : List Cond := k2_sels lw_privs ++ tables_1
theorem lw_privs_ok : ∀ q ∈ lw_privs, lw_okq q := by
  show ∀ q ∈ lw_privs_1 ++ (lw_privs_2), lw_okq q
  exact List.forall_mem_append.mpr ⟨lw_r1, lw_r2⟩

def RX0 : String := "KiteWords$Aim"
def TX0 : u_T := fun k => match k with
  | 0 => ("KiteWords$Aim", "target", "[I", true)
  | 1 => ("KiteWords$Aim", "inNorth", "Z", false)
  | 2 => ("KiteWords$Aim", "isPossible", "Z", false)
  | _ => ("KiteWords$Aim", "fewest", "I", false)
def tyX0 : Nat → FieldType := fun k => match k with
  | 0 => .array .int
  | 1 => .boolean
  | 2 => .boolean
  | _ => .int
abbrev wsX00 : List Cond := u_ws RX0 TX0 4
theorem nmX0 : ∀ a, a < 4 → ∀ b, b < 4 → a ≠ b → (TX0 a).2.1 ≠ (TX0 b).2.1 := by decide +kernel
theorem tyX0_ok : ∀ k, k < 4 → parseFieldDescriptor (TX0 k).2.2.1 = some (tyX0 k) := by decide +kernel
abbrev cX0_init : ByteArray := prog_2_method_1_code
def yX0_init : MethodName := ⟨RX0, "<init>", "()V"⟩
abbrev cX0_match : ByteArray := prog_2_method_2_code
def yX0_match : MethodName := ⟨RX0, "match", "(LKiteWords$State;)V"⟩
abbrev cX0_findTargets : ByteArray := prog_2_method_3_code
def yX0_findTargets : MethodName := ⟨RX0, "findTargets", "(LKiteWords$Row;LKiteWords$Word;)Z"⟩
abbrev cX0_firstFree : ByteArray := prog_2_method_4_code
def yX0_firstFree : MethodName := ⟨RX0, "firstFree", "(LKiteWords$Word;II)I"⟩
abbrev cX0_countWrongPairs : ByteArray := prog_2_method_5_code
def yX0_countWrongPairs : MethodName := ⟨RX0, "countWrongPairs", "(I)I"⟩
abbrev cX0_isWrongPair : ByteArray := prog_2_method_6_code
def yX0_isWrongPair : MethodName := ⟨RX0, "isWrongPair", "(II)Z"⟩
abbrev cX0_isGood : ByteArray := prog_2_method_7_code
def yX0_isGood : MethodName := ⟨RX0, "isGood", "(I)Z"⟩
abbrev cX0_fewestBehind : ByteArray := prog_2_method_8_code
def yX0_fewestBehind : MethodName := ⟨RX0, "fewestBehind", "(LKiteWords$Row;I)I"⟩
def RX1 : String := "KiteWords$Plan"
def TX1 : u_T := fun k => match k with
  | 0 => ("KiteWords$Plan", "minute", "[I", true)
  | 1 => ("KiteWords$Plan", "side", "[I", true)
  | 2 => ("KiteWords$Plan", "strength", "[I", true)
  | _ => ("KiteWords$Plan", "size", "I", false)
def tyX1 : Nat → FieldType := fun k => match k with
  | 0 => .array .int
  | 1 => .array .int
  | 2 => .array .int
  | _ => .int
abbrev wsX10 : List Cond := u_ws RX1 TX1 4
theorem nmX1 : ∀ a, a < 4 → ∀ b, b < 4 → a ≠ b → (TX1 a).2.1 ≠ (TX1 b).2.1 := by decide +kernel
theorem tyX1_ok : ∀ k, k < 4 → parseFieldDescriptor (TX1 k).2.2.1 = some (tyX1 k) := by decide +kernel
abbrev cX1_init : ByteArray := prog_3_method_1_code
def yX1_init : MethodName := ⟨RX1, "<init>", "()V"⟩
abbrev cX1_copyFrom : ByteArray := prog_3_method_2_code
def yX1_copyFrom : MethodName := ⟨RX1, "copyFrom", "(LKiteWords$Plan;)V"⟩
abbrev cX1_rankOf : ByteArray := prog_3_method_3_code
def yX1_rankOf : MethodName := ⟨RX1, "rankOf", "(I)I"⟩
abbrev cX1_insert : ByteArray := prog_3_method_4_code
def yX1_insert : MethodName := ⟨RX1, "insert", "(III)V"⟩
abbrev cX1_remove : ByteArray := prog_3_method_5_code
def yX1_remove : MethodName := ⟨RX1, "remove", "(I)V"⟩
abbrev cX1_move : ByteArray := prog_3_method_6_code
def yX1_move : MethodName := ⟨RX1, "move", "(II)V"⟩
def RX2 : String := "KiteWords$Reading"
def TX2 : u_T := fun k => match k with
  | 0 => ("KiteWords$Reading", "places", "[I", true)
  | _ => ("KiteWords$Reading", "size", "I", false)
def tyX2 : Nat → FieldType := fun k => match k with
  | 0 => .array .int
  | _ => .int
abbrev wsX20 : List Cond := u_ws RX2 TX2 2
theorem nmX2 : ∀ a, a < 2 → ∀ b, b < 2 → a ≠ b → (TX2 a).2.1 ≠ (TX2 b).2.1 := by decide +kernel
theorem tyX2_ok : ∀ k, k < 2 → parseFieldDescriptor (TX2 k).2.2.1 = some (tyX2 k) := by decide +kernel
abbrev cX2_init : ByteArray := prog_4_method_1_code
def yX2_init : MethodName := ⟨RX2, "<init>", "()V"⟩
abbrev cX2_look : ByteArray := prog_4_method_2_code
def yX2_look : MethodName := ⟨RX2, "look", "(LKiteWords$State;)V"⟩
abbrev cX2_insert : ByteArray := prog_4_method_3_code
def yX2_insert : MethodName := ⟨RX2, "insert", "(LKiteWords$State;II)V"⟩
def RX3 : String := "KiteWords$Row"
def TX3 : u_T := fun k => match k with
  | 0 => ("KiteWords$Row", "number", "[I", true)
  | 1 => ("KiteWords$Row", "letter", "[I", true)
  | 2 => ("KiteWords$Row", "length", "[I", true)
  | 3 => ("KiteWords$Row", "mate", "[I", true)
  | 4 => ("KiteWords$Row", "minutesLeft", "[I", true)
  | 5 => ("KiteWords$Row", "trades", "[I", true)
  | 6 => ("KiteWords$Row", "size", "I", false)
  | _ => ("KiteWords$Row", "everCame", "I", false)
def tyX3 : Nat → FieldType := fun k => match k with
  | 0 => .array .int
  | 1 => .array .int
  | 2 => .array .int
  | 3 => .array .int
  | 4 => .array .int
  | 5 => .array .int
  | 6 => .int
  | _ => .int
abbrev wsX30 : List Cond := u_ws RX3 TX3 8
theorem nmX3 : ∀ a, a < 8 → ∀ b, b < 8 → a ≠ b → (TX3 a).2.1 ≠ (TX3 b).2.1 := by decide +kernel
theorem tyX3_ok : ∀ k, k < 8 → parseFieldDescriptor (TX3 k).2.2.1 = some (tyX3 k) := by decide +kernel
abbrev cX3_init : ByteArray := prog_5_method_1_code
def yX3_init : MethodName := ⟨RX3, "<init>", "()V"⟩
abbrev cX3_copyFrom : ByteArray := prog_5_method_2_code
def yX3_copyFrom : MethodName := ⟨RX3, "copyFrom", "(LKiteWords$Row;)V"⟩
abbrev cX3_hasPlace : ByteArray := prog_5_method_3_code
def yX3_hasPlace : MethodName := ⟨RX3, "hasPlace", "(I)Z"⟩
abbrev cX3_hasPairAt : ByteArray := prog_5_method_4_code
def yX3_hasPairAt : MethodName := ⟨RX3, "hasPairAt", "(I)Z"⟩
abbrev cX3_hasRoomFor : ByteArray := prog_5_method_5_code
def yX3_hasRoomFor : MethodName := ⟨RX3, "hasRoomFor", "(I)Z"⟩
abbrev cX3_append : ByteArray := prog_5_method_6_code
def yX3_append : MethodName := ⟨RX3, "append", "(CI)V"⟩
abbrev cX3_remove : ByteArray := prog_5_method_7_code
def yX3_remove : MethodName := ⟨RX3, "remove", "(I)V"⟩
abbrev cX3_swap : ByteArray := prog_5_method_8_code
def yX3_swap : MethodName := ⟨RX3, "swap", "(I)V"⟩
abbrev cX3_swapEntries : ByteArray := prog_5_method_9_code
def yX3_swapEntries : MethodName := ⟨RX3, "swapEntries", "(I)V"⟩
abbrev cX3_swapWithNext : ByteArray := prog_5_method_10_code
def yX3_swapWithNext : MethodName := ⟨RX3, "swapWithNext", "([II)V"⟩
abbrev cX3_isTangled : ByteArray := prog_5_method_11_code
def yX3_isTangled : MethodName := ⟨RX3, "isTangled", "(I)Z"⟩
abbrev cX3_isPairFree : ByteArray := prog_5_method_12_code
def yX3_isPairFree : MethodName := ⟨RX3, "isPairFree", "(I)Z"⟩
abbrev cX3_tie : ByteArray := prog_5_method_13_code
def yX3_tie : MethodName := ⟨RX3, "tie", "(II)V"⟩
abbrev cX3_loosen : ByteArray := prog_5_method_14_code
def yX3_loosen : MethodName := ⟨RX3, "loosen", "()V"⟩
abbrev cX3_shownAt : ByteArray := prog_5_method_15_code
def yX3_shownAt : MethodName := ⟨RX3, "shownAt", "(II)I"⟩
abbrev cX3_sideAt : ByteArray := prog_5_method_16_code
def yX3_sideAt : MethodName := ⟨RX3, "sideAt", "(II)I"⟩
abbrev cX3_wouldTangle : ByteArray := prog_5_method_17_code
def yX3_wouldTangle : MethodName := ⟨RX3, "wouldTangle", "(II)Z"⟩
abbrev cX3_canBeRead : ByteArray := prog_5_method_18_code
def yX3_canBeRead : MethodName := ⟨RX3, "canBeRead", "(II)Z"⟩
def RX4 : String := "KiteWords$State"
def TX4 : u_T := fun k => match k with
  | 0 => ("KiteWords$State", "row", "LKiteWords$Row;", true)
  | 1 => ("KiteWords$State", "plan", "LKiteWords$Plan;", true)
  | 2 => ("KiteWords$State", "log", "LKiteWords$TangleLog;", true)
  | 3 => ("KiteWords$State", "word", "LKiteWords$Word;", true)
  | 4 => ("KiteWords$State", "minutes", "I", false)
  | 5 => ("KiteWords$State", "side", "I", false)
  | 6 => ("KiteWords$State", "strength", "I", false)
  | 7 => ("KiteWords$State", "inNorth", "Z", false)
  | 8 => ("KiteWords$State", "tangleMinutes", "I", false)
  | _ => ("KiteWords$State", "tradesSoFar", "I", false)
def tyX4 : Nat → FieldType := fun k => match k with
  | 0 => .object "KiteWords$Row"
  | 1 => .object "KiteWords$Plan"
  | 2 => .object "KiteWords$TangleLog"
  | 3 => .object "KiteWords$Word"
  | 4 => .int
  | 5 => .int
  | 6 => .int
  | 7 => .boolean
  | 8 => .int
  | _ => .int
abbrev wsX40 : List Cond := u_ws RX4 TX4 10
theorem nmX4 : ∀ a, a < 10 → ∀ b, b < 10 → a ≠ b → (TX4 a).2.1 ≠ (TX4 b).2.1 := by decide +kernel
theorem tyX4_ok : ∀ k, k < 10 → parseFieldDescriptor (TX4 k).2.2.1 = some (tyX4 k) := by decide +kernel
abbrev cX4_init : ByteArray := prog_6_method_1_code
def yX4_init : MethodName := ⟨RX4, "<init>", "()V"⟩
abbrev cX4_copyFrom : ByteArray := prog_6_method_2_code
def yX4_copyFrom : MethodName := ⟨RX4, "copyFrom", "(LKiteWords$State;)V"⟩
abbrev cX4_drift : ByteArray := prog_6_method_3_code
def yX4_drift : MethodName := ⟨RX4, "drift", "()I"⟩
abbrev cX4_tradePlaces : ByteArray := prog_6_method_4_code
def yX4_tradePlaces : MethodName := ⟨RX4, "tradePlaces", "(I)Z"⟩
abbrev cX4_passMinute : ByteArray := prog_6_method_5_code
def yX4_passMinute : MethodName := ⟨RX4, "passMinute", "()I"⟩
abbrev cX4_turnWind : ByteArray := prog_6_method_6_code
def yX4_turnWind : MethodName := ⟨RX4, "turnWind", "(II)I"⟩
abbrev cX4_isSafe : ByteArray := prog_6_method_7_code
def yX4_isSafe : MethodName := ⟨RX4, "isSafe", "(I)Z"⟩
abbrev cX4_isAtRest : ByteArray := prog_6_method_8_code
def yX4_isAtRest : MethodName := ⟨RX4, "isAtRest", "()Z"⟩
abbrev cX4_tangleAt : ByteArray := prog_6_method_9_code
def yX4_tangleAt : MethodName := ⟨RX4, "tangleAt", "(IZ)V"⟩
def RX5 : String := "KiteWords$TangleLog"
def TX5 : u_T := fun k => match k with
  | 0 => ("KiteWords$TangleLog", "minute", "[I", true)
  | 1 => ("KiteWords$TangleLog", "western", "[I", true)
  | 2 => ("KiteWords$TangleLog", "eastern", "[I", true)
  | 3 => ("KiteWords$TangleLog", "byTrade", "[I", true)
  | 4 => ("KiteWords$TangleLog", "size", "I", false)
  | _ => ("KiteWords$TangleLog", "soFar", "I", false)
def tyX5 : Nat → FieldType := fun k => match k with
  | 0 => .array .int
  | 1 => .array .int
  | 2 => .array .int
  | 3 => .array .int
  | 4 => .int
  | _ => .int
abbrev wsX50 : List Cond := u_ws RX5 TX5 6
theorem nmX5 : ∀ a, a < 6 → ∀ b, b < 6 → a ≠ b → (TX5 a).2.1 ≠ (TX5 b).2.1 := by decide +kernel
theorem tyX5_ok : ∀ k, k < 6 → parseFieldDescriptor (TX5 k).2.2.1 = some (tyX5 k) := by decide +kernel
abbrev cX5_init : ByteArray := prog_7_method_1_code
def yX5_init : MethodName := ⟨RX5, "<init>", "()V"⟩
abbrev cX5_copyFrom : ByteArray := prog_7_method_2_code
def yX5_copyFrom : MethodName := ⟨RX5, "copyFrom", "(LKiteWords$TangleLog;)V"⟩
abbrev cX5_add : ByteArray := prog_7_method_3_code
def yX5_add : MethodName := ⟨RX5, "add", "(IIII)V"⟩
def RX6 : String := "KiteWords$Word"
def TX6 : u_T := fun k => match k with
  | 0 => ("KiteWords$Word", "letters", "[C", true)
  | _ => ("KiteWords$Word", "size", "I", false)
def tyX6 : Nat → FieldType := fun k => match k with
  | 0 => .array .char
  | _ => .int
abbrev wsX60 : List Cond := u_ws RX6 TX6 2
theorem nmX6 : ∀ a, a < 2 → ∀ b, b < 2 → a ≠ b → (TX6 a).2.1 ≠ (TX6 b).2.1 := by decide +kernel
theorem tyX6_ok : ∀ k, k < 2 → parseFieldDescriptor (TX6 k).2.2.1 = some (tyX6 k) := by decide +kernel
abbrev cX6_init : ByteArray := prog_8_method_1_code
def yX6_init : MethodName := ⟨RX6, "<init>", "()V"⟩
abbrev cX6_copyFrom : ByteArray := prog_8_method_2_code
def yX6_copyFrom : MethodName := ⟨RX6, "copyFrom", "(LKiteWords$Word;)V"⟩
abbrev cX6_isSame : ByteArray := prog_8_method_3_code
def yX6_isSame : MethodName := ⟨RX6, "isSame", "([CI)Z"⟩
abbrev cX6_become : ByteArray := prog_8_method_4_code
def yX6_become : MethodName := ⟨RX6, "become", "([CI)V"⟩
def RX7 : String := "KiteWords"
def TX7 : u_T := fun k => match k with
  | 0 => ("KiteWords", "now", "LKiteWords$State;", true)
  | 1 => ("KiteWords", "trial", "LKiteWords$State;", true)
  | 2 => ("KiteWords", "snapshot", "LKiteWords$State;", true)
  | 3 => ("KiteWords", "history", "[LKiteWords$State;", true)
  | 4 => ("KiteWords", "text", "[C", true)
  | 5 => ("KiteWords", "reading", "LKiteWords$Reading;", true)
  | 6 => ("KiteWords", "aim", "LKiteWords$Aim;", true)
  | 7 => ("KiteWords", "hasSnapshot", "Z", false)
  | 8 => ("KiteWords", "recorded", "I", false)
  | _ => ("KiteWords", "typed", "I", false)
def tyX7 : Nat → FieldType := fun k => match k with
  | 0 => .object "KiteWords$State"
  | 1 => .object "KiteWords$State"
  | 2 => .object "KiteWords$State"
  | 3 => .array (.object "KiteWords$State")
  | 4 => .array .char
  | 5 => .object "KiteWords$Reading"
  | 6 => .object "KiteWords$Aim"
  | 7 => .boolean
  | 8 => .int
  | _ => .int
abbrev wsX70 : List Cond := u_ws RX7 TX7 10
theorem nmX7 : ∀ a, a < 10 → ∀ b, b < 10 → a ≠ b → (TX7 a).2.1 ≠ (TX7 b).2.1 := by decide +kernel
theorem tyX7_ok : ∀ k, k < 10 → parseFieldDescriptor (TX7 k).2.2.1 = some (tyX7 k) := by decide +kernel
abbrev cX7_init : ByteArray := prog_1_method_1_code
def yX7_init : MethodName := ⟨RX7, "<init>", "()V"⟩
abbrev cX7_come : ByteArray := prog_1_method_2_code
def yX7_come : MethodName := ⟨RX7, "come", "(CI)I"⟩
abbrev cX7_readRow : ByteArray := prog_1_method_3_code
def yX7_readRow : MethodName := ⟨RX7, "readRow", "()I"⟩
abbrev cX7_go : ByteArray := prog_1_method_4_code
def yX7_go : MethodName := ⟨RX7, "go", "(I)I"⟩
abbrev cX7_pay : ByteArray := prog_1_method_5_code
def yX7_pay : MethodName := ⟨RX7, "pay", "(II)I"⟩
abbrev cX7_trade : ByteArray := prog_1_method_6_code
def yX7_trade : MethodName := ⟨RX7, "trade", "(I)I"⟩
abbrev cX7_pass : ByteArray := prog_1_method_7_code
def yX7_pass : MethodName := ⟨RX7, "pass", "(I)I"⟩
abbrev cX7_wind : ByteArray := prog_1_method_8_code
def yX7_wind : MethodName := ⟨RX7, "wind", "(II)I"⟩
abbrev cX7_planTurn : ByteArray := prog_1_method_9_code
def yX7_planTurn : MethodName := ⟨RX7, "planTurn", "(III)I"⟩
abbrev cX7_dropTurn : ByteArray := prog_1_method_10_code
def yX7_dropTurn : MethodName := ⟨RX7, "dropTurn", "(I)I"⟩
abbrev cX7_crowd : ByteArray := prog_1_method_11_code
def yX7_crowd : MethodName := ⟨RX7, "crowd", "(Z)I"⟩
abbrev cX7_setTangle : ByteArray := prog_1_method_12_code
def yX7_setTangle : MethodName := ⟨RX7, "setTangle", "(I)I"⟩
abbrev cX7_want : ByteArray := prog_1_method_13_code
def yX7_want : MethodName := ⟨RX7, "want", "()I"⟩
abbrev cX7_type : ByteArray := prog_1_method_14_code
def yX7_type : MethodName := ⟨RX7, "type", "(C)I"⟩
abbrev cX7_clearText : ByteArray := prog_1_method_15_code
def yX7_clearText : MethodName := ⟨RX7, "clearText", "()I"⟩
abbrev cX7_undo : ByteArray := prog_1_method_16_code
def yX7_undo : MethodName := ⟨RX7, "undo", "()I"⟩
abbrev cX7_keep : ByteArray := prog_1_method_17_code
def yX7_keep : MethodName := ⟨RX7, "keep", "()I"⟩
abbrev cX7_restore : ByteArray := prog_1_method_18_code
def yX7_restore : MethodName := ⟨RX7, "restore", "()I"⟩
abbrev cX7_flier : ByteArray := prog_1_method_19_code
def yX7_flier : MethodName := ⟨RX7, "flier", "(II)I"⟩
abbrev cX7_reads : ByteArray := prog_1_method_20_code
def yX7_reads : MethodName := ⟨RX7, "reads", "(I)I"⟩
abbrev cX7_ifTraded : ByteArray := prog_1_method_21_code
def yX7_ifTraded : MethodName := ⟨RX7, "ifTraded", "(II)I"⟩
abbrev cX7_nextTrade : ByteArray := prog_1_method_22_code
def yX7_nextTrade : MethodName := ⟨RX7, "nextTrade", "()I"⟩
abbrev cX7_spelledIn : ByteArray := prog_1_method_23_code
def yX7_spelledIn : MethodName := ⟨RX7, "spelledIn", "()I"⟩
abbrev cX7_turnOf : ByteArray := prog_1_method_24_code
def yX7_turnOf : MethodName := ⟨RX7, "turnOf", "(II)I"⟩
abbrev cX7_tangle : ByteArray := prog_1_method_25_code
def yX7_tangle : MethodName := ⟨RX7, "tangle", "(II)I"⟩
abbrev cX7_count : ByteArray := prog_1_method_26_code
def yX7_count : MethodName := ⟨RX7, "count", "(I)I"⟩
abbrev cX7_readableKites : ByteArray := prog_1_method_27_code
def yX7_readableKites : MethodName := ⟨RX7, "readableKites", "()I"⟩
abbrev cX7_fewestTrades : ByteArray := prog_1_method_28_code
def yX7_fewestTrades : MethodName := ⟨RX7, "fewestTrades", "()I"⟩
abbrev cX7_isSpelled : ByteArray := prog_1_method_29_code
def yX7_isSpelled : MethodName := ⟨RX7, "isSpelled", "(LKiteWords$State;)Z"⟩
abbrev cX7_nextPlace : ByteArray := prog_1_method_30_code
def yX7_nextPlace : MethodName := ⟨RX7, "nextPlace", "(LKiteWords$State;)I"⟩
abbrev cX7_record : ByteArray := prog_1_method_31_code
def yX7_record : MethodName := ⟨RX7, "record", "()V"⟩
abbrev cX7_dropOldest : ByteArray := prog_1_method_32_code
def yX7_dropOldest : MethodName := ⟨RX7, "dropOldest", "()V"⟩
abbrev cX7_rowFault : ByteArray := prog_1_method_33_code
def yX7_rowFault : MethodName := ⟨RX7, "rowFault", "()I"⟩
abbrev cX7_isAllowedInRow : ByteArray := prog_1_method_34_code
def yX7_isAllowedInRow : MethodName := ⟨RX7, "isAllowedInRow", "(CI)Z"⟩
abbrev cX7_wordFault : ByteArray := prog_1_method_35_code
def yX7_wordFault : MethodName := ⟨RX7, "wordFault", "()I"⟩
abbrev cX7_isLetter : ByteArray := prog_1_method_36_code
def yX7_isLetter : MethodName := ⟨RX7, "isLetter", "(C)Z"⟩
abbrev cX7_isWind : ByteArray := prog_1_method_37_code
def yX7_isWind : MethodName := ⟨RX7, "isWind", "(II)Z"⟩
abbrev cX7_isWithin : ByteArray := prog_1_method_38_code
def yX7_isWithin : MethodName := ⟨RX7, "isWithin", "(III)Z"⟩
abbrev cX7_asNumber : ByteArray := prog_1_method_39_code
def yX7_asNumber : MethodName := ⟨RX7, "asNumber", "(Z)I"⟩
abbrev cX7_sideOf : ByteArray := prog_1_method_40_code
def yX7_sideOf : MethodName := ⟨RX7, "sideOf", "(II)I"⟩
def RX8 : String := "KiteWordsModel"
def TX8 : u_T := fun k => match k with
  | 0 => ("KiteWordsModel", "now", "[I", true)
  | 1 => ("KiteWordsModel", "then", "[I", true)
  | 2 => ("KiteWordsModel", "past", "[I", true)
  | 3 => ("KiteWordsModel", "states", "I", false)
  | 4 => ("KiteWordsModel", "snapshot", "[I", true)
  | 5 => ("KiteWordsModel", "isKept", "Z", false)
  | 6 => ("KiteWordsModel", "text", "[C", true)
  | 7 => ("KiteWordsModel", "typed", "I", false)
  | 8 => ("KiteWordsModel", "taken", "[Z", true)
  | 9 => ("KiteWordsModel", "goal", "[I", true)
  | 10 => ("KiteWordsModel", "relations", "[I", true)
  | _ => ("KiteWordsModel", "turned", "[I", true)
def tyX8 : Nat → FieldType := fun k => match k with
  | 0 => .array .int
  | 1 => .array .int
  | 2 => .array .int
  | 3 => .int
  | 4 => .array .int
  | 5 => .boolean
  | 6 => .array .char
  | 7 => .int
  | 8 => .array .boolean
  | 9 => .array .int
  | 10 => .array .int
  | _ => .array .int
abbrev wsX80 : List Cond := u_ws RX8 TX8 12
theorem nmX8 : ∀ a, a < 12 → ∀ b, b < 12 → a ≠ b → (TX8 a).2.1 ≠ (TX8 b).2.1 := by decide +kernel
theorem tyX8_ok : ∀ k, k < 12 → parseFieldDescriptor (TX8 k).2.2.1 = some (tyX8 k) := by decide +kernel
abbrev cX8_init : ByteArray := prog_10_method_1_code
def yX8_init : MethodName := ⟨RX8, "<init>", "()V"⟩
abbrev cX8_in : ByteArray := prog_10_method_3_code
def yX8_in : MethodName := ⟨RX8, "in", "(III)Z"⟩
abbrev cX8_lays : ByteArray := prog_10_method_4_code
def yX8_lays : MethodName := ⟨RX8, "lays", "([II[II)V"⟩
abbrev cX8_records : ByteArray := prog_10_method_5_code
def yX8_records : MethodName := ⟨RX8, "records", "()V"⟩
abbrev cX8_of : ByteArray := prog_10_method_6_code
def yX8_of : MethodName := ⟨RX8, "of", "([III)I"⟩
abbrev cX8_puts : ByteArray := prog_10_method_7_code
def yX8_puts : MethodName := ⟨RX8, "puts", "([IIII)V"⟩
abbrev cX8_isPlace : ByteArray := prog_10_method_8_code
def yX8_isPlace : MethodName := ⟨RX8, "isPlace", "(I)Z"⟩
abbrev cX8_aside : ByteArray := prog_10_method_9_code
def yX8_aside : MethodName := ⟨RX8, "aside", "([II)I"⟩
abbrev cX8_shown : ByteArray := prog_10_method_10_code
def yX8_shown : MethodName := ⟨RX8, "shown", "([II)I"⟩
abbrev cX8_isTangled : ByteArray := prog_10_method_11_code
def yX8_isTangled : MethodName := ⟨RX8, "isTangled", "([II)Z"⟩
abbrev cX8_isRead : ByteArray := prog_10_method_12_code
def yX8_isRead : MethodName := ⟨RX8, "isRead", "([II)Z"⟩
abbrev cX8_readable : ByteArray := prog_10_method_13_code
def yX8_readable : MethodName := ⟨RX8, "readable", "([I)I"⟩
abbrev cX8_ranked : ByteArray := prog_10_method_14_code
def yX8_ranked : MethodName := ⟨RX8, "ranked", "([II)I"⟩
abbrev cX8_isSpelled : ByteArray := prog_10_method_15_code
def yX8_isSpelled : MethodName := ⟨RX8, "isSpelled", "([I)Z"⟩
abbrev cX8_letterAt : ByteArray := prog_10_method_16_code
def yX8_letterAt : MethodName := ⟨RX8, "letterAt", "([II)I"⟩
abbrev cX8_laysGoal : ByteArray := prog_10_method_17_code
def yX8_laysGoal : MethodName := ⟨RX8, "laysGoal", "([I)Z"⟩
abbrev cX8_fewest : ByteArray := prog_10_method_18_code
def yX8_fewest : MethodName := ⟨RX8, "fewest", "([I)I"⟩
abbrev cX8_logs : ByteArray := prog_10_method_19_code
def yX8_logs : MethodName := ⟨RX8, "logs", "([III)V"⟩
abbrev cX8_tangles : ByteArray := prog_10_method_20_code
def yX8_tangles : MethodName := ⟨RX8, "tangles", "([III)V"⟩
abbrev cX8_wouldTangle : ByteArray := prog_10_method_21_code
def yX8_wouldTangle : MethodName := ⟨RX8, "wouldTangle", "([II)Z"⟩
abbrev cX8_swaps : ByteArray := prog_10_method_22_code
def yX8_swaps : MethodName := ⟨RX8, "swaps", "([II)V"⟩
abbrev cX8_relation : ByteArray := prog_10_method_23_code
def yX8_relation : MethodName := ⟨RX8, "relation", "([II)I"⟩
abbrev cX8_blows : ByteArray := prog_10_method_24_code
def yX8_blows : MethodName := ⟨RX8, "blows", "([III)I"⟩
abbrev cX8_dropsTurn : ByteArray := prog_10_method_25_code
def yX8_dropsTurn : MethodName := ⟨RX8, "dropsTurn", "([II)V"⟩
abbrev cX8_minute : ByteArray := prog_10_method_26_code
def yX8_minute : MethodName := ⟨RX8, "minute", "([I)I"⟩
abbrev cX8_trades : ByteArray := prog_10_method_27_code
def yX8_trades : MethodName := ⟨RX8, "trades", "([II)Z"⟩
abbrev cX8_isSafe : ByteArray := prog_10_method_28_code
def yX8_isSafe : MethodName := ⟨RX8, "isSafe", "([II)Z"⟩
abbrev cX8_behind : ByteArray := prog_10_method_29_code
def yX8_behind : MethodName := ⟨RX8, "behind", "([II)I"⟩
abbrev cX8_next : ByteArray := prog_10_method_30_code
def yX8_next : MethodName := ⟨RX8, "next", "([I)I"⟩
abbrev cX8_isRoom : ByteArray := prog_10_method_31_code
def yX8_isRoom : MethodName := ⟨RX8, "isRoom", "(I)Z"⟩
abbrev cX8_comes : ByteArray := prog_10_method_32_code
def yX8_comes : MethodName := ⟨RX8, "comes", "(II)V"⟩
abbrev cX8_come : ByteArray := prog_10_method_33_code
def yX8_come : MethodName := ⟨RX8, "come", "(CI)I"⟩
abbrev cX8_readRow : ByteArray := prog_10_method_34_code
def yX8_readRow : MethodName := ⟨RX8, "readRow", "()I"⟩
abbrev cX8_go : ByteArray := prog_10_method_35_code
def yX8_go : MethodName := ⟨RX8, "go", "(I)I"⟩
abbrev cX8_pay : ByteArray := prog_10_method_36_code
def yX8_pay : MethodName := ⟨RX8, "pay", "(II)I"⟩
abbrev cX8_trade : ByteArray := prog_10_method_37_code
def yX8_trade : MethodName := ⟨RX8, "trade", "(I)I"⟩
abbrev cX8_pass : ByteArray := prog_10_method_38_code
def yX8_pass : MethodName := ⟨RX8, "pass", "(I)I"⟩
abbrev cX8_isWind : ByteArray := prog_10_method_39_code
def yX8_isWind : MethodName := ⟨RX8, "isWind", "(II)Z"⟩
abbrev cX8_wind : ByteArray := prog_10_method_40_code
def yX8_wind : MethodName := ⟨RX8, "wind", "(II)I"⟩
abbrev cX8_turnAt : ByteArray := prog_10_method_41_code
def yX8_turnAt : MethodName := ⟨RX8, "turnAt", "(I)I"⟩
abbrev cX8_planTurn : ByteArray := prog_10_method_42_code
def yX8_planTurn : MethodName := ⟨RX8, "planTurn", "(III)I"⟩
abbrev cX8_dropTurn : ByteArray := prog_10_method_43_code
def yX8_dropTurn : MethodName := ⟨RX8, "dropTurn", "(I)I"⟩
abbrev cX8_crowd : ByteArray := prog_10_method_44_code
def yX8_crowd : MethodName := ⟨RX8, "crowd", "(Z)I"⟩
abbrev cX8_setTangle : ByteArray := prog_10_method_45_code
def yX8_setTangle : MethodName := ⟨RX8, "setTangle", "(I)I"⟩
abbrev cX8_wordFault : ByteArray := prog_10_method_46_code
def yX8_wordFault : MethodName := ⟨RX8, "wordFault", "()I"⟩
abbrev cX8_rowFault : ByteArray := prog_10_method_47_code
def yX8_rowFault : MethodName := ⟨RX8, "rowFault", "()I"⟩
abbrev cX8_isWord : ByteArray := prog_10_method_48_code
def yX8_isWord : MethodName := ⟨RX8, "isWord", "()Z"⟩
abbrev cX8_want : ByteArray := prog_10_method_49_code
def yX8_want : MethodName := ⟨RX8, "want", "()I"⟩
abbrev cX8_type : ByteArray := prog_10_method_50_code
def yX8_type : MethodName := ⟨RX8, "type", "(C)I"⟩
abbrev cX8_clearText : ByteArray := prog_10_method_51_code
def yX8_clearText : MethodName := ⟨RX8, "clearText", "()I"⟩
abbrev cX8_undo : ByteArray := prog_10_method_52_code
def yX8_undo : MethodName := ⟨RX8, "undo", "()I"⟩
abbrev cX8_keep : ByteArray := prog_10_method_53_code
def yX8_keep : MethodName := ⟨RX8, "keep", "()I"⟩
abbrev cX8_restore : ByteArray := prog_10_method_54_code
def yX8_restore : MethodName := ⟨RX8, "restore", "()I"⟩
abbrev cX8_partner : ByteArray := prog_10_method_55_code
def yX8_partner : MethodName := ⟨RX8, "partner", "(I)I"⟩
abbrev cX8_flier : ByteArray := prog_10_method_56_code
def yX8_flier : MethodName := ⟨RX8, "flier", "(II)I"⟩
abbrev cX8_reads : ByteArray := prog_10_method_57_code
def yX8_reads : MethodName := ⟨RX8, "reads", "(I)I"⟩
abbrev cX8_ifTraded : ByteArray := prog_10_method_58_code
def yX8_ifTraded : MethodName := ⟨RX8, "ifTraded", "(II)I"⟩
abbrev cX8_nextTrade : ByteArray := prog_10_method_59_code
def yX8_nextTrade : MethodName := ⟨RX8, "nextTrade", "()I"⟩
abbrev cX8_spelledIn : ByteArray := prog_10_method_60_code
def yX8_spelledIn : MethodName := ⟨RX8, "spelledIn", "()I"⟩
abbrev cX8_turnOf : ByteArray := prog_10_method_61_code
def yX8_turnOf : MethodName := ⟨RX8, "turnOf", "(II)I"⟩
abbrev cX8_tangle : ByteArray := prog_10_method_62_code
def yX8_tangle : MethodName := ⟨RX8, "tangle", "(II)I"⟩
abbrev cX8_count : ByteArray := prog_10_method_63_code
def yX8_count : MethodName := ⟨RX8, "count", "(I)I"⟩
def RJ9 : String := "java/lang/Math"
def TJ9 : u_T := fun k => match k with
  | _ => ("", "", "", false)
def tyJ9 : Nat → FieldType := fun k => match k with
  | _ => .int
abbrev wsJ90 : List Cond := u_ws RJ9 TJ9 0
theorem nmJ9 : ∀ a, a < 0 → ∀ b, b < 0 → a ≠ b → (TJ9 a).2.1 ≠ (TJ9 b).2.1 := by decide +kernel
theorem tyJ9_ok : ∀ k, k < 0 → parseFieldDescriptor (TJ9 k).2.2.1 = some (tyJ9 k) := by decide +kernel
abbrev cJ9_min_7cf53 : ByteArray := prog_11_method_69_code
def yJ9_min_7cf53 : MethodName := ⟨RJ9, "min", "(II)I"⟩
def RJ10 : String := "java/lang/System"
def TJ10 : u_T := fun k => match k with
  | _ => ("", "", "", false)
def tyJ10 : Nat → FieldType := fun k => match k with
  | _ => .int
abbrev wsJ100 : List Cond := u_ws RJ10 TJ10 0
theorem nmJ10 : ∀ a, a < 0 → ∀ b, b < 0 → a ≠ b → (TJ10 a).2.1 ≠ (TJ10 b).2.1 := by decide +kernel
theorem tyJ10_ok : ∀ k, k < 0 → parseFieldDescriptor (TJ10 k).2.2.1 = some (tyJ10 k) := by decide +kernel
def RL : String := "KiteWordsLaw"
abbrev cL_law : ByteArray := code
def yL_law : MethodName := ⟨RL, "law", "([I)Z"⟩
end
section
theorem dX0_init_0 : decode cX0_init 0 = .ok (.aload_n 0, 1) := by decide +kernel
theorem dX0_init_1 : decode cX0_init 1 = .ok (.invokespecial 3, 3) := by decide +kernel
theorem dX0_init_4 : decode cX0_init 4 = .ok (.aload_n 0, 1) := by decide +kernel
theorem dX0_init_5 : decode cX0_init 5 = .ok (.bipush 12, 2) := by decide +kernel
theorem dX0_init_7 : decode cX0_init 7 = .ok (.newarray .int, 2) := by decide +kernel
theorem dX0_init_9 : decode cX0_init 9 = .ok (.putfield 9, 3) := by decide +kernel
theorem dX0_init_12 : decode cX0_init 12 = .ok (.aload_n 0, 1) := by decide +kernel
theorem dX0_init_13 : decode cX0_init 13 = .ok (.iconst 0, 1) := by decide +kernel
theorem dX0_init_14 : decode cX0_init 14 = .ok (.putfield 15, 3) := by decide +kernel
theorem dX0_init_17 : decode cX0_init 17 = .ok (.aload_n 0, 1) := by decide +kernel
theorem dX0_init_18 : decode cX0_init 18 = .ok (.iconst 0, 1) := by decide +kernel
theorem dX0_init_19 : decode cX0_init 19 = .ok (.putfield 19, 3) := by decide +kernel
theorem dX0_init_22 : decode cX0_init 22 = .ok (.aload_n 0, 1) := by decide +kernel
theorem dX0_init_23 : decode cX0_init 23 = .ok (.iconst 0, 1) := by decide +kernel
theorem dX0_init_24 : decode cX0_init 24 = .ok (.putfield 22, 3) := by decide +kernel
theorem dX0_init_27 : decode cX0_init 27 = .ok (.return_, 1) := by decide +kernel
theorem dX0_match_0 : decode cX0_match 0 = .ok (.aload_n 0, 1) := by decide +kernel
theorem dX0_match_1 : decode cX0_match 1 = .ok (.aload_n 1, 1) := by decide +kernel
theorem dX0_match_2 : decode cX0_match 2 = .ok (.getfield 26, 3) := by decide +kernel
theorem dX0_match_5 : decode cX0_match 5 = .ok (.putfield 15, 3) := by decide +kernel
theorem dX0_match_8 : decode cX0_match 8 = .ok (.aload_n 0, 1) := by decide +kernel
theorem dX0_match_9 : decode cX0_match 9 = .ok (.iconst 0, 1) := by decide +kernel
theorem dX0_match_10 : decode cX0_match 10 = .ok (.putfield 22, 3) := by decide +kernel
theorem dX0_match_13 : decode cX0_match 13 = .ok (.aload_n 0, 1) := by decide +kernel
theorem dX0_match_14 : decode cX0_match 14 = .ok (.aload_n 1, 1) := by decide +kernel
theorem dX0_match_15 : decode cX0_match 15 = .ok (.getfield 29, 3) := by decide +kernel
theorem dX0_match_18 : decode cX0_match 18 = .ok (.getfield 33, 3) := by decide +kernel
theorem dX0_match_21 : decode cX0_match 21 = .ok (.ifCond .le 39, 3) := by decide +kernel
theorem dX0_match_24 : decode cX0_match 24 = .ok (.aload_n 1, 1) := by decide +kernel
theorem dX0_match_25 : decode cX0_match 25 = .ok (.getfield 29, 3) := by decide +kernel
theorem dX0_match_28 : decode cX0_match 28 = .ok (.getfield 33, 3) := by decide +kernel
theorem dX0_match_31 : decode cX0_match 31 = .ok (.aload_n 1, 1) := by decide +kernel
theorem dX0_match_32 : decode cX0_match 32 = .ok (.getfield 38, 3) := by decide +kernel
theorem dX0_match_35 : decode cX0_match 35 = .ok (.getfield 42, 3) := by decide +kernel
theorem dX0_match_38 : decode cX0_match 38 = .ok (.if_icmp .ne 22, 3) := by decide +kernel
theorem dX0_match_41 : decode cX0_match 41 = .ok (.aload_n 0, 1) := by decide +kernel
theorem dX0_match_42 : decode cX0_match 42 = .ok (.aload_n 1, 1) := by decide +kernel
theorem dX0_match_43 : decode cX0_match 43 = .ok (.getfield 38, 3) := by decide +kernel
theorem dX0_match_46 : decode cX0_match 46 = .ok (.aload_n 1, 1) := by decide +kernel
theorem dX0_match_47 : decode cX0_match 47 = .ok (.getfield 29, 3) := by decide +kernel
theorem dX0_match_50 : decode cX0_match 50 = .ok (.invokevirtual 45, 3) := by decide +kernel
theorem dX0_match_53 : decode cX0_match 53 = .ok (.ifCond .eq 7, 3) := by decide +kernel
theorem dX0_match_56 : decode cX0_match 56 = .ok (.iconst 1, 1) := by decide +kernel
theorem dX0_match_57 : decode cX0_match 57 = .ok (.goto 4, 3) := by decide +kernel
theorem dX0_match_60 : decode cX0_match 60 = .ok (.iconst 0, 1) := by decide +kernel
theorem dX0_match_61 : decode cX0_match 61 = .ok (.putfield 19, 3) := by decide +kernel
theorem dX0_match_64 : decode cX0_match 64 = .ok (.aload_n 0, 1) := by decide +kernel
theorem dX0_match_65 : decode cX0_match 65 = .ok (.getfield 19, 3) := by decide +kernel
theorem dX0_match_68 : decode cX0_match 68 = .ok (.ifCond .eq 18, 3) := by decide +kernel
theorem dX0_match_71 : decode cX0_match 71 = .ok (.aload_n 0, 1) := by decide +kernel
theorem dX0_match_72 : decode cX0_match 72 = .ok (.aload_n 0, 1) := by decide +kernel
theorem dX0_match_73 : decode cX0_match 73 = .ok (.aload_n 1, 1) := by decide +kernel
theorem dX0_match_74 : decode cX0_match 74 = .ok (.getfield 38, 3) := by decide +kernel
theorem dX0_match_77 : decode cX0_match 77 = .ok (.getfield 42, 3) := by decide +kernel
theorem dX0_match_80 : decode cX0_match 80 = .ok (.invokevirtual 49, 3) := by decide +kernel
theorem dX0_match_83 : decode cX0_match 83 = .ok (.putfield 22, 3) := by decide +kernel
theorem dX0_match_86 : decode cX0_match 86 = .ok (.return_, 1) := by decide +kernel
theorem dX0_findTargets_0 : decode cX0_findTargets 0 = .ok (.iconst 0, 1) := by decide +kernel
theorem dX0_findTargets_1 : decode cX0_findTargets 1 = .ok (.istore_n 3, 1) := by decide +kernel
theorem dX0_findTargets_2 : decode cX0_findTargets 2 = .ok (.iconst 0, 1) := by decide +kernel
theorem dX0_findTargets_3 : decode cX0_findTargets 3 = .ok (.istore 4, 2) := by decide +kernel
theorem dX0_findTargets_5 : decode cX0_findTargets 5 = .ok (.iload 4, 2) := by decide +kernel
theorem dX0_findTargets_7 : decode cX0_findTargets 7 = .ok (.aload_n 1, 1) := by decide +kernel
theorem dX0_findTargets_8 : decode cX0_findTargets 8 = .ok (.getfield 42, 3) := by decide +kernel
theorem dX0_findTargets_11 : decode cX0_findTargets 11 = .ok (.if_icmp .ge 70, 3) := by decide +kernel
theorem dX0_findTargets_14 : decode cX0_findTargets 14 = .ok (.aload_n 0, 1) := by decide +kernel
theorem dX0_findTargets_15 : decode cX0_findTargets 15 = .ok (.getfield 15, 3) := by decide +kernel
theorem dX0_findTargets_18 : decode cX0_findTargets 18 = .ok (.ifCond .eq 15, 3) := by decide +kernel
theorem dX0_findTargets_21 : decode cX0_findTargets 21 = .ok (.aload_n 1, 1) := by decide +kernel
theorem dX0_findTargets_22 : decode cX0_findTargets 22 = .ok (.getfield 42, 3) := by decide +kernel
theorem dX0_findTargets_25 : decode cX0_findTargets 25 = .ok (.iconst 1, 1) := by decide +kernel
theorem dX0_findTargets_26 : decode cX0_findTargets 26 = .ok (.isub, 1) := by decide +kernel
theorem dX0_findTargets_27 : decode cX0_findTargets 27 = .ok (.iload 4, 2) := by decide +kernel
theorem dX0_findTargets_29 : decode cX0_findTargets 29 = .ok (.isub, 1) := by decide +kernel
theorem dX0_findTargets_30 : decode cX0_findTargets 30 = .ok (.goto 5, 3) := by decide +kernel
theorem dX0_findTargets_33 : decode cX0_findTargets 33 = .ok (.iload 4, 2) := by decide +kernel
theorem dX0_findTargets_35 : decode cX0_findTargets 35 = .ok (.istore 5, 2) := by decide +kernel
theorem dX0_findTargets_37 : decode cX0_findTargets 37 = .ok (.aload_n 2, 1) := by decide +kernel
theorem dX0_findTargets_38 : decode cX0_findTargets 38 = .ok (.aload_n 1, 1) := by decide +kernel
theorem dX0_findTargets_39 : decode cX0_findTargets 39 = .ok (.getfield 53, 3) := by decide +kernel
theorem dX0_findTargets_42 : decode cX0_findTargets 42 = .ok (.iload 5, 2) := by decide +kernel
theorem dX0_findTargets_44 : decode cX0_findTargets 44 = .ok (.iaload, 1) := by decide +kernel
theorem dX0_findTargets_45 : decode cX0_findTargets 45 = .ok (.iload_n 3, 1) := by decide +kernel
theorem dX0_findTargets_46 : decode cX0_findTargets 46 = .ok (.invokestatic 56, 3) := by decide +kernel
theorem dX0_findTargets_49 : decode cX0_findTargets 49 = .ok (.istore 6, 2) := by decide +kernel
theorem dX0_findTargets_51 : decode cX0_findTargets 51 = .ok (.iload 6, 2) := by decide +kernel
theorem dX0_findTargets_53 : decode cX0_findTargets 53 = .ok (.iconst (-1), 1) := by decide +kernel
theorem dX0_findTargets_54 : decode cX0_findTargets 54 = .ok (.if_icmp .ne 5, 3) := by decide +kernel
theorem dX0_findTargets_57 : decode cX0_findTargets 57 = .ok (.iconst 0, 1) := by decide +kernel
theorem dX0_findTargets_58 : decode cX0_findTargets 58 = .ok (.ireturn, 1) := by decide +kernel
theorem dX0_findTargets_59 : decode cX0_findTargets 59 = .ok (.iload_n 3, 1) := by decide +kernel
theorem dX0_findTargets_60 : decode cX0_findTargets 60 = .ok (.iconst 1, 1) := by decide +kernel
theorem dX0_findTargets_61 : decode cX0_findTargets 61 = .ok (.iload 6, 2) := by decide +kernel
theorem dX0_findTargets_63 : decode cX0_findTargets 63 = .ok (.ishl, 1) := by decide +kernel
theorem dX0_findTargets_64 : decode cX0_findTargets 64 = .ok (.ior, 1) := by decide +kernel
theorem dX0_findTargets_65 : decode cX0_findTargets 65 = .ok (.istore_n 3, 1) := by decide +kernel
theorem dX0_findTargets_66 : decode cX0_findTargets 66 = .ok (.aload_n 0, 1) := by decide +kernel
theorem dX0_findTargets_67 : decode cX0_findTargets 67 = .ok (.getfield 9, 3) := by decide +kernel
theorem dX0_findTargets_70 : decode cX0_findTargets 70 = .ok (.iload 5, 2) := by decide +kernel
theorem dX0_findTargets_72 : decode cX0_findTargets 72 = .ok (.iload 6, 2) := by decide +kernel
theorem dX0_findTargets_74 : decode cX0_findTargets 74 = .ok (.iastore, 1) := by decide +kernel
theorem dX0_findTargets_75 : decode cX0_findTargets 75 = .ok (.iinc 4 1, 3) := by decide +kernel
theorem dX0_findTargets_78 : decode cX0_findTargets 78 = .ok (.goto (-73), 3) := by decide +kernel
theorem dX0_findTargets_81 : decode cX0_findTargets 81 = .ok (.iconst 1, 1) := by decide +kernel
theorem dX0_findTargets_82 : decode cX0_findTargets 82 = .ok (.ireturn, 1) := by decide +kernel
theorem dX0_firstFree_0 : decode cX0_firstFree 0 = .ok (.iconst 0, 1) := by decide +kernel
theorem dX0_firstFree_1 : decode cX0_firstFree 1 = .ok (.istore_n 3, 1) := by decide +kernel
theorem dX0_firstFree_2 : decode cX0_firstFree 2 = .ok (.iload_n 3, 1) := by decide +kernel
theorem dX0_firstFree_3 : decode cX0_firstFree 3 = .ok (.aload_n 0, 1) := by decide +kernel
theorem dX0_firstFree_4 : decode cX0_firstFree 4 = .ok (.getfield 33, 3) := by decide +kernel
theorem dX0_firstFree_7 : decode cX0_firstFree 7 = .ok (.if_icmp .ge 29, 3) := by decide +kernel
theorem dX0_firstFree_10 : decode cX0_firstFree 10 = .ok (.aload_n 0, 1) := by decide +kernel
theorem dX0_firstFree_11 : decode cX0_firstFree 11 = .ok (.getfield 60, 3) := by decide +kernel
theorem dX0_firstFree_14 : decode cX0_firstFree 14 = .ok (.iload_n 3, 1) := by decide +kernel
theorem dX0_firstFree_15 : decode cX0_firstFree 15 = .ok (.caload, 1) := by decide +kernel
theorem dX0_firstFree_16 : decode cX0_firstFree 16 = .ok (.iload_n 1, 1) := by decide +kernel
theorem dX0_firstFree_17 : decode cX0_firstFree 17 = .ok (.if_icmp .ne 13, 3) := by decide +kernel
theorem dX0_firstFree_20 : decode cX0_firstFree 20 = .ok (.iload_n 2, 1) := by decide +kernel
theorem dX0_firstFree_21 : decode cX0_firstFree 21 = .ok (.iload_n 3, 1) := by decide +kernel
theorem dX0_firstFree_22 : decode cX0_firstFree 22 = .ok (.ishr, 1) := by decide +kernel
theorem dX0_firstFree_23 : decode cX0_firstFree 23 = .ok (.iconst 1, 1) := by decide +kernel
theorem dX0_firstFree_24 : decode cX0_firstFree 24 = .ok (.iand, 1) := by decide +kernel
theorem dX0_firstFree_25 : decode cX0_firstFree 25 = .ok (.ifCond .ne 5, 3) := by decide +kernel
theorem dX0_firstFree_28 : decode cX0_firstFree 28 = .ok (.iload_n 3, 1) := by decide +kernel
theorem dX0_firstFree_29 : decode cX0_firstFree 29 = .ok (.ireturn, 1) := by decide +kernel
theorem dX0_firstFree_30 : decode cX0_firstFree 30 = .ok (.iinc 3 1, 3) := by decide +kernel
theorem dX0_firstFree_33 : decode cX0_firstFree 33 = .ok (.goto (-31), 3) := by decide +kernel
theorem dX0_firstFree_36 : decode cX0_firstFree 36 = .ok (.iconst (-1), 1) := by decide +kernel
theorem dX0_firstFree_37 : decode cX0_firstFree 37 = .ok (.ireturn, 1) := by decide +kernel
theorem dX0_countWrongPairs_0 : decode cX0_countWrongPairs 0 = .ok (.iconst 0, 1) := by decide +kernel
theorem dX0_countWrongPairs_1 : decode cX0_countWrongPairs 1 = .ok (.istore_n 2, 1) := by decide +kernel
theorem dX0_countWrongPairs_2 : decode cX0_countWrongPairs 2 = .ok (.iconst 0, 1) := by decide +kernel
theorem dX0_countWrongPairs_3 : decode cX0_countWrongPairs 3 = .ok (.istore_n 3, 1) := by decide +kernel
theorem dX0_countWrongPairs_4 : decode cX0_countWrongPairs 4 = .ok (.iload_n 3, 1) := by decide +kernel
theorem dX0_countWrongPairs_5 : decode cX0_countWrongPairs 5 = .ok (.iload_n 1, 1) := by decide +kernel
theorem dX0_countWrongPairs_6 : decode cX0_countWrongPairs 6 = .ok (.if_icmp .ge 39, 3) := by decide +kernel
theorem dX0_countWrongPairs_9 : decode cX0_countWrongPairs 9 = .ok (.iload_n 3, 1) := by decide +kernel
theorem dX0_countWrongPairs_10 : decode cX0_countWrongPairs 10 = .ok (.iconst 1, 1) := by decide +kernel
theorem dX0_countWrongPairs_11 : decode cX0_countWrongPairs 11 = .ok (.iadd, 1) := by decide +kernel
theorem dX0_countWrongPairs_12 : decode cX0_countWrongPairs 12 = .ok (.istore 4, 2) := by decide +kernel
theorem dX0_countWrongPairs_14 : decode cX0_countWrongPairs 14 = .ok (.iload 4, 2) := by decide +kernel
theorem dX0_countWrongPairs_16 : decode cX0_countWrongPairs 16 = .ok (.iload_n 1, 1) := by decide +kernel
theorem dX0_countWrongPairs_17 : decode cX0_countWrongPairs 17 = .ok (.if_icmp .ge 22, 3) := by decide +kernel
theorem dX0_countWrongPairs_20 : decode cX0_countWrongPairs 20 = .ok (.aload_n 0, 1) := by decide +kernel
theorem dX0_countWrongPairs_21 : decode cX0_countWrongPairs 21 = .ok (.iload_n 3, 1) := by decide +kernel
theorem dX0_countWrongPairs_22 : decode cX0_countWrongPairs 22 = .ok (.iload 4, 2) := by decide +kernel
theorem dX0_countWrongPairs_24 : decode cX0_countWrongPairs 24 = .ok (.invokevirtual 64, 3) := by decide +kernel
theorem dX0_countWrongPairs_27 : decode cX0_countWrongPairs 27 = .ok (.ifCond .eq 6, 3) := by decide +kernel
theorem dX0_countWrongPairs_30 : decode cX0_countWrongPairs 30 = .ok (.iinc 2 1, 3) := by decide +kernel
theorem dX0_countWrongPairs_33 : decode cX0_countWrongPairs 33 = .ok (.iinc 4 1, 3) := by decide +kernel
theorem dX0_countWrongPairs_36 : decode cX0_countWrongPairs 36 = .ok (.goto (-22), 3) := by decide +kernel
theorem dX0_countWrongPairs_39 : decode cX0_countWrongPairs 39 = .ok (.iinc 3 1, 3) := by decide +kernel
theorem dX0_countWrongPairs_42 : decode cX0_countWrongPairs 42 = .ok (.goto (-38), 3) := by decide +kernel
theorem dX0_countWrongPairs_45 : decode cX0_countWrongPairs 45 = .ok (.iload_n 2, 1) := by decide +kernel
theorem dX0_countWrongPairs_46 : decode cX0_countWrongPairs 46 = .ok (.ireturn, 1) := by decide +kernel
theorem dX0_isWrongPair_0 : decode cX0_isWrongPair 0 = .ok (.aload_n 0, 1) := by decide +kernel
theorem dX0_isWrongPair_1 : decode cX0_isWrongPair 1 = .ok (.getfield 15, 3) := by decide +kernel
theorem dX0_isWrongPair_4 : decode cX0_isWrongPair 4 = .ok (.ifCond .eq 26, 3) := by decide +kernel
theorem dX0_isWrongPair_7 : decode cX0_isWrongPair 7 = .ok (.aload_n 0, 1) := by decide +kernel
theorem dX0_isWrongPair_8 : decode cX0_isWrongPair 8 = .ok (.getfield 9, 3) := by decide +kernel
theorem dX0_isWrongPair_11 : decode cX0_isWrongPair 11 = .ok (.iload_n 1, 1) := by decide +kernel
theorem dX0_isWrongPair_12 : decode cX0_isWrongPair 12 = .ok (.iaload, 1) := by decide +kernel
theorem dX0_isWrongPair_13 : decode cX0_isWrongPair 13 = .ok (.aload_n 0, 1) := by decide +kernel
theorem dX0_isWrongPair_14 : decode cX0_isWrongPair 14 = .ok (.getfield 9, 3) := by decide +kernel
theorem dX0_isWrongPair_17 : decode cX0_isWrongPair 17 = .ok (.iload_n 2, 1) := by decide +kernel
theorem dX0_isWrongPair_18 : decode cX0_isWrongPair 18 = .ok (.iaload, 1) := by decide +kernel
theorem dX0_isWrongPair_19 : decode cX0_isWrongPair 19 = .ok (.if_icmp .ge 7, 3) := by decide +kernel
theorem dX0_isWrongPair_22 : decode cX0_isWrongPair 22 = .ok (.iconst 1, 1) := by decide +kernel
theorem dX0_isWrongPair_23 : decode cX0_isWrongPair 23 = .ok (.goto 27, 3) := by decide +kernel
theorem dX0_isWrongPair_26 : decode cX0_isWrongPair 26 = .ok (.iconst 0, 1) := by decide +kernel
theorem dX0_isWrongPair_27 : decode cX0_isWrongPair 27 = .ok (.goto 23, 3) := by decide +kernel
theorem dX0_isWrongPair_30 : decode cX0_isWrongPair 30 = .ok (.aload_n 0, 1) := by decide +kernel
theorem dX0_isWrongPair_31 : decode cX0_isWrongPair 31 = .ok (.getfield 9, 3) := by decide +kernel
theorem dX0_isWrongPair_34 : decode cX0_isWrongPair 34 = .ok (.iload_n 1, 1) := by decide +kernel
theorem dX0_isWrongPair_35 : decode cX0_isWrongPair 35 = .ok (.iaload, 1) := by decide +kernel
theorem dX0_isWrongPair_36 : decode cX0_isWrongPair 36 = .ok (.aload_n 0, 1) := by decide +kernel
theorem dX0_isWrongPair_37 : decode cX0_isWrongPair 37 = .ok (.getfield 9, 3) := by decide +kernel
theorem dX0_isWrongPair_40 : decode cX0_isWrongPair 40 = .ok (.iload_n 2, 1) := by decide +kernel
theorem dX0_isWrongPair_41 : decode cX0_isWrongPair 41 = .ok (.iaload, 1) := by decide +kernel
theorem dX0_isWrongPair_42 : decode cX0_isWrongPair 42 = .ok (.if_icmp .le 7, 3) := by decide +kernel
theorem dX0_isWrongPair_45 : decode cX0_isWrongPair 45 = .ok (.iconst 1, 1) := by decide +kernel
theorem dX0_isWrongPair_46 : decode cX0_isWrongPair 46 = .ok (.goto 4, 3) := by decide +kernel
theorem dX0_isWrongPair_49 : decode cX0_isWrongPair 49 = .ok (.iconst 0, 1) := by decide +kernel
theorem dX0_isWrongPair_50 : decode cX0_isWrongPair 50 = .ok (.ireturn, 1) := by decide +kernel
theorem dX0_isGood_0 : decode cX0_isGood 0 = .ok (.aload_n 0, 1) := by decide +kernel
theorem dX0_isGood_1 : decode cX0_isGood 1 = .ok (.iload_n 1, 1) := by decide +kernel
theorem dX0_isGood_2 : decode cX0_isGood 2 = .ok (.iload_n 1, 1) := by decide +kernel
theorem dX0_isGood_3 : decode cX0_isGood 3 = .ok (.iconst 1, 1) := by decide +kernel
theorem dX0_isGood_4 : decode cX0_isGood 4 = .ok (.iadd, 1) := by decide +kernel
theorem dX0_isGood_5 : decode cX0_isGood 5 = .ok (.invokevirtual 64, 3) := by decide +kernel
theorem dX0_isGood_8 : decode cX0_isGood 8 = .ok (.ireturn, 1) := by decide +kernel
theorem dX0_fewestBehind_0 : decode cX0_fewestBehind 0 = .ok (.aload_n 1, 1) := by decide +kernel
theorem dX0_fewestBehind_1 : decode cX0_fewestBehind 1 = .ok (.getfield 53, 3) := by decide +kernel
theorem dX0_fewestBehind_4 : decode cX0_fewestBehind 4 = .ok (.iload_n 2, 1) := by decide +kernel
theorem dX0_fewestBehind_5 : decode cX0_fewestBehind 5 = .ok (.iaload, 1) := by decide +kernel
theorem dX0_fewestBehind_6 : decode cX0_fewestBehind 6 = .ok (.aload_n 1, 1) := by decide +kernel
theorem dX0_fewestBehind_7 : decode cX0_fewestBehind 7 = .ok (.getfield 53, 3) := by decide +kernel
theorem dX0_fewestBehind_10 : decode cX0_fewestBehind 10 = .ok (.iload_n 2, 1) := by decide +kernel
theorem dX0_fewestBehind_11 : decode cX0_fewestBehind 11 = .ok (.iconst 1, 1) := by decide +kernel
theorem dX0_fewestBehind_12 : decode cX0_fewestBehind 12 = .ok (.iadd, 1) := by decide +kernel
theorem dX0_fewestBehind_13 : decode cX0_fewestBehind 13 = .ok (.iaload, 1) := by decide +kernel
theorem dX0_fewestBehind_14 : decode cX0_fewestBehind 14 = .ok (.if_icmp .ne 8, 3) := by decide +kernel
theorem dX0_fewestBehind_17 : decode cX0_fewestBehind 17 = .ok (.aload_n 0, 1) := by decide +kernel
theorem dX0_fewestBehind_18 : decode cX0_fewestBehind 18 = .ok (.getfield 22, 3) := by decide +kernel
theorem dX0_fewestBehind_21 : decode cX0_fewestBehind 21 = .ok (.ireturn, 1) := by decide +kernel
theorem dX0_fewestBehind_22 : decode cX0_fewestBehind 22 = .ok (.aload_n 0, 1) := by decide +kernel
theorem dX0_fewestBehind_23 : decode cX0_fewestBehind 23 = .ok (.iload_n 2, 1) := by decide +kernel
theorem dX0_fewestBehind_24 : decode cX0_fewestBehind 24 = .ok (.invokevirtual 68, 3) := by decide +kernel
theorem dX0_fewestBehind_27 : decode cX0_fewestBehind 27 = .ok (.ifCond .eq 12, 3) := by decide +kernel
theorem dX0_fewestBehind_30 : decode cX0_fewestBehind 30 = .ok (.aload_n 0, 1) := by decide +kernel
theorem dX0_fewestBehind_31 : decode cX0_fewestBehind 31 = .ok (.getfield 22, 3) := by decide +kernel
theorem dX0_fewestBehind_34 : decode cX0_fewestBehind 34 = .ok (.iconst 1, 1) := by decide +kernel
theorem dX0_fewestBehind_35 : decode cX0_fewestBehind 35 = .ok (.isub, 1) := by decide +kernel
theorem dX0_fewestBehind_36 : decode cX0_fewestBehind 36 = .ok (.goto 9, 3) := by decide +kernel
theorem dX0_fewestBehind_39 : decode cX0_fewestBehind 39 = .ok (.aload_n 0, 1) := by decide +kernel
theorem dX0_fewestBehind_40 : decode cX0_fewestBehind 40 = .ok (.getfield 22, 3) := by decide +kernel
theorem dX0_fewestBehind_43 : decode cX0_fewestBehind 43 = .ok (.iconst 1, 1) := by decide +kernel
theorem dX0_fewestBehind_44 : decode cX0_fewestBehind 44 = .ok (.iadd, 1) := by decide +kernel
theorem dX0_fewestBehind_45 : decode cX0_fewestBehind 45 = .ok (.ireturn, 1) := by decide +kernel
theorem dX1_init_0 : decode cX1_init 0 = .ok (.aload_n 0, 1) := by decide +kernel
theorem dX1_init_1 : decode cX1_init 1 = .ok (.invokespecial 3, 3) := by decide +kernel
theorem dX1_init_4 : decode cX1_init 4 = .ok (.aload_n 0, 1) := by decide +kernel
theorem dX1_init_5 : decode cX1_init 5 = .ok (.bipush 8, 2) := by decide +kernel
theorem dX1_init_7 : decode cX1_init 7 = .ok (.newarray .int, 2) := by decide +kernel
theorem dX1_init_9 : decode cX1_init 9 = .ok (.putfield 9, 3) := by decide +kernel
theorem dX1_init_12 : decode cX1_init 12 = .ok (.aload_n 0, 1) := by decide +kernel
theorem dX1_init_13 : decode cX1_init 13 = .ok (.bipush 8, 2) := by decide +kernel
theorem dX1_init_15 : decode cX1_init 15 = .ok (.newarray .int, 2) := by decide +kernel
theorem dX1_init_17 : decode cX1_init 17 = .ok (.putfield 15, 3) := by decide +kernel
theorem dX1_init_20 : decode cX1_init 20 = .ok (.aload_n 0, 1) := by decide +kernel
theorem dX1_init_21 : decode cX1_init 21 = .ok (.bipush 8, 2) := by decide +kernel
theorem dX1_init_23 : decode cX1_init 23 = .ok (.newarray .int, 2) := by decide +kernel
theorem dX1_init_25 : decode cX1_init 25 = .ok (.putfield 18, 3) := by decide +kernel
theorem dX1_init_28 : decode cX1_init 28 = .ok (.aload_n 0, 1) := by decide +kernel
theorem dX1_init_29 : decode cX1_init 29 = .ok (.iconst 0, 1) := by decide +kernel
theorem dX1_init_30 : decode cX1_init 30 = .ok (.putfield 21, 3) := by decide +kernel
theorem dX1_init_33 : decode cX1_init 33 = .ok (.return_, 1) := by decide +kernel
theorem dX1_copyFrom_0 : decode cX1_copyFrom 0 = .ok (.aload_n 1, 1) := by decide +kernel
theorem dX1_copyFrom_1 : decode cX1_copyFrom 1 = .ok (.getfield 9, 3) := by decide +kernel
theorem dX1_copyFrom_4 : decode cX1_copyFrom 4 = .ok (.iconst 0, 1) := by decide +kernel
theorem dX1_copyFrom_5 : decode cX1_copyFrom 5 = .ok (.aload_n 0, 1) := by decide +kernel
theorem dX1_copyFrom_6 : decode cX1_copyFrom 6 = .ok (.getfield 9, 3) := by decide +kernel
theorem dX1_copyFrom_9 : decode cX1_copyFrom 9 = .ok (.iconst 0, 1) := by decide +kernel
theorem dX1_copyFrom_10 : decode cX1_copyFrom 10 = .ok (.bipush 8, 2) := by decide +kernel
theorem dX1_copyFrom_12 : decode cX1_copyFrom 12 = .ok (.invokestatic 25, 3) := by decide +kernel
theorem dX1_copyFrom_15 : decode cX1_copyFrom 15 = .ok (.aload_n 1, 1) := by decide +kernel
theorem dX1_copyFrom_16 : decode cX1_copyFrom 16 = .ok (.getfield 15, 3) := by decide +kernel
theorem dX1_copyFrom_19 : decode cX1_copyFrom 19 = .ok (.iconst 0, 1) := by decide +kernel
theorem dX1_copyFrom_20 : decode cX1_copyFrom 20 = .ok (.aload_n 0, 1) := by decide +kernel
theorem dX1_copyFrom_21 : decode cX1_copyFrom 21 = .ok (.getfield 15, 3) := by decide +kernel
theorem dX1_copyFrom_24 : decode cX1_copyFrom 24 = .ok (.iconst 0, 1) := by decide +kernel
theorem dX1_copyFrom_25 : decode cX1_copyFrom 25 = .ok (.bipush 8, 2) := by decide +kernel
theorem dX1_copyFrom_27 : decode cX1_copyFrom 27 = .ok (.invokestatic 25, 3) := by decide +kernel
theorem dX1_copyFrom_30 : decode cX1_copyFrom 30 = .ok (.aload_n 1, 1) := by decide +kernel
theorem dX1_copyFrom_31 : decode cX1_copyFrom 31 = .ok (.getfield 18, 3) := by decide +kernel
theorem dX1_copyFrom_34 : decode cX1_copyFrom 34 = .ok (.iconst 0, 1) := by decide +kernel
theorem dX1_copyFrom_35 : decode cX1_copyFrom 35 = .ok (.aload_n 0, 1) := by decide +kernel
theorem dX1_copyFrom_36 : decode cX1_copyFrom 36 = .ok (.getfield 18, 3) := by decide +kernel
theorem dX1_copyFrom_39 : decode cX1_copyFrom 39 = .ok (.iconst 0, 1) := by decide +kernel
theorem dX1_copyFrom_40 : decode cX1_copyFrom 40 = .ok (.bipush 8, 2) := by decide +kernel
theorem dX1_copyFrom_42 : decode cX1_copyFrom 42 = .ok (.invokestatic 25, 3) := by decide +kernel
theorem dX1_copyFrom_45 : decode cX1_copyFrom 45 = .ok (.aload_n 0, 1) := by decide +kernel
theorem dX1_copyFrom_46 : decode cX1_copyFrom 46 = .ok (.aload_n 1, 1) := by decide +kernel
theorem dX1_copyFrom_47 : decode cX1_copyFrom 47 = .ok (.getfield 21, 3) := by decide +kernel
theorem dX1_copyFrom_50 : decode cX1_copyFrom 50 = .ok (.putfield 21, 3) := by decide +kernel
theorem dX1_copyFrom_53 : decode cX1_copyFrom 53 = .ok (.return_, 1) := by decide +kernel
theorem dX1_rankOf_0 : decode cX1_rankOf 0 = .ok (.iconst 0, 1) := by decide +kernel
theorem dX1_rankOf_1 : decode cX1_rankOf 1 = .ok (.istore_n 2, 1) := by decide +kernel
theorem dX1_rankOf_2 : decode cX1_rankOf 2 = .ok (.iload_n 2, 1) := by decide +kernel
theorem dX1_rankOf_3 : decode cX1_rankOf 3 = .ok (.aload_n 0, 1) := by decide +kernel
theorem dX1_rankOf_4 : decode cX1_rankOf 4 = .ok (.getfield 21, 3) := by decide +kernel
theorem dX1_rankOf_7 : decode cX1_rankOf 7 = .ok (.if_icmp .ge 21, 3) := by decide +kernel
theorem dX1_rankOf_10 : decode cX1_rankOf 10 = .ok (.aload_n 0, 1) := by decide +kernel
theorem dX1_rankOf_11 : decode cX1_rankOf 11 = .ok (.getfield 9, 3) := by decide +kernel
theorem dX1_rankOf_14 : decode cX1_rankOf 14 = .ok (.iload_n 2, 1) := by decide +kernel
theorem dX1_rankOf_15 : decode cX1_rankOf 15 = .ok (.iaload, 1) := by decide +kernel
theorem dX1_rankOf_16 : decode cX1_rankOf 16 = .ok (.iload_n 1, 1) := by decide +kernel
theorem dX1_rankOf_17 : decode cX1_rankOf 17 = .ok (.if_icmp .ne 5, 3) := by decide +kernel
theorem dX1_rankOf_20 : decode cX1_rankOf 20 = .ok (.iload_n 2, 1) := by decide +kernel
theorem dX1_rankOf_21 : decode cX1_rankOf 21 = .ok (.ireturn, 1) := by decide +kernel
theorem dX1_rankOf_22 : decode cX1_rankOf 22 = .ok (.iinc 2 1, 3) := by decide +kernel
theorem dX1_rankOf_25 : decode cX1_rankOf 25 = .ok (.goto (-23), 3) := by decide +kernel
theorem dX1_rankOf_28 : decode cX1_rankOf 28 = .ok (.iconst (-1), 1) := by decide +kernel
theorem dX1_rankOf_29 : decode cX1_rankOf 29 = .ok (.ireturn, 1) := by decide +kernel
theorem dX1_insert_0 : decode cX1_insert 0 = .ok (.aload_n 0, 1) := by decide +kernel
theorem dX1_insert_1 : decode cX1_insert 1 = .ok (.getfield 21, 3) := by decide +kernel
theorem dX1_insert_4 : decode cX1_insert 4 = .ok (.bipush 8, 2) := by decide +kernel
theorem dX1_insert_6 : decode cX1_insert 6 = .ok (.if_icmp .lt 4, 3) := by decide +kernel
theorem dX1_insert_9 : decode cX1_insert 9 = .ok (.return_, 1) := by decide +kernel
theorem dX1_insert_10 : decode cX1_insert 10 = .ok (.aload_n 0, 1) := by decide +kernel
theorem dX1_insert_11 : decode cX1_insert 11 = .ok (.getfield 21, 3) := by decide +kernel
theorem dX1_insert_14 : decode cX1_insert 14 = .ok (.istore 4, 2) := by decide +kernel
theorem dX1_insert_16 : decode cX1_insert 16 = .ok (.iload 4, 2) := by decide +kernel
theorem dX1_insert_18 : decode cX1_insert 18 = .ok (.ifCond .le 32, 3) := by decide +kernel
theorem dX1_insert_21 : decode cX1_insert 21 = .ok (.aload_n 0, 1) := by decide +kernel
theorem dX1_insert_22 : decode cX1_insert 22 = .ok (.getfield 9, 3) := by decide +kernel
theorem dX1_insert_25 : decode cX1_insert 25 = .ok (.iload 4, 2) := by decide +kernel
theorem dX1_insert_27 : decode cX1_insert 27 = .ok (.iconst 1, 1) := by decide +kernel
theorem dX1_insert_28 : decode cX1_insert 28 = .ok (.isub, 1) := by decide +kernel
theorem dX1_insert_29 : decode cX1_insert 29 = .ok (.iaload, 1) := by decide +kernel
theorem dX1_insert_30 : decode cX1_insert 30 = .ok (.iload_n 1, 1) := by decide +kernel
theorem dX1_insert_31 : decode cX1_insert 31 = .ok (.if_icmp .le 19, 3) := by decide +kernel
theorem dX1_insert_34 : decode cX1_insert 34 = .ok (.aload_n 0, 1) := by decide +kernel
theorem dX1_insert_35 : decode cX1_insert 35 = .ok (.iload 4, 2) := by decide +kernel
theorem dX1_insert_37 : decode cX1_insert 37 = .ok (.iconst 1, 1) := by decide +kernel
theorem dX1_insert_38 : decode cX1_insert 38 = .ok (.isub, 1) := by decide +kernel
theorem dX1_insert_39 : decode cX1_insert 39 = .ok (.iload 4, 2) := by decide +kernel
theorem dX1_insert_41 : decode cX1_insert 41 = .ok (.invokevirtual 31, 3) := by decide +kernel
theorem dX1_insert_44 : decode cX1_insert 44 = .ok (.iinc 4 (-1), 3) := by decide +kernel
theorem dX1_insert_47 : decode cX1_insert 47 = .ok (.goto (-31), 3) := by decide +kernel
theorem dX1_insert_50 : decode cX1_insert 50 = .ok (.aload_n 0, 1) := by decide +kernel
theorem dX1_insert_51 : decode cX1_insert 51 = .ok (.getfield 9, 3) := by decide +kernel
theorem dX1_insert_54 : decode cX1_insert 54 = .ok (.iload 4, 2) := by decide +kernel
theorem dX1_insert_56 : decode cX1_insert 56 = .ok (.iload_n 1, 1) := by decide +kernel
theorem dX1_insert_57 : decode cX1_insert 57 = .ok (.iastore, 1) := by decide +kernel
theorem dX1_insert_58 : decode cX1_insert 58 = .ok (.aload_n 0, 1) := by decide +kernel
theorem dX1_insert_59 : decode cX1_insert 59 = .ok (.getfield 15, 3) := by decide +kernel
theorem dX1_insert_62 : decode cX1_insert 62 = .ok (.iload 4, 2) := by decide +kernel
theorem dX1_insert_64 : decode cX1_insert 64 = .ok (.iload_n 2, 1) := by decide +kernel
theorem dX1_insert_65 : decode cX1_insert 65 = .ok (.iastore, 1) := by decide +kernel
theorem dX1_insert_66 : decode cX1_insert 66 = .ok (.aload_n 0, 1) := by decide +kernel
theorem dX1_insert_67 : decode cX1_insert 67 = .ok (.getfield 18, 3) := by decide +kernel
theorem dX1_insert_70 : decode cX1_insert 70 = .ok (.iload 4, 2) := by decide +kernel
theorem dX1_insert_72 : decode cX1_insert 72 = .ok (.iload_n 3, 1) := by decide +kernel
theorem dX1_insert_73 : decode cX1_insert 73 = .ok (.iastore, 1) := by decide +kernel
theorem dX1_insert_74 : decode cX1_insert 74 = .ok (.aload_n 0, 1) := by decide +kernel
theorem dX1_insert_75 : decode cX1_insert 75 = .ok (.dup, 1) := by decide +kernel
theorem dX1_insert_76 : decode cX1_insert 76 = .ok (.getfield 21, 3) := by decide +kernel
theorem dX1_insert_79 : decode cX1_insert 79 = .ok (.iconst 1, 1) := by decide +kernel
theorem dX1_insert_80 : decode cX1_insert 80 = .ok (.iadd, 1) := by decide +kernel
theorem dX1_insert_81 : decode cX1_insert 81 = .ok (.putfield 21, 3) := by decide +kernel
theorem dX1_insert_84 : decode cX1_insert 84 = .ok (.return_, 1) := by decide +kernel
theorem dX1_remove_0 : decode cX1_remove 0 = .ok (.iload_n 1, 1) := by decide +kernel
theorem dX1_remove_1 : decode cX1_remove 1 = .ok (.istore_n 2, 1) := by decide +kernel
theorem dX1_remove_2 : decode cX1_remove 2 = .ok (.iload_n 2, 1) := by decide +kernel
theorem dX1_remove_3 : decode cX1_remove 3 = .ok (.aload_n 0, 1) := by decide +kernel
theorem dX1_remove_4 : decode cX1_remove 4 = .ok (.getfield 21, 3) := by decide +kernel
theorem dX1_remove_7 : decode cX1_remove 7 = .ok (.iconst 1, 1) := by decide +kernel
theorem dX1_remove_8 : decode cX1_remove 8 = .ok (.isub, 1) := by decide +kernel
theorem dX1_remove_9 : decode cX1_remove 9 = .ok (.if_icmp .ge 17, 3) := by decide +kernel
theorem dX1_remove_12 : decode cX1_remove 12 = .ok (.aload_n 0, 1) := by decide +kernel
theorem dX1_remove_13 : decode cX1_remove 13 = .ok (.iload_n 2, 1) := by decide +kernel
theorem dX1_remove_14 : decode cX1_remove 14 = .ok (.iconst 1, 1) := by decide +kernel
theorem dX1_remove_15 : decode cX1_remove 15 = .ok (.iadd, 1) := by decide +kernel
theorem dX1_remove_16 : decode cX1_remove 16 = .ok (.iload_n 2, 1) := by decide +kernel
theorem dX1_remove_17 : decode cX1_remove 17 = .ok (.invokevirtual 31, 3) := by decide +kernel
theorem dX1_remove_20 : decode cX1_remove 20 = .ok (.iinc 2 1, 3) := by decide +kernel
theorem dX1_remove_23 : decode cX1_remove 23 = .ok (.goto (-21), 3) := by decide +kernel
theorem dX1_remove_26 : decode cX1_remove 26 = .ok (.aload_n 0, 1) := by decide +kernel
theorem dX1_remove_27 : decode cX1_remove 27 = .ok (.dup, 1) := by decide +kernel
theorem dX1_remove_28 : decode cX1_remove 28 = .ok (.getfield 21, 3) := by decide +kernel
theorem dX1_remove_31 : decode cX1_remove 31 = .ok (.iconst 1, 1) := by decide +kernel
theorem dX1_remove_32 : decode cX1_remove 32 = .ok (.isub, 1) := by decide +kernel
theorem dX1_remove_33 : decode cX1_remove 33 = .ok (.putfield 21, 3) := by decide +kernel
theorem dX1_remove_36 : decode cX1_remove 36 = .ok (.return_, 1) := by decide +kernel
theorem dX1_move_0 : decode cX1_move 0 = .ok (.aload_n 0, 1) := by decide +kernel
theorem dX1_move_1 : decode cX1_move 1 = .ok (.getfield 9, 3) := by decide +kernel
theorem dX1_move_4 : decode cX1_move 4 = .ok (.iload_n 2, 1) := by decide +kernel
theorem dX1_move_5 : decode cX1_move 5 = .ok (.aload_n 0, 1) := by decide +kernel
theorem dX1_move_6 : decode cX1_move 6 = .ok (.getfield 9, 3) := by decide +kernel
theorem dX1_move_9 : decode cX1_move 9 = .ok (.iload_n 1, 1) := by decide +kernel
theorem dX1_move_10 : decode cX1_move 10 = .ok (.iaload, 1) := by decide +kernel
theorem dX1_move_11 : decode cX1_move 11 = .ok (.iastore, 1) := by decide +kernel
theorem dX1_move_12 : decode cX1_move 12 = .ok (.aload_n 0, 1) := by decide +kernel
theorem dX1_move_13 : decode cX1_move 13 = .ok (.getfield 15, 3) := by decide +kernel
theorem dX1_move_16 : decode cX1_move 16 = .ok (.iload_n 2, 1) := by decide +kernel
theorem dX1_move_17 : decode cX1_move 17 = .ok (.aload_n 0, 1) := by decide +kernel
theorem dX1_move_18 : decode cX1_move 18 = .ok (.getfield 15, 3) := by decide +kernel
theorem dX1_move_21 : decode cX1_move 21 = .ok (.iload_n 1, 1) := by decide +kernel
theorem dX1_move_22 : decode cX1_move 22 = .ok (.iaload, 1) := by decide +kernel
theorem dX1_move_23 : decode cX1_move 23 = .ok (.iastore, 1) := by decide +kernel
theorem dX1_move_24 : decode cX1_move 24 = .ok (.aload_n 0, 1) := by decide +kernel
theorem dX1_move_25 : decode cX1_move 25 = .ok (.getfield 18, 3) := by decide +kernel
theorem dX1_move_28 : decode cX1_move 28 = .ok (.iload_n 2, 1) := by decide +kernel
theorem dX1_move_29 : decode cX1_move 29 = .ok (.aload_n 0, 1) := by decide +kernel
theorem dX1_move_30 : decode cX1_move 30 = .ok (.getfield 18, 3) := by decide +kernel
theorem dX1_move_33 : decode cX1_move 33 = .ok (.iload_n 1, 1) := by decide +kernel
theorem dX1_move_34 : decode cX1_move 34 = .ok (.iaload, 1) := by decide +kernel
theorem dX1_move_35 : decode cX1_move 35 = .ok (.iastore, 1) := by decide +kernel
theorem dX1_move_36 : decode cX1_move 36 = .ok (.return_, 1) := by decide +kernel
theorem dX2_init_0 : decode cX2_init 0 = .ok (.aload_n 0, 1) := by decide +kernel
theorem dX2_init_1 : decode cX2_init 1 = .ok (.invokespecial 3, 3) := by decide +kernel
theorem dX2_init_4 : decode cX2_init 4 = .ok (.aload_n 0, 1) := by decide +kernel
theorem dX2_init_5 : decode cX2_init 5 = .ok (.bipush 12, 2) := by decide +kernel
theorem dX2_init_7 : decode cX2_init 7 = .ok (.newarray .int, 2) := by decide +kernel
theorem dX2_init_9 : decode cX2_init 9 = .ok (.putfield 9, 3) := by decide +kernel
theorem dX2_init_12 : decode cX2_init 12 = .ok (.aload_n 0, 1) := by decide +kernel
theorem dX2_init_13 : decode cX2_init 13 = .ok (.iconst 0, 1) := by decide +kernel
theorem dX2_init_14 : decode cX2_init 14 = .ok (.putfield 15, 3) := by decide +kernel
theorem dX2_init_17 : decode cX2_init 17 = .ok (.return_, 1) := by decide +kernel
theorem dX2_look_0 : decode cX2_look 0 = .ok (.aload_n 1, 1) := by decide +kernel
theorem dX2_look_1 : decode cX2_look 1 = .ok (.invokevirtual 19, 3) := by decide +kernel
theorem dX2_look_4 : decode cX2_look 4 = .ok (.istore_n 2, 1) := by decide +kernel
theorem dX2_look_5 : decode cX2_look 5 = .ok (.aload_n 0, 1) := by decide +kernel
theorem dX2_look_6 : decode cX2_look 6 = .ok (.iconst 0, 1) := by decide +kernel
theorem dX2_look_7 : decode cX2_look 7 = .ok (.putfield 15, 3) := by decide +kernel
theorem dX2_look_10 : decode cX2_look 10 = .ok (.iconst 0, 1) := by decide +kernel
theorem dX2_look_11 : decode cX2_look 11 = .ok (.istore_n 3, 1) := by decide +kernel
theorem dX2_look_12 : decode cX2_look 12 = .ok (.iload_n 3, 1) := by decide +kernel
theorem dX2_look_13 : decode cX2_look 13 = .ok (.aload_n 1, 1) := by decide +kernel
theorem dX2_look_14 : decode cX2_look 14 = .ok (.getfield 25, 3) := by decide +kernel
theorem dX2_look_17 : decode cX2_look 17 = .ok (.getfield 29, 3) := by decide +kernel
theorem dX2_look_20 : decode cX2_look 20 = .ok (.if_icmp .ge 28, 3) := by decide +kernel
theorem dX2_look_23 : decode cX2_look 23 = .ok (.aload_n 1, 1) := by decide +kernel
theorem dX2_look_24 : decode cX2_look 24 = .ok (.getfield 25, 3) := by decide +kernel
theorem dX2_look_27 : decode cX2_look 27 = .ok (.iload_n 3, 1) := by decide +kernel
theorem dX2_look_28 : decode cX2_look 28 = .ok (.iload_n 2, 1) := by decide +kernel
theorem dX2_look_29 : decode cX2_look 29 = .ok (.invokevirtual 32, 3) := by decide +kernel
theorem dX2_look_32 : decode cX2_look 32 = .ok (.ifCond .eq 10, 3) := by decide +kernel
theorem dX2_look_35 : decode cX2_look 35 = .ok (.aload_n 0, 1) := by decide +kernel
theorem dX2_look_36 : decode cX2_look 36 = .ok (.aload_n 1, 1) := by decide +kernel
theorem dX2_look_37 : decode cX2_look 37 = .ok (.iload_n 3, 1) := by decide +kernel
theorem dX2_look_38 : decode cX2_look 38 = .ok (.iload_n 2, 1) := by decide +kernel
theorem dX2_look_39 : decode cX2_look 39 = .ok (.invokevirtual 36, 3) := by decide +kernel
theorem dX2_look_42 : decode cX2_look 42 = .ok (.iinc 3 1, 3) := by decide +kernel
theorem dX2_look_45 : decode cX2_look 45 = .ok (.goto (-33), 3) := by decide +kernel
theorem dX2_look_48 : decode cX2_look 48 = .ok (.return_, 1) := by decide +kernel
theorem dX2_insert_0 : decode cX2_insert 0 = .ok (.aload_n 1, 1) := by decide +kernel
theorem dX2_insert_1 : decode cX2_insert 1 = .ok (.getfield 25, 3) := by decide +kernel
theorem dX2_insert_4 : decode cX2_insert 4 = .ok (.iload_n 2, 1) := by decide +kernel
theorem dX2_insert_5 : decode cX2_insert 5 = .ok (.iload_n 3, 1) := by decide +kernel
theorem dX2_insert_6 : decode cX2_insert 6 = .ok (.invokevirtual 40, 3) := by decide +kernel
theorem dX2_insert_9 : decode cX2_insert 9 = .ok (.istore 4, 2) := by decide +kernel
theorem dX2_insert_11 : decode cX2_insert 11 = .ok (.aload_n 0, 1) := by decide +kernel
theorem dX2_insert_12 : decode cX2_insert 12 = .ok (.getfield 15, 3) := by decide +kernel
theorem dX2_insert_15 : decode cX2_insert 15 = .ok (.istore 5, 2) := by decide +kernel
theorem dX2_insert_17 : decode cX2_insert 17 = .ok (.iload 5, 2) := by decide +kernel
theorem dX2_insert_19 : decode cX2_insert 19 = .ok (.ifCond .le 66, 3) := by decide +kernel
theorem dX2_insert_22 : decode cX2_insert 22 = .ok (.iload 4, 2) := by decide +kernel
theorem dX2_insert_24 : decode cX2_insert 24 = .ok (.aload_n 1, 1) := by decide +kernel
theorem dX2_insert_25 : decode cX2_insert 25 = .ok (.getfield 25, 3) := by decide +kernel
theorem dX2_insert_28 : decode cX2_insert 28 = .ok (.aload_n 0, 1) := by decide +kernel
theorem dX2_insert_29 : decode cX2_insert 29 = .ok (.getfield 9, 3) := by decide +kernel
theorem dX2_insert_32 : decode cX2_insert 32 = .ok (.iload 5, 2) := by decide +kernel
theorem dX2_insert_34 : decode cX2_insert 34 = .ok (.iconst 1, 1) := by decide +kernel
theorem dX2_insert_35 : decode cX2_insert 35 = .ok (.isub, 1) := by decide +kernel
theorem dX2_insert_36 : decode cX2_insert 36 = .ok (.iaload, 1) := by decide +kernel
theorem dX2_insert_37 : decode cX2_insert 37 = .ok (.iload_n 3, 1) := by decide +kernel
theorem dX2_insert_38 : decode cX2_insert 38 = .ok (.invokevirtual 40, 3) := by decide +kernel
theorem dX2_insert_41 : decode cX2_insert 41 = .ok (.if_icmp .ge 7, 3) := by decide +kernel
theorem dX2_insert_44 : decode cX2_insert 44 = .ok (.iconst 1, 1) := by decide +kernel
theorem dX2_insert_45 : decode cX2_insert 45 = .ok (.goto 4, 3) := by decide +kernel
theorem dX2_insert_48 : decode cX2_insert 48 = .ok (.iconst 0, 1) := by decide +kernel
theorem dX2_insert_49 : decode cX2_insert 49 = .ok (.istore 6, 2) := by decide +kernel
theorem dX2_insert_51 : decode cX2_insert 51 = .ok (.iload 6, 2) := by decide +kernel
theorem dX2_insert_53 : decode cX2_insert 53 = .ok (.aload_n 1, 1) := by decide +kernel
theorem dX2_insert_54 : decode cX2_insert 54 = .ok (.getfield 44, 3) := by decide +kernel
theorem dX2_insert_57 : decode cX2_insert 57 = .ok (.if_icmp .ne 6, 3) := by decide +kernel
theorem dX2_insert_60 : decode cX2_insert 60 = .ok (.goto 25, 3) := by decide +kernel
theorem dX2_insert_63 : decode cX2_insert 63 = .ok (.aload_n 0, 1) := by decide +kernel
theorem dX2_insert_64 : decode cX2_insert 64 = .ok (.getfield 9, 3) := by decide +kernel
theorem dX2_insert_67 : decode cX2_insert 67 = .ok (.iload 5, 2) := by decide +kernel
theorem dX2_insert_69 : decode cX2_insert 69 = .ok (.aload_n 0, 1) := by decide +kernel
theorem dX2_insert_70 : decode cX2_insert 70 = .ok (.getfield 9, 3) := by decide +kernel
theorem dX2_insert_73 : decode cX2_insert 73 = .ok (.iload 5, 2) := by decide +kernel
theorem dX2_insert_75 : decode cX2_insert 75 = .ok (.iconst 1, 1) := by decide +kernel
theorem dX2_insert_76 : decode cX2_insert 76 = .ok (.isub, 1) := by decide +kernel
theorem dX2_insert_77 : decode cX2_insert 77 = .ok (.iaload, 1) := by decide +kernel
theorem dX2_insert_78 : decode cX2_insert 78 = .ok (.iastore, 1) := by decide +kernel
theorem dX2_insert_79 : decode cX2_insert 79 = .ok (.iinc 5 (-1), 3) := by decide +kernel
theorem dX2_insert_82 : decode cX2_insert 82 = .ok (.goto (-65), 3) := by decide +kernel
theorem dX2_insert_85 : decode cX2_insert 85 = .ok (.aload_n 0, 1) := by decide +kernel
theorem dX2_insert_86 : decode cX2_insert 86 = .ok (.getfield 9, 3) := by decide +kernel
theorem dX2_insert_89 : decode cX2_insert 89 = .ok (.iload 5, 2) := by decide +kernel
theorem dX2_insert_91 : decode cX2_insert 91 = .ok (.iload_n 2, 1) := by decide +kernel
theorem dX2_insert_92 : decode cX2_insert 92 = .ok (.iastore, 1) := by decide +kernel
theorem dX2_insert_93 : decode cX2_insert 93 = .ok (.aload_n 0, 1) := by decide +kernel
theorem dX2_insert_94 : decode cX2_insert 94 = .ok (.dup, 1) := by decide +kernel
theorem dX2_insert_95 : decode cX2_insert 95 = .ok (.getfield 15, 3) := by decide +kernel
theorem dX2_insert_98 : decode cX2_insert 98 = .ok (.iconst 1, 1) := by decide +kernel
theorem dX2_insert_99 : decode cX2_insert 99 = .ok (.iadd, 1) := by decide +kernel
theorem dX2_insert_100 : decode cX2_insert 100 = .ok (.putfield 15, 3) := by decide +kernel
theorem dX2_insert_103 : decode cX2_insert 103 = .ok (.return_, 1) := by decide +kernel
theorem dX3_init_0 : decode cX3_init 0 = .ok (.aload_n 0, 1) := by decide +kernel
theorem dX3_init_1 : decode cX3_init 1 = .ok (.invokespecial 3, 3) := by decide +kernel
theorem dX3_init_4 : decode cX3_init 4 = .ok (.aload_n 0, 1) := by decide +kernel
theorem dX3_init_5 : decode cX3_init 5 = .ok (.bipush 12, 2) := by decide +kernel
theorem dX3_init_7 : decode cX3_init 7 = .ok (.newarray .int, 2) := by decide +kernel
theorem dX3_init_9 : decode cX3_init 9 = .ok (.putfield 9, 3) := by decide +kernel
theorem dX3_init_12 : decode cX3_init 12 = .ok (.aload_n 0, 1) := by decide +kernel
theorem dX3_init_13 : decode cX3_init 13 = .ok (.bipush 12, 2) := by decide +kernel
theorem dX3_init_15 : decode cX3_init 15 = .ok (.newarray .int, 2) := by decide +kernel
theorem dX3_init_17 : decode cX3_init 17 = .ok (.putfield 15, 3) := by decide +kernel
theorem dX3_init_20 : decode cX3_init 20 = .ok (.aload_n 0, 1) := by decide +kernel
theorem dX3_init_21 : decode cX3_init 21 = .ok (.bipush 12, 2) := by decide +kernel
theorem dX3_init_23 : decode cX3_init 23 = .ok (.newarray .int, 2) := by decide +kernel
theorem dX3_init_25 : decode cX3_init 25 = .ok (.putfield 18, 3) := by decide +kernel
theorem dX3_init_28 : decode cX3_init 28 = .ok (.aload_n 0, 1) := by decide +kernel
theorem dX3_init_29 : decode cX3_init 29 = .ok (.bipush 12, 2) := by decide +kernel
theorem dX3_init_31 : decode cX3_init 31 = .ok (.newarray .int, 2) := by decide +kernel
theorem dX3_init_33 : decode cX3_init 33 = .ok (.putfield 21, 3) := by decide +kernel
theorem dX3_init_36 : decode cX3_init 36 = .ok (.aload_n 0, 1) := by decide +kernel
theorem dX3_init_37 : decode cX3_init 37 = .ok (.bipush 12, 2) := by decide +kernel
theorem dX3_init_39 : decode cX3_init 39 = .ok (.newarray .int, 2) := by decide +kernel
theorem dX3_init_41 : decode cX3_init 41 = .ok (.putfield 24, 3) := by decide +kernel
theorem dX3_init_44 : decode cX3_init 44 = .ok (.aload_n 0, 1) := by decide +kernel
theorem dX3_init_45 : decode cX3_init 45 = .ok (.bipush 12, 2) := by decide +kernel
theorem dX3_init_47 : decode cX3_init 47 = .ok (.newarray .int, 2) := by decide +kernel
theorem dX3_init_49 : decode cX3_init 49 = .ok (.putfield 27, 3) := by decide +kernel
theorem dX3_init_52 : decode cX3_init 52 = .ok (.aload_n 0, 1) := by decide +kernel
theorem dX3_init_53 : decode cX3_init 53 = .ok (.iconst 0, 1) := by decide +kernel
theorem dX3_init_54 : decode cX3_init 54 = .ok (.putfield 30, 3) := by decide +kernel
theorem dX3_init_57 : decode cX3_init 57 = .ok (.aload_n 0, 1) := by decide +kernel
theorem dX3_init_58 : decode cX3_init 58 = .ok (.iconst 0, 1) := by decide +kernel
theorem dX3_init_59 : decode cX3_init 59 = .ok (.putfield 34, 3) := by decide +kernel
theorem dX3_init_62 : decode cX3_init 62 = .ok (.return_, 1) := by decide +kernel
theorem dX3_copyFrom_0 : decode cX3_copyFrom 0 = .ok (.aload_n 1, 1) := by decide +kernel
theorem dX3_copyFrom_1 : decode cX3_copyFrom 1 = .ok (.getfield 9, 3) := by decide +kernel
theorem dX3_copyFrom_4 : decode cX3_copyFrom 4 = .ok (.iconst 0, 1) := by decide +kernel
theorem dX3_copyFrom_5 : decode cX3_copyFrom 5 = .ok (.aload_n 0, 1) := by decide +kernel
theorem dX3_copyFrom_6 : decode cX3_copyFrom 6 = .ok (.getfield 9, 3) := by decide +kernel
theorem dX3_copyFrom_9 : decode cX3_copyFrom 9 = .ok (.iconst 0, 1) := by decide +kernel
theorem dX3_copyFrom_10 : decode cX3_copyFrom 10 = .ok (.bipush 12, 2) := by decide +kernel
theorem dX3_copyFrom_12 : decode cX3_copyFrom 12 = .ok (.invokestatic 37, 3) := by decide +kernel
theorem dX3_copyFrom_15 : decode cX3_copyFrom 15 = .ok (.aload_n 1, 1) := by decide +kernel
theorem dX3_copyFrom_16 : decode cX3_copyFrom 16 = .ok (.getfield 15, 3) := by decide +kernel
theorem dX3_copyFrom_19 : decode cX3_copyFrom 19 = .ok (.iconst 0, 1) := by decide +kernel
theorem dX3_copyFrom_20 : decode cX3_copyFrom 20 = .ok (.aload_n 0, 1) := by decide +kernel
theorem dX3_copyFrom_21 : decode cX3_copyFrom 21 = .ok (.getfield 15, 3) := by decide +kernel
theorem dX3_copyFrom_24 : decode cX3_copyFrom 24 = .ok (.iconst 0, 1) := by decide +kernel
theorem dX3_copyFrom_25 : decode cX3_copyFrom 25 = .ok (.bipush 12, 2) := by decide +kernel
theorem dX3_copyFrom_27 : decode cX3_copyFrom 27 = .ok (.invokestatic 37, 3) := by decide +kernel
theorem dX3_copyFrom_30 : decode cX3_copyFrom 30 = .ok (.aload_n 1, 1) := by decide +kernel
theorem dX3_copyFrom_31 : decode cX3_copyFrom 31 = .ok (.getfield 18, 3) := by decide +kernel
theorem dX3_copyFrom_34 : decode cX3_copyFrom 34 = .ok (.iconst 0, 1) := by decide +kernel
theorem dX3_copyFrom_35 : decode cX3_copyFrom 35 = .ok (.aload_n 0, 1) := by decide +kernel
theorem dX3_copyFrom_36 : decode cX3_copyFrom 36 = .ok (.getfield 18, 3) := by decide +kernel
theorem dX3_copyFrom_39 : decode cX3_copyFrom 39 = .ok (.iconst 0, 1) := by decide +kernel
theorem dX3_copyFrom_40 : decode cX3_copyFrom 40 = .ok (.bipush 12, 2) := by decide +kernel
theorem dX3_copyFrom_42 : decode cX3_copyFrom 42 = .ok (.invokestatic 37, 3) := by decide +kernel
theorem dX3_copyFrom_45 : decode cX3_copyFrom 45 = .ok (.aload_n 1, 1) := by decide +kernel
theorem dX3_copyFrom_46 : decode cX3_copyFrom 46 = .ok (.getfield 21, 3) := by decide +kernel
theorem dX3_copyFrom_49 : decode cX3_copyFrom 49 = .ok (.iconst 0, 1) := by decide +kernel
theorem dX3_copyFrom_50 : decode cX3_copyFrom 50 = .ok (.aload_n 0, 1) := by decide +kernel
theorem dX3_copyFrom_51 : decode cX3_copyFrom 51 = .ok (.getfield 21, 3) := by decide +kernel
theorem dX3_copyFrom_54 : decode cX3_copyFrom 54 = .ok (.iconst 0, 1) := by decide +kernel
theorem dX3_copyFrom_55 : decode cX3_copyFrom 55 = .ok (.bipush 12, 2) := by decide +kernel
theorem dX3_copyFrom_57 : decode cX3_copyFrom 57 = .ok (.invokestatic 37, 3) := by decide +kernel
theorem dX3_copyFrom_60 : decode cX3_copyFrom 60 = .ok (.aload_n 1, 1) := by decide +kernel
theorem dX3_copyFrom_61 : decode cX3_copyFrom 61 = .ok (.getfield 24, 3) := by decide +kernel
theorem dX3_copyFrom_64 : decode cX3_copyFrom 64 = .ok (.iconst 0, 1) := by decide +kernel
theorem dX3_copyFrom_65 : decode cX3_copyFrom 65 = .ok (.aload_n 0, 1) := by decide +kernel
theorem dX3_copyFrom_66 : decode cX3_copyFrom 66 = .ok (.getfield 24, 3) := by decide +kernel
theorem dX3_copyFrom_69 : decode cX3_copyFrom 69 = .ok (.iconst 0, 1) := by decide +kernel
theorem dX3_copyFrom_70 : decode cX3_copyFrom 70 = .ok (.bipush 12, 2) := by decide +kernel
theorem dX3_copyFrom_72 : decode cX3_copyFrom 72 = .ok (.invokestatic 37, 3) := by decide +kernel
theorem dX3_copyFrom_75 : decode cX3_copyFrom 75 = .ok (.aload_n 1, 1) := by decide +kernel
theorem dX3_copyFrom_76 : decode cX3_copyFrom 76 = .ok (.getfield 27, 3) := by decide +kernel
theorem dX3_copyFrom_79 : decode cX3_copyFrom 79 = .ok (.iconst 0, 1) := by decide +kernel
theorem dX3_copyFrom_80 : decode cX3_copyFrom 80 = .ok (.aload_n 0, 1) := by decide +kernel
theorem dX3_copyFrom_81 : decode cX3_copyFrom 81 = .ok (.getfield 27, 3) := by decide +kernel
theorem dX3_copyFrom_84 : decode cX3_copyFrom 84 = .ok (.iconst 0, 1) := by decide +kernel
theorem dX3_copyFrom_85 : decode cX3_copyFrom 85 = .ok (.bipush 12, 2) := by decide +kernel
theorem dX3_copyFrom_87 : decode cX3_copyFrom 87 = .ok (.invokestatic 37, 3) := by decide +kernel
theorem dX3_copyFrom_90 : decode cX3_copyFrom 90 = .ok (.aload_n 0, 1) := by decide +kernel
theorem dX3_copyFrom_91 : decode cX3_copyFrom 91 = .ok (.aload_n 1, 1) := by decide +kernel
theorem dX3_copyFrom_92 : decode cX3_copyFrom 92 = .ok (.getfield 30, 3) := by decide +kernel
theorem dX3_copyFrom_95 : decode cX3_copyFrom 95 = .ok (.putfield 30, 3) := by decide +kernel
theorem dX3_copyFrom_98 : decode cX3_copyFrom 98 = .ok (.aload_n 0, 1) := by decide +kernel
theorem dX3_copyFrom_99 : decode cX3_copyFrom 99 = .ok (.aload_n 1, 1) := by decide +kernel
theorem dX3_copyFrom_100 : decode cX3_copyFrom 100 = .ok (.getfield 34, 3) := by decide +kernel
theorem dX3_copyFrom_103 : decode cX3_copyFrom 103 = .ok (.putfield 34, 3) := by decide +kernel
theorem dX3_copyFrom_106 : decode cX3_copyFrom 106 = .ok (.return_, 1) := by decide +kernel
theorem dX3_hasPlace_0 : decode cX3_hasPlace 0 = .ok (.iload_n 1, 1) := by decide +kernel
theorem dX3_hasPlace_1 : decode cX3_hasPlace 1 = .ok (.ifCond .lt 15, 3) := by decide +kernel
theorem dX3_hasPlace_4 : decode cX3_hasPlace 4 = .ok (.iload_n 1, 1) := by decide +kernel
theorem dX3_hasPlace_5 : decode cX3_hasPlace 5 = .ok (.aload_n 0, 1) := by decide +kernel
theorem dX3_hasPlace_6 : decode cX3_hasPlace 6 = .ok (.getfield 30, 3) := by decide +kernel
theorem dX3_hasPlace_9 : decode cX3_hasPlace 9 = .ok (.if_icmp .ge 7, 3) := by decide +kernel
theorem dX3_hasPlace_12 : decode cX3_hasPlace 12 = .ok (.iconst 1, 1) := by decide +kernel
theorem dX3_hasPlace_13 : decode cX3_hasPlace 13 = .ok (.goto 4, 3) := by decide +kernel
theorem dX3_hasPlace_16 : decode cX3_hasPlace 16 = .ok (.iconst 0, 1) := by decide +kernel
theorem dX3_hasPlace_17 : decode cX3_hasPlace 17 = .ok (.ireturn, 1) := by decide +kernel
theorem dX3_hasPairAt_0 : decode cX3_hasPairAt 0 = .ok (.iload_n 1, 1) := by decide +kernel
theorem dX3_hasPairAt_1 : decode cX3_hasPairAt 1 = .ok (.ifCond .lt 17, 3) := by decide +kernel
theorem dX3_hasPairAt_4 : decode cX3_hasPairAt 4 = .ok (.iload_n 1, 1) := by decide +kernel
theorem dX3_hasPairAt_5 : decode cX3_hasPairAt 5 = .ok (.aload_n 0, 1) := by decide +kernel
theorem dX3_hasPairAt_6 : decode cX3_hasPairAt 6 = .ok (.getfield 30, 3) := by decide +kernel
theorem dX3_hasPairAt_9 : decode cX3_hasPairAt 9 = .ok (.iconst 1, 1) := by decide +kernel
theorem dX3_hasPairAt_10 : decode cX3_hasPairAt 10 = .ok (.isub, 1) := by decide +kernel
theorem dX3_hasPairAt_11 : decode cX3_hasPairAt 11 = .ok (.if_icmp .ge 7, 3) := by decide +kernel
theorem dX3_hasPairAt_14 : decode cX3_hasPairAt 14 = .ok (.iconst 1, 1) := by decide +kernel
theorem dX3_hasPairAt_15 : decode cX3_hasPairAt 15 = .ok (.goto 4, 3) := by decide +kernel
theorem dX3_hasPairAt_18 : decode cX3_hasPairAt 18 = .ok (.iconst 0, 1) := by decide +kernel
theorem dX3_hasPairAt_19 : decode cX3_hasPairAt 19 = .ok (.ireturn, 1) := by decide +kernel
theorem dX3_hasRoomFor_0 : decode cX3_hasRoomFor 0 = .ok (.aload_n 0, 1) := by decide +kernel
theorem dX3_hasRoomFor_1 : decode cX3_hasRoomFor 1 = .ok (.getfield 30, 3) := by decide +kernel
theorem dX3_hasRoomFor_4 : decode cX3_hasRoomFor 4 = .ok (.iload_n 1, 1) := by decide +kernel
theorem dX3_hasRoomFor_5 : decode cX3_hasRoomFor 5 = .ok (.iadd, 1) := by decide +kernel
theorem dX3_hasRoomFor_6 : decode cX3_hasRoomFor 6 = .ok (.bipush 12, 2) := by decide +kernel
theorem dX3_hasRoomFor_8 : decode cX3_hasRoomFor 8 = .ok (.if_icmp .gt 18, 3) := by decide +kernel
theorem dX3_hasRoomFor_11 : decode cX3_hasRoomFor 11 = .ok (.aload_n 0, 1) := by decide +kernel
theorem dX3_hasRoomFor_12 : decode cX3_hasRoomFor 12 = .ok (.getfield 34, 3) := by decide +kernel
theorem dX3_hasRoomFor_15 : decode cX3_hasRoomFor 15 = .ok (.iload_n 1, 1) := by decide +kernel
theorem dX3_hasRoomFor_16 : decode cX3_hasRoomFor 16 = .ok (.iadd, 1) := by decide +kernel
theorem dX3_hasRoomFor_17 : decode cX3_hasRoomFor 17 = .ok (.bipush 99, 2) := by decide +kernel
theorem dX3_hasRoomFor_19 : decode cX3_hasRoomFor 19 = .ok (.if_icmp .gt 7, 3) := by decide +kernel
theorem dX3_hasRoomFor_22 : decode cX3_hasRoomFor 22 = .ok (.iconst 1, 1) := by decide +kernel
theorem dX3_hasRoomFor_23 : decode cX3_hasRoomFor 23 = .ok (.goto 4, 3) := by decide +kernel
theorem dX3_hasRoomFor_26 : decode cX3_hasRoomFor 26 = .ok (.iconst 0, 1) := by decide +kernel
theorem dX3_hasRoomFor_27 : decode cX3_hasRoomFor 27 = .ok (.ireturn, 1) := by decide +kernel
theorem dX3_append_0 : decode cX3_append 0 = .ok (.aload_n 0, 1) := by decide +kernel
theorem dX3_append_1 : decode cX3_append 1 = .ok (.getfield 30, 3) := by decide +kernel
theorem dX3_append_4 : decode cX3_append 4 = .ok (.bipush 12, 2) := by decide +kernel
theorem dX3_append_6 : decode cX3_append 6 = .ok (.if_icmp .lt 4, 3) := by decide +kernel
theorem dX3_append_9 : decode cX3_append 9 = .ok (.return_, 1) := by decide +kernel
theorem dX3_append_10 : decode cX3_append 10 = .ok (.aload_n 0, 1) := by decide +kernel
theorem dX3_append_11 : decode cX3_append 11 = .ok (.getfield 9, 3) := by decide +kernel
theorem dX3_append_14 : decode cX3_append 14 = .ok (.aload_n 0, 1) := by decide +kernel
theorem dX3_append_15 : decode cX3_append 15 = .ok (.getfield 30, 3) := by decide +kernel
theorem dX3_append_18 : decode cX3_append 18 = .ok (.aload_n 0, 1) := by decide +kernel
theorem dX3_append_19 : decode cX3_append 19 = .ok (.getfield 34, 3) := by decide +kernel
theorem dX3_append_22 : decode cX3_append 22 = .ok (.iastore, 1) := by decide +kernel
theorem dX3_append_23 : decode cX3_append 23 = .ok (.aload_n 0, 1) := by decide +kernel
theorem dX3_append_24 : decode cX3_append 24 = .ok (.getfield 15, 3) := by decide +kernel
theorem dX3_append_27 : decode cX3_append 27 = .ok (.aload_n 0, 1) := by decide +kernel
theorem dX3_append_28 : decode cX3_append 28 = .ok (.getfield 30, 3) := by decide +kernel
theorem dX3_append_31 : decode cX3_append 31 = .ok (.iload_n 1, 1) := by decide +kernel
theorem dX3_append_32 : decode cX3_append 32 = .ok (.iastore, 1) := by decide +kernel
theorem dX3_append_33 : decode cX3_append 33 = .ok (.aload_n 0, 1) := by decide +kernel
theorem dX3_append_34 : decode cX3_append 34 = .ok (.getfield 18, 3) := by decide +kernel
theorem dX3_append_37 : decode cX3_append 37 = .ok (.aload_n 0, 1) := by decide +kernel
theorem dX3_append_38 : decode cX3_append 38 = .ok (.getfield 30, 3) := by decide +kernel
theorem dX3_append_41 : decode cX3_append 41 = .ok (.iload_n 2, 1) := by decide +kernel
theorem dX3_append_42 : decode cX3_append 42 = .ok (.iastore, 1) := by decide +kernel
theorem dX3_append_43 : decode cX3_append 43 = .ok (.aload_n 0, 1) := by decide +kernel
theorem dX3_append_44 : decode cX3_append 44 = .ok (.getfield 21, 3) := by decide +kernel
theorem dX3_append_47 : decode cX3_append 47 = .ok (.aload_n 0, 1) := by decide +kernel
theorem dX3_append_48 : decode cX3_append 48 = .ok (.getfield 30, 3) := by decide +kernel
theorem dX3_append_51 : decode cX3_append 51 = .ok (.iconst 0, 1) := by decide +kernel
theorem dX3_append_52 : decode cX3_append 52 = .ok (.iastore, 1) := by decide +kernel
theorem dX3_append_53 : decode cX3_append 53 = .ok (.aload_n 0, 1) := by decide +kernel
theorem dX3_append_54 : decode cX3_append 54 = .ok (.getfield 24, 3) := by decide +kernel
theorem dX3_append_57 : decode cX3_append 57 = .ok (.aload_n 0, 1) := by decide +kernel
theorem dX3_append_58 : decode cX3_append 58 = .ok (.getfield 30, 3) := by decide +kernel
theorem dX3_append_61 : decode cX3_append 61 = .ok (.iconst 0, 1) := by decide +kernel
theorem dX3_append_62 : decode cX3_append 62 = .ok (.iastore, 1) := by decide +kernel
theorem dX3_append_63 : decode cX3_append 63 = .ok (.aload_n 0, 1) := by decide +kernel
theorem dX3_append_64 : decode cX3_append 64 = .ok (.getfield 27, 3) := by decide +kernel
theorem dX3_append_67 : decode cX3_append 67 = .ok (.aload_n 0, 1) := by decide +kernel
theorem dX3_append_68 : decode cX3_append 68 = .ok (.getfield 30, 3) := by decide +kernel
theorem dX3_append_71 : decode cX3_append 71 = .ok (.iconst 0, 1) := by decide +kernel
theorem dX3_append_72 : decode cX3_append 72 = .ok (.iastore, 1) := by decide +kernel
theorem dX3_append_73 : decode cX3_append 73 = .ok (.aload_n 0, 1) := by decide +kernel
theorem dX3_append_74 : decode cX3_append 74 = .ok (.dup, 1) := by decide +kernel
theorem dX3_append_75 : decode cX3_append 75 = .ok (.getfield 30, 3) := by decide +kernel
theorem dX3_append_78 : decode cX3_append 78 = .ok (.iconst 1, 1) := by decide +kernel
theorem dX3_append_79 : decode cX3_append 79 = .ok (.iadd, 1) := by decide +kernel
theorem dX3_append_80 : decode cX3_append 80 = .ok (.putfield 30, 3) := by decide +kernel
theorem dX3_append_83 : decode cX3_append 83 = .ok (.aload_n 0, 1) := by decide +kernel
theorem dX3_append_84 : decode cX3_append 84 = .ok (.dup, 1) := by decide +kernel
theorem dX3_append_85 : decode cX3_append 85 = .ok (.getfield 34, 3) := by decide +kernel
theorem dX3_append_88 : decode cX3_append 88 = .ok (.iconst 1, 1) := by decide +kernel
theorem dX3_append_89 : decode cX3_append 89 = .ok (.iadd, 1) := by decide +kernel
theorem dX3_append_90 : decode cX3_append 90 = .ok (.putfield 34, 3) := by decide +kernel
theorem dX3_append_93 : decode cX3_append 93 = .ok (.return_, 1) := by decide +kernel
theorem dX3_remove_0 : decode cX3_remove 0 = .ok (.iload_n 1, 1) := by decide +kernel
theorem dX3_remove_1 : decode cX3_remove 1 = .ok (.istore_n 2, 1) := by decide +kernel
theorem dX3_remove_2 : decode cX3_remove 2 = .ok (.iload_n 2, 1) := by decide +kernel
theorem dX3_remove_3 : decode cX3_remove 3 = .ok (.aload_n 0, 1) := by decide +kernel
theorem dX3_remove_4 : decode cX3_remove 4 = .ok (.getfield 30, 3) := by decide +kernel
theorem dX3_remove_7 : decode cX3_remove 7 = .ok (.iconst 1, 1) := by decide +kernel
theorem dX3_remove_8 : decode cX3_remove 8 = .ok (.isub, 1) := by decide +kernel
theorem dX3_remove_9 : decode cX3_remove 9 = .ok (.if_icmp .ge 14, 3) := by decide +kernel
theorem dX3_remove_12 : decode cX3_remove 12 = .ok (.aload_n 0, 1) := by decide +kernel
theorem dX3_remove_13 : decode cX3_remove 13 = .ok (.iload_n 2, 1) := by decide +kernel
theorem dX3_remove_14 : decode cX3_remove 14 = .ok (.invokevirtual 43, 3) := by decide +kernel
theorem dX3_remove_17 : decode cX3_remove 17 = .ok (.iinc 2 1, 3) := by decide +kernel
theorem dX3_remove_20 : decode cX3_remove 20 = .ok (.goto (-18), 3) := by decide +kernel
theorem dX3_remove_23 : decode cX3_remove 23 = .ok (.aload_n 0, 1) := by decide +kernel
theorem dX3_remove_24 : decode cX3_remove 24 = .ok (.dup, 1) := by decide +kernel
theorem dX3_remove_25 : decode cX3_remove 25 = .ok (.getfield 30, 3) := by decide +kernel
theorem dX3_remove_28 : decode cX3_remove 28 = .ok (.iconst 1, 1) := by decide +kernel
theorem dX3_remove_29 : decode cX3_remove 29 = .ok (.isub, 1) := by decide +kernel
theorem dX3_remove_30 : decode cX3_remove 30 = .ok (.putfield 30, 3) := by decide +kernel
theorem dX3_remove_33 : decode cX3_remove 33 = .ok (.return_, 1) := by decide +kernel
theorem dX3_swap_0 : decode cX3_swap 0 = .ok (.aload_n 0, 1) := by decide +kernel
theorem dX3_swap_1 : decode cX3_swap 1 = .ok (.iload_n 1, 1) := by decide +kernel
theorem dX3_swap_2 : decode cX3_swap 2 = .ok (.invokevirtual 43, 3) := by decide +kernel
theorem dX3_swap_5 : decode cX3_swap 5 = .ok (.aload_n 0, 1) := by decide +kernel
theorem dX3_swap_6 : decode cX3_swap 6 = .ok (.getfield 27, 3) := by decide +kernel
theorem dX3_swap_9 : decode cX3_swap 9 = .ok (.iload_n 1, 1) := by decide +kernel
theorem dX3_swap_10 : decode cX3_swap 10 = .ok (.dup2, 1) := by decide +kernel
theorem dX3_swap_11 : decode cX3_swap 11 = .ok (.iaload, 1) := by decide +kernel
theorem dX3_swap_12 : decode cX3_swap 12 = .ok (.iconst 1, 1) := by decide +kernel
theorem dX3_swap_13 : decode cX3_swap 13 = .ok (.iadd, 1) := by decide +kernel
theorem dX3_swap_14 : decode cX3_swap 14 = .ok (.iastore, 1) := by decide +kernel
theorem dX3_swap_15 : decode cX3_swap 15 = .ok (.aload_n 0, 1) := by decide +kernel
theorem dX3_swap_16 : decode cX3_swap 16 = .ok (.getfield 27, 3) := by decide +kernel
theorem dX3_swap_19 : decode cX3_swap 19 = .ok (.iload_n 1, 1) := by decide +kernel
theorem dX3_swap_20 : decode cX3_swap 20 = .ok (.iconst 1, 1) := by decide +kernel
theorem dX3_swap_21 : decode cX3_swap 21 = .ok (.iadd, 1) := by decide +kernel
theorem dX3_swap_22 : decode cX3_swap 22 = .ok (.dup2, 1) := by decide +kernel
theorem dX3_swap_23 : decode cX3_swap 23 = .ok (.iaload, 1) := by decide +kernel
theorem dX3_swap_24 : decode cX3_swap 24 = .ok (.iconst 1, 1) := by decide +kernel
theorem dX3_swap_25 : decode cX3_swap 25 = .ok (.iadd, 1) := by decide +kernel
theorem dX3_swap_26 : decode cX3_swap 26 = .ok (.iastore, 1) := by decide +kernel
theorem dX3_swap_27 : decode cX3_swap 27 = .ok (.return_, 1) := by decide +kernel
theorem dX3_swapEntries_0 : decode cX3_swapEntries 0 = .ok (.aload_n 0, 1) := by decide +kernel
theorem dX3_swapEntries_1 : decode cX3_swapEntries 1 = .ok (.getfield 9, 3) := by decide +kernel
theorem dX3_swapEntries_4 : decode cX3_swapEntries 4 = .ok (.iload_n 1, 1) := by decide +kernel
theorem dX3_swapEntries_5 : decode cX3_swapEntries 5 = .ok (.invokestatic 47, 3) := by decide +kernel
theorem dX3_swapEntries_8 : decode cX3_swapEntries 8 = .ok (.aload_n 0, 1) := by decide +kernel
theorem dX3_swapEntries_9 : decode cX3_swapEntries 9 = .ok (.getfield 15, 3) := by decide +kernel
theorem dX3_swapEntries_12 : decode cX3_swapEntries 12 = .ok (.iload_n 1, 1) := by decide +kernel
theorem dX3_swapEntries_13 : decode cX3_swapEntries 13 = .ok (.invokestatic 47, 3) := by decide +kernel
theorem dX3_swapEntries_16 : decode cX3_swapEntries 16 = .ok (.aload_n 0, 1) := by decide +kernel
theorem dX3_swapEntries_17 : decode cX3_swapEntries 17 = .ok (.getfield 18, 3) := by decide +kernel
theorem dX3_swapEntries_20 : decode cX3_swapEntries 20 = .ok (.iload_n 1, 1) := by decide +kernel
theorem dX3_swapEntries_21 : decode cX3_swapEntries 21 = .ok (.invokestatic 47, 3) := by decide +kernel
theorem dX3_swapEntries_24 : decode cX3_swapEntries 24 = .ok (.aload_n 0, 1) := by decide +kernel
theorem dX3_swapEntries_25 : decode cX3_swapEntries 25 = .ok (.getfield 21, 3) := by decide +kernel
theorem dX3_swapEntries_28 : decode cX3_swapEntries 28 = .ok (.iload_n 1, 1) := by decide +kernel
theorem dX3_swapEntries_29 : decode cX3_swapEntries 29 = .ok (.invokestatic 47, 3) := by decide +kernel
theorem dX3_swapEntries_32 : decode cX3_swapEntries 32 = .ok (.aload_n 0, 1) := by decide +kernel
theorem dX3_swapEntries_33 : decode cX3_swapEntries 33 = .ok (.getfield 24, 3) := by decide +kernel
theorem dX3_swapEntries_36 : decode cX3_swapEntries 36 = .ok (.iload_n 1, 1) := by decide +kernel
theorem dX3_swapEntries_37 : decode cX3_swapEntries 37 = .ok (.invokestatic 47, 3) := by decide +kernel
theorem dX3_swapEntries_40 : decode cX3_swapEntries 40 = .ok (.aload_n 0, 1) := by decide +kernel
theorem dX3_swapEntries_41 : decode cX3_swapEntries 41 = .ok (.getfield 27, 3) := by decide +kernel
theorem dX3_swapEntries_44 : decode cX3_swapEntries 44 = .ok (.iload_n 1, 1) := by decide +kernel
theorem dX3_swapEntries_45 : decode cX3_swapEntries 45 = .ok (.invokestatic 47, 3) := by decide +kernel
theorem dX3_swapEntries_48 : decode cX3_swapEntries 48 = .ok (.return_, 1) := by decide +kernel
theorem dX3_swapWithNext_0 : decode cX3_swapWithNext 0 = .ok (.aload_n 0, 1) := by decide +kernel
theorem dX3_swapWithNext_1 : decode cX3_swapWithNext 1 = .ok (.iload_n 1, 1) := by decide +kernel
theorem dX3_swapWithNext_2 : decode cX3_swapWithNext 2 = .ok (.iaload, 1) := by decide +kernel
theorem dX3_swapWithNext_3 : decode cX3_swapWithNext 3 = .ok (.istore_n 2, 1) := by decide +kernel
theorem dX3_swapWithNext_4 : decode cX3_swapWithNext 4 = .ok (.aload_n 0, 1) := by decide +kernel
theorem dX3_swapWithNext_5 : decode cX3_swapWithNext 5 = .ok (.iload_n 1, 1) := by decide +kernel
theorem dX3_swapWithNext_6 : decode cX3_swapWithNext 6 = .ok (.aload_n 0, 1) := by decide +kernel
theorem dX3_swapWithNext_7 : decode cX3_swapWithNext 7 = .ok (.iload_n 1, 1) := by decide +kernel
theorem dX3_swapWithNext_8 : decode cX3_swapWithNext 8 = .ok (.iconst 1, 1) := by decide +kernel
theorem dX3_swapWithNext_9 : decode cX3_swapWithNext 9 = .ok (.iadd, 1) := by decide +kernel
theorem dX3_swapWithNext_10 : decode cX3_swapWithNext 10 = .ok (.iaload, 1) := by decide +kernel
theorem dX3_swapWithNext_11 : decode cX3_swapWithNext 11 = .ok (.iastore, 1) := by decide +kernel
theorem dX3_swapWithNext_12 : decode cX3_swapWithNext 12 = .ok (.aload_n 0, 1) := by decide +kernel
theorem dX3_swapWithNext_13 : decode cX3_swapWithNext 13 = .ok (.iload_n 1, 1) := by decide +kernel
theorem dX3_swapWithNext_14 : decode cX3_swapWithNext 14 = .ok (.iconst 1, 1) := by decide +kernel
theorem dX3_swapWithNext_15 : decode cX3_swapWithNext 15 = .ok (.iadd, 1) := by decide +kernel
theorem dX3_swapWithNext_16 : decode cX3_swapWithNext 16 = .ok (.iload_n 2, 1) := by decide +kernel
theorem dX3_swapWithNext_17 : decode cX3_swapWithNext 17 = .ok (.iastore, 1) := by decide +kernel
theorem dX3_swapWithNext_18 : decode cX3_swapWithNext 18 = .ok (.return_, 1) := by decide +kernel
theorem dX3_isTangled_0 : decode cX3_isTangled 0 = .ok (.aload_n 0, 1) := by decide +kernel
theorem dX3_isTangled_1 : decode cX3_isTangled 1 = .ok (.getfield 21, 3) := by decide +kernel
theorem dX3_isTangled_4 : decode cX3_isTangled 4 = .ok (.iload_n 1, 1) := by decide +kernel
theorem dX3_isTangled_5 : decode cX3_isTangled 5 = .ok (.iaload, 1) := by decide +kernel
theorem dX3_isTangled_6 : decode cX3_isTangled 6 = .ok (.ifCond .eq 7, 3) := by decide +kernel
theorem dX3_isTangled_9 : decode cX3_isTangled 9 = .ok (.iconst 1, 1) := by decide +kernel
theorem dX3_isTangled_10 : decode cX3_isTangled 10 = .ok (.goto 4, 3) := by decide +kernel
theorem dX3_isTangled_13 : decode cX3_isTangled 13 = .ok (.iconst 0, 1) := by decide +kernel
theorem dX3_isTangled_14 : decode cX3_isTangled 14 = .ok (.ireturn, 1) := by decide +kernel
theorem dX3_isPairFree_0 : decode cX3_isPairFree 0 = .ok (.aload_n 0, 1) := by decide +kernel
theorem dX3_isPairFree_1 : decode cX3_isPairFree 1 = .ok (.iload_n 1, 1) := by decide +kernel
theorem dX3_isPairFree_2 : decode cX3_isPairFree 2 = .ok (.invokevirtual 51, 3) := by decide +kernel
theorem dX3_isPairFree_5 : decode cX3_isPairFree 5 = .ok (.ifCond .ne 17, 3) := by decide +kernel
theorem dX3_isPairFree_8 : decode cX3_isPairFree 8 = .ok (.aload_n 0, 1) := by decide +kernel
theorem dX3_isPairFree_9 : decode cX3_isPairFree 9 = .ok (.iload_n 1, 1) := by decide +kernel
theorem dX3_isPairFree_10 : decode cX3_isPairFree 10 = .ok (.iconst 1, 1) := by decide +kernel
theorem dX3_isPairFree_11 : decode cX3_isPairFree 11 = .ok (.iadd, 1) := by decide +kernel
theorem dX3_isPairFree_12 : decode cX3_isPairFree 12 = .ok (.invokevirtual 51, 3) := by decide +kernel
theorem dX3_isPairFree_15 : decode cX3_isPairFree 15 = .ok (.ifCond .ne 7, 3) := by decide +kernel
theorem dX3_isPairFree_18 : decode cX3_isPairFree 18 = .ok (.iconst 1, 1) := by decide +kernel
theorem dX3_isPairFree_19 : decode cX3_isPairFree 19 = .ok (.goto 4, 3) := by decide +kernel
theorem dX3_isPairFree_22 : decode cX3_isPairFree 22 = .ok (.iconst 0, 1) := by decide +kernel
theorem dX3_isPairFree_23 : decode cX3_isPairFree 23 = .ok (.ireturn, 1) := by decide +kernel
theorem dX3_tie_0 : decode cX3_tie 0 = .ok (.aload_n 0, 1) := by decide +kernel
theorem dX3_tie_1 : decode cX3_tie 1 = .ok (.getfield 21, 3) := by decide +kernel
theorem dX3_tie_4 : decode cX3_tie 4 = .ok (.iload_n 1, 1) := by decide +kernel
theorem dX3_tie_5 : decode cX3_tie 5 = .ok (.iconst 1, 1) := by decide +kernel
theorem dX3_tie_6 : decode cX3_tie 6 = .ok (.iastore, 1) := by decide +kernel
theorem dX3_tie_7 : decode cX3_tie 7 = .ok (.aload_n 0, 1) := by decide +kernel
theorem dX3_tie_8 : decode cX3_tie 8 = .ok (.getfield 21, 3) := by decide +kernel
theorem dX3_tie_11 : decode cX3_tie 11 = .ok (.iload_n 1, 1) := by decide +kernel
theorem dX3_tie_12 : decode cX3_tie 12 = .ok (.iconst 1, 1) := by decide +kernel
theorem dX3_tie_13 : decode cX3_tie 13 = .ok (.iadd, 1) := by decide +kernel
theorem dX3_tie_14 : decode cX3_tie 14 = .ok (.iconst (-1), 1) := by decide +kernel
theorem dX3_tie_15 : decode cX3_tie 15 = .ok (.iastore, 1) := by decide +kernel
theorem dX3_tie_16 : decode cX3_tie 16 = .ok (.aload_n 0, 1) := by decide +kernel
theorem dX3_tie_17 : decode cX3_tie 17 = .ok (.getfield 24, 3) := by decide +kernel
theorem dX3_tie_20 : decode cX3_tie 20 = .ok (.iload_n 1, 1) := by decide +kernel
theorem dX3_tie_21 : decode cX3_tie 21 = .ok (.iload_n 2, 1) := by decide +kernel
theorem dX3_tie_22 : decode cX3_tie 22 = .ok (.iastore, 1) := by decide +kernel
theorem dX3_tie_23 : decode cX3_tie 23 = .ok (.aload_n 0, 1) := by decide +kernel
theorem dX3_tie_24 : decode cX3_tie 24 = .ok (.getfield 24, 3) := by decide +kernel
theorem dX3_tie_27 : decode cX3_tie 27 = .ok (.iload_n 1, 1) := by decide +kernel
theorem dX3_tie_28 : decode cX3_tie 28 = .ok (.iconst 1, 1) := by decide +kernel
theorem dX3_tie_29 : decode cX3_tie 29 = .ok (.iadd, 1) := by decide +kernel
theorem dX3_tie_30 : decode cX3_tie 30 = .ok (.iload_n 2, 1) := by decide +kernel
theorem dX3_tie_31 : decode cX3_tie 31 = .ok (.iastore, 1) := by decide +kernel
theorem dX3_tie_32 : decode cX3_tie 32 = .ok (.return_, 1) := by decide +kernel
theorem dX3_loosen_0 : decode cX3_loosen 0 = .ok (.iconst 0, 1) := by decide +kernel
theorem dX3_loosen_1 : decode cX3_loosen 1 = .ok (.istore_n 1, 1) := by decide +kernel
theorem dX3_loosen_2 : decode cX3_loosen 2 = .ok (.iload_n 1, 1) := by decide +kernel
theorem dX3_loosen_3 : decode cX3_loosen 3 = .ok (.aload_n 0, 1) := by decide +kernel
theorem dX3_loosen_4 : decode cX3_loosen 4 = .ok (.getfield 30, 3) := by decide +kernel
theorem dX3_loosen_7 : decode cX3_loosen 7 = .ok (.if_icmp .ge 44, 3) := by decide +kernel
theorem dX3_loosen_10 : decode cX3_loosen 10 = .ok (.aload_n 0, 1) := by decide +kernel
theorem dX3_loosen_11 : decode cX3_loosen 11 = .ok (.getfield 24, 3) := by decide +kernel
theorem dX3_loosen_14 : decode cX3_loosen 14 = .ok (.iload_n 1, 1) := by decide +kernel
theorem dX3_loosen_15 : decode cX3_loosen 15 = .ok (.iaload, 1) := by decide +kernel
theorem dX3_loosen_16 : decode cX3_loosen 16 = .ok (.ifCond .le 13, 3) := by decide +kernel
theorem dX3_loosen_19 : decode cX3_loosen 19 = .ok (.aload_n 0, 1) := by decide +kernel
theorem dX3_loosen_20 : decode cX3_loosen 20 = .ok (.getfield 24, 3) := by decide +kernel
theorem dX3_loosen_23 : decode cX3_loosen 23 = .ok (.iload_n 1, 1) := by decide +kernel
theorem dX3_loosen_24 : decode cX3_loosen 24 = .ok (.dup2, 1) := by decide +kernel
theorem dX3_loosen_25 : decode cX3_loosen 25 = .ok (.iaload, 1) := by decide +kernel
theorem dX3_loosen_26 : decode cX3_loosen 26 = .ok (.iconst 1, 1) := by decide +kernel
theorem dX3_loosen_27 : decode cX3_loosen 27 = .ok (.isub, 1) := by decide +kernel
theorem dX3_loosen_28 : decode cX3_loosen 28 = .ok (.iastore, 1) := by decide +kernel
theorem dX3_loosen_29 : decode cX3_loosen 29 = .ok (.aload_n 0, 1) := by decide +kernel
theorem dX3_loosen_30 : decode cX3_loosen 30 = .ok (.getfield 24, 3) := by decide +kernel
theorem dX3_loosen_33 : decode cX3_loosen 33 = .ok (.iload_n 1, 1) := by decide +kernel
theorem dX3_loosen_34 : decode cX3_loosen 34 = .ok (.iaload, 1) := by decide +kernel
theorem dX3_loosen_35 : decode cX3_loosen 35 = .ok (.ifCond .ne 10, 3) := by decide +kernel
theorem dX3_loosen_38 : decode cX3_loosen 38 = .ok (.aload_n 0, 1) := by decide +kernel
theorem dX3_loosen_39 : decode cX3_loosen 39 = .ok (.getfield 21, 3) := by decide +kernel
theorem dX3_loosen_42 : decode cX3_loosen 42 = .ok (.iload_n 1, 1) := by decide +kernel
theorem dX3_loosen_43 : decode cX3_loosen 43 = .ok (.iconst 0, 1) := by decide +kernel
theorem dX3_loosen_44 : decode cX3_loosen 44 = .ok (.iastore, 1) := by decide +kernel
theorem dX3_loosen_45 : decode cX3_loosen 45 = .ok (.iinc 1 1, 3) := by decide +kernel
theorem dX3_loosen_48 : decode cX3_loosen 48 = .ok (.goto (-46), 3) := by decide +kernel
theorem dX3_loosen_51 : decode cX3_loosen 51 = .ok (.return_, 1) := by decide +kernel
theorem dX3_shownAt_0 : decode cX3_shownAt 0 = .ok (.bipush 10, 2) := by decide +kernel
theorem dX3_shownAt_2 : decode cX3_shownAt 2 = .ok (.iload_n 1, 1) := by decide +kernel
theorem dX3_shownAt_3 : decode cX3_shownAt 3 = .ok (.imul, 1) := by decide +kernel
theorem dX3_shownAt_4 : decode cX3_shownAt 4 = .ok (.iload_n 2, 1) := by decide +kernel
theorem dX3_shownAt_5 : decode cX3_shownAt 5 = .ok (.aload_n 0, 1) := by decide +kernel
theorem dX3_shownAt_6 : decode cX3_shownAt 6 = .ok (.getfield 18, 3) := by decide +kernel
theorem dX3_shownAt_9 : decode cX3_shownAt 9 = .ok (.iload_n 1, 1) := by decide +kernel
theorem dX3_shownAt_10 : decode cX3_shownAt 10 = .ok (.iaload, 1) := by decide +kernel
theorem dX3_shownAt_11 : decode cX3_shownAt 11 = .ok (.imul, 1) := by decide +kernel
theorem dX3_shownAt_12 : decode cX3_shownAt 12 = .ok (.iadd, 1) := by decide +kernel
theorem dX3_shownAt_13 : decode cX3_shownAt 13 = .ok (.ireturn, 1) := by decide +kernel
theorem dX3_sideAt_0 : decode cX3_sideAt 0 = .ok (.aload_n 0, 1) := by decide +kernel
theorem dX3_sideAt_1 : decode cX3_sideAt 1 = .ok (.iload_n 1, 1) := by decide +kernel
theorem dX3_sideAt_2 : decode cX3_sideAt 2 = .ok (.iload_n 2, 1) := by decide +kernel
theorem dX3_sideAt_3 : decode cX3_sideAt 3 = .ok (.invokevirtual 55, 3) := by decide +kernel
theorem dX3_sideAt_6 : decode cX3_sideAt 6 = .ok (.aload_n 0, 1) := by decide +kernel
theorem dX3_sideAt_7 : decode cX3_sideAt 7 = .ok (.iload_n 1, 1) := by decide +kernel
theorem dX3_sideAt_8 : decode cX3_sideAt 8 = .ok (.iconst 1, 1) := by decide +kernel
theorem dX3_sideAt_9 : decode cX3_sideAt 9 = .ok (.iadd, 1) := by decide +kernel
theorem dX3_sideAt_10 : decode cX3_sideAt 10 = .ok (.iload_n 2, 1) := by decide +kernel
theorem dX3_sideAt_11 : decode cX3_sideAt 11 = .ok (.invokevirtual 55, 3) := by decide +kernel
theorem dX3_sideAt_14 : decode cX3_sideAt 14 = .ok (.invokestatic 59, 3) := by decide +kernel
theorem dX3_sideAt_17 : decode cX3_sideAt 17 = .ok (.ireturn, 1) := by decide +kernel
theorem dX3_wouldTangle_0 : decode cX3_wouldTangle 0 = .ok (.aload_n 0, 1) := by decide +kernel
theorem dX3_wouldTangle_1 : decode cX3_wouldTangle 1 = .ok (.iload_n 1, 1) := by decide +kernel
theorem dX3_wouldTangle_2 : decode cX3_wouldTangle 2 = .ok (.iload_n 2, 1) := by decide +kernel
theorem dX3_wouldTangle_3 : decode cX3_wouldTangle 3 = .ok (.invokevirtual 62, 3) := by decide +kernel
theorem dX3_wouldTangle_6 : decode cX3_wouldTangle 6 = .ok (.istore_n 3, 1) := by decide +kernel
theorem dX3_wouldTangle_7 : decode cX3_wouldTangle 7 = .ok (.bipush 10, 2) := by decide +kernel
theorem dX3_wouldTangle_9 : decode cX3_wouldTangle 9 = .ok (.iload_n 1, 1) := by decide +kernel
theorem dX3_wouldTangle_10 : decode cX3_wouldTangle 10 = .ok (.iconst 1, 1) := by decide +kernel
theorem dX3_wouldTangle_11 : decode cX3_wouldTangle 11 = .ok (.iadd, 1) := by decide +kernel
theorem dX3_wouldTangle_12 : decode cX3_wouldTangle 12 = .ok (.imul, 1) := by decide +kernel
theorem dX3_wouldTangle_13 : decode cX3_wouldTangle 13 = .ok (.iload_n 2, 1) := by decide +kernel
theorem dX3_wouldTangle_14 : decode cX3_wouldTangle 14 = .ok (.aload_n 0, 1) := by decide +kernel
theorem dX3_wouldTangle_15 : decode cX3_wouldTangle 15 = .ok (.getfield 18, 3) := by decide +kernel
theorem dX3_wouldTangle_18 : decode cX3_wouldTangle 18 = .ok (.iload_n 1, 1) := by decide +kernel
theorem dX3_wouldTangle_19 : decode cX3_wouldTangle 19 = .ok (.iaload, 1) := by decide +kernel
theorem dX3_wouldTangle_20 : decode cX3_wouldTangle 20 = .ok (.imul, 1) := by decide +kernel
theorem dX3_wouldTangle_21 : decode cX3_wouldTangle 21 = .ok (.iadd, 1) := by decide +kernel
theorem dX3_wouldTangle_22 : decode cX3_wouldTangle 22 = .ok (.bipush 10, 2) := by decide +kernel
theorem dX3_wouldTangle_24 : decode cX3_wouldTangle 24 = .ok (.iload_n 1, 1) := by decide +kernel
theorem dX3_wouldTangle_25 : decode cX3_wouldTangle 25 = .ok (.imul, 1) := by decide +kernel
theorem dX3_wouldTangle_26 : decode cX3_wouldTangle 26 = .ok (.iload_n 2, 1) := by decide +kernel
theorem dX3_wouldTangle_27 : decode cX3_wouldTangle 27 = .ok (.aload_n 0, 1) := by decide +kernel
theorem dX3_wouldTangle_28 : decode cX3_wouldTangle 28 = .ok (.getfield 18, 3) := by decide +kernel
theorem dX3_wouldTangle_31 : decode cX3_wouldTangle 31 = .ok (.iload_n 1, 1) := by decide +kernel
theorem dX3_wouldTangle_32 : decode cX3_wouldTangle 32 = .ok (.iconst 1, 1) := by decide +kernel
theorem dX3_wouldTangle_33 : decode cX3_wouldTangle 33 = .ok (.iadd, 1) := by decide +kernel
theorem dX3_wouldTangle_34 : decode cX3_wouldTangle 34 = .ok (.iaload, 1) := by decide +kernel
theorem dX3_wouldTangle_35 : decode cX3_wouldTangle 35 = .ok (.imul, 1) := by decide +kernel
theorem dX3_wouldTangle_36 : decode cX3_wouldTangle 36 = .ok (.iadd, 1) := by decide +kernel
theorem dX3_wouldTangle_37 : decode cX3_wouldTangle 37 = .ok (.invokestatic 59, 3) := by decide +kernel
theorem dX3_wouldTangle_40 : decode cX3_wouldTangle 40 = .ok (.istore 4, 2) := by decide +kernel
theorem dX3_wouldTangle_42 : decode cX3_wouldTangle 42 = .ok (.iload_n 3, 1) := by decide +kernel
theorem dX3_wouldTangle_43 : decode cX3_wouldTangle 43 = .ok (.ifCond .eq 14, 3) := by decide +kernel
theorem dX3_wouldTangle_46 : decode cX3_wouldTangle 46 = .ok (.iload 4, 2) := by decide +kernel
theorem dX3_wouldTangle_48 : decode cX3_wouldTangle 48 = .ok (.ifCond .eq 9, 3) := by decide +kernel
theorem dX3_wouldTangle_51 : decode cX3_wouldTangle 51 = .ok (.iload_n 3, 1) := by decide +kernel
theorem dX3_wouldTangle_52 : decode cX3_wouldTangle 52 = .ok (.iload 4, 2) := by decide +kernel
theorem dX3_wouldTangle_54 : decode cX3_wouldTangle 54 = .ok (.if_icmp .ne 7, 3) := by decide +kernel
theorem dX3_wouldTangle_57 : decode cX3_wouldTangle 57 = .ok (.iconst 1, 1) := by decide +kernel
theorem dX3_wouldTangle_58 : decode cX3_wouldTangle 58 = .ok (.goto 4, 3) := by decide +kernel
theorem dX3_wouldTangle_61 : decode cX3_wouldTangle 61 = .ok (.iconst 0, 1) := by decide +kernel
theorem dX3_wouldTangle_62 : decode cX3_wouldTangle 62 = .ok (.ireturn, 1) := by decide +kernel
theorem dX3_canBeRead_0 : decode cX3_canBeRead 0 = .ok (.aload_n 0, 1) := by decide +kernel
theorem dX3_canBeRead_1 : decode cX3_canBeRead 1 = .ok (.iload_n 1, 1) := by decide +kernel
theorem dX3_canBeRead_2 : decode cX3_canBeRead 2 = .ok (.invokevirtual 51, 3) := by decide +kernel
theorem dX3_canBeRead_5 : decode cX3_canBeRead 5 = .ok (.ifCond .eq 5, 3) := by decide +kernel
theorem dX3_canBeRead_8 : decode cX3_canBeRead 8 = .ok (.iconst 0, 1) := by decide +kernel
theorem dX3_canBeRead_9 : decode cX3_canBeRead 9 = .ok (.ireturn, 1) := by decide +kernel
theorem dX3_canBeRead_10 : decode cX3_canBeRead 10 = .ok (.aload_n 0, 1) := by decide +kernel
theorem dX3_canBeRead_11 : decode cX3_canBeRead 11 = .ok (.iload_n 1, 1) := by decide +kernel
theorem dX3_canBeRead_12 : decode cX3_canBeRead 12 = .ok (.iload_n 2, 1) := by decide +kernel
theorem dX3_canBeRead_13 : decode cX3_canBeRead 13 = .ok (.invokevirtual 55, 3) := by decide +kernel
theorem dX3_canBeRead_16 : decode cX3_canBeRead 16 = .ok (.istore_n 3, 1) := by decide +kernel
theorem dX3_canBeRead_17 : decode cX3_canBeRead 17 = .ok (.iconst 0, 1) := by decide +kernel
theorem dX3_canBeRead_18 : decode cX3_canBeRead 18 = .ok (.istore 4, 2) := by decide +kernel
theorem dX3_canBeRead_20 : decode cX3_canBeRead 20 = .ok (.iload 4, 2) := by decide +kernel
theorem dX3_canBeRead_22 : decode cX3_canBeRead 22 = .ok (.aload_n 0, 1) := by decide +kernel
theorem dX3_canBeRead_23 : decode cX3_canBeRead 23 = .ok (.getfield 30, 3) := by decide +kernel
theorem dX3_canBeRead_26 : decode cX3_canBeRead 26 = .ok (.if_icmp .ge 28, 3) := by decide +kernel
theorem dX3_canBeRead_29 : decode cX3_canBeRead 29 = .ok (.iload 4, 2) := by decide +kernel
theorem dX3_canBeRead_31 : decode cX3_canBeRead 31 = .ok (.iload_n 1, 1) := by decide +kernel
theorem dX3_canBeRead_32 : decode cX3_canBeRead 32 = .ok (.if_icmp .eq 16, 3) := by decide +kernel
theorem dX3_canBeRead_35 : decode cX3_canBeRead 35 = .ok (.aload_n 0, 1) := by decide +kernel
theorem dX3_canBeRead_36 : decode cX3_canBeRead 36 = .ok (.iload 4, 2) := by decide +kernel
theorem dX3_canBeRead_38 : decode cX3_canBeRead 38 = .ok (.iload_n 2, 1) := by decide +kernel
theorem dX3_canBeRead_39 : decode cX3_canBeRead 39 = .ok (.invokevirtual 55, 3) := by decide +kernel
theorem dX3_canBeRead_42 : decode cX3_canBeRead 42 = .ok (.iload_n 3, 1) := by decide +kernel
theorem dX3_canBeRead_43 : decode cX3_canBeRead 43 = .ok (.if_icmp .ne 5, 3) := by decide +kernel
theorem dX3_canBeRead_46 : decode cX3_canBeRead 46 = .ok (.iconst 0, 1) := by decide +kernel
theorem dX3_canBeRead_47 : decode cX3_canBeRead 47 = .ok (.ireturn, 1) := by decide +kernel
theorem dX3_canBeRead_48 : decode cX3_canBeRead 48 = .ok (.iinc 4 1, 3) := by decide +kernel
theorem dX3_canBeRead_51 : decode cX3_canBeRead 51 = .ok (.goto (-31), 3) := by decide +kernel
theorem dX3_canBeRead_54 : decode cX3_canBeRead 54 = .ok (.iconst 1, 1) := by decide +kernel
theorem dX3_canBeRead_55 : decode cX3_canBeRead 55 = .ok (.ireturn, 1) := by decide +kernel
theorem dX4_init_0 : decode cX4_init 0 = .ok (.aload_n 0, 1) := by decide +kernel
theorem dX4_init_1 : decode cX4_init 1 = .ok (.invokespecial 3, 3) := by decide +kernel
theorem dX4_init_4 : decode cX4_init 4 = .ok (.aload_n 0, 1) := by decide +kernel
theorem dX4_init_5 : decode cX4_init 5 = .ok (.new 9, 3) := by decide +kernel
theorem dX4_init_8 : decode cX4_init 8 = .ok (.dup, 1) := by decide +kernel
theorem dX4_init_9 : decode cX4_init 9 = .ok (.invokespecial 11, 3) := by decide +kernel
theorem dX4_init_12 : decode cX4_init 12 = .ok (.putfield 12, 3) := by decide +kernel
theorem dX4_init_15 : decode cX4_init 15 = .ok (.aload_n 0, 1) := by decide +kernel
theorem dX4_init_16 : decode cX4_init 16 = .ok (.new 18, 3) := by decide +kernel
theorem dX4_init_19 : decode cX4_init 19 = .ok (.dup, 1) := by decide +kernel
theorem dX4_init_20 : decode cX4_init 20 = .ok (.invokespecial 20, 3) := by decide +kernel
theorem dX4_init_23 : decode cX4_init 23 = .ok (.putfield 21, 3) := by decide +kernel
theorem dX4_init_26 : decode cX4_init 26 = .ok (.aload_n 0, 1) := by decide +kernel
theorem dX4_init_27 : decode cX4_init 27 = .ok (.new 25, 3) := by decide +kernel
theorem dX4_init_30 : decode cX4_init 30 = .ok (.dup, 1) := by decide +kernel
theorem dX4_init_31 : decode cX4_init 31 = .ok (.invokespecial 27, 3) := by decide +kernel
theorem dX4_init_34 : decode cX4_init 34 = .ok (.putfield 28, 3) := by decide +kernel
theorem dX4_init_37 : decode cX4_init 37 = .ok (.aload_n 0, 1) := by decide +kernel
theorem dX4_init_38 : decode cX4_init 38 = .ok (.new 32, 3) := by decide +kernel
theorem dX4_init_41 : decode cX4_init 41 = .ok (.dup, 1) := by decide +kernel
theorem dX4_init_42 : decode cX4_init 42 = .ok (.invokespecial 34, 3) := by decide +kernel
theorem dX4_init_45 : decode cX4_init 45 = .ok (.putfield 35, 3) := by decide +kernel
theorem dX4_init_48 : decode cX4_init 48 = .ok (.aload_n 0, 1) := by decide +kernel
theorem dX4_init_49 : decode cX4_init 49 = .ok (.iconst 0, 1) := by decide +kernel
theorem dX4_init_50 : decode cX4_init 50 = .ok (.putfield 39, 3) := by decide +kernel
theorem dX4_init_53 : decode cX4_init 53 = .ok (.aload_n 0, 1) := by decide +kernel
theorem dX4_init_54 : decode cX4_init 54 = .ok (.iconst 0, 1) := by decide +kernel
theorem dX4_init_55 : decode cX4_init 55 = .ok (.putfield 43, 3) := by decide +kernel
theorem dX4_init_58 : decode cX4_init 58 = .ok (.aload_n 0, 1) := by decide +kernel
theorem dX4_init_59 : decode cX4_init 59 = .ok (.iconst 1, 1) := by decide +kernel
theorem dX4_init_60 : decode cX4_init 60 = .ok (.putfield 46, 3) := by decide +kernel
theorem dX4_init_63 : decode cX4_init 63 = .ok (.aload_n 0, 1) := by decide +kernel
theorem dX4_init_64 : decode cX4_init 64 = .ok (.iconst 0, 1) := by decide +kernel
theorem dX4_init_65 : decode cX4_init 65 = .ok (.putfield 49, 3) := by decide +kernel
theorem dX4_init_68 : decode cX4_init 68 = .ok (.aload_n 0, 1) := by decide +kernel
theorem dX4_init_69 : decode cX4_init 69 = .ok (.iconst 3, 1) := by decide +kernel
theorem dX4_init_70 : decode cX4_init 70 = .ok (.putfield 53, 3) := by decide +kernel
theorem dX4_init_73 : decode cX4_init 73 = .ok (.aload_n 0, 1) := by decide +kernel
theorem dX4_init_74 : decode cX4_init 74 = .ok (.iconst 0, 1) := by decide +kernel
theorem dX4_init_75 : decode cX4_init 75 = .ok (.putfield 56, 3) := by decide +kernel
theorem dX4_init_78 : decode cX4_init 78 = .ok (.return_, 1) := by decide +kernel
theorem dX4_copyFrom_0 : decode cX4_copyFrom 0 = .ok (.aload_n 0, 1) := by decide +kernel
theorem dX4_copyFrom_1 : decode cX4_copyFrom 1 = .ok (.getfield 12, 3) := by decide +kernel
theorem dX4_copyFrom_4 : decode cX4_copyFrom 4 = .ok (.aload_n 1, 1) := by decide +kernel
theorem dX4_copyFrom_5 : decode cX4_copyFrom 5 = .ok (.getfield 12, 3) := by decide +kernel
theorem dX4_copyFrom_8 : decode cX4_copyFrom 8 = .ok (.invokevirtual 59, 3) := by decide +kernel
theorem dX4_copyFrom_11 : decode cX4_copyFrom 11 = .ok (.aload_n 0, 1) := by decide +kernel
theorem dX4_copyFrom_12 : decode cX4_copyFrom 12 = .ok (.getfield 21, 3) := by decide +kernel
theorem dX4_copyFrom_15 : decode cX4_copyFrom 15 = .ok (.aload_n 1, 1) := by decide +kernel
theorem dX4_copyFrom_16 : decode cX4_copyFrom 16 = .ok (.getfield 21, 3) := by decide +kernel
theorem dX4_copyFrom_19 : decode cX4_copyFrom 19 = .ok (.invokevirtual 63, 3) := by decide +kernel
theorem dX4_copyFrom_22 : decode cX4_copyFrom 22 = .ok (.aload_n 0, 1) := by decide +kernel
theorem dX4_copyFrom_23 : decode cX4_copyFrom 23 = .ok (.getfield 28, 3) := by decide +kernel
theorem dX4_copyFrom_26 : decode cX4_copyFrom 26 = .ok (.aload_n 1, 1) := by decide +kernel
theorem dX4_copyFrom_27 : decode cX4_copyFrom 27 = .ok (.getfield 28, 3) := by decide +kernel
theorem dX4_copyFrom_30 : decode cX4_copyFrom 30 = .ok (.invokevirtual 66, 3) := by decide +kernel
theorem dX4_copyFrom_33 : decode cX4_copyFrom 33 = .ok (.aload_n 0, 1) := by decide +kernel
theorem dX4_copyFrom_34 : decode cX4_copyFrom 34 = .ok (.getfield 35, 3) := by decide +kernel
theorem dX4_copyFrom_37 : decode cX4_copyFrom 37 = .ok (.aload_n 1, 1) := by decide +kernel
theorem dX4_copyFrom_38 : decode cX4_copyFrom 38 = .ok (.getfield 35, 3) := by decide +kernel
theorem dX4_copyFrom_41 : decode cX4_copyFrom 41 = .ok (.invokevirtual 69, 3) := by decide +kernel
theorem dX4_copyFrom_44 : decode cX4_copyFrom 44 = .ok (.aload_n 0, 1) := by decide +kernel
theorem dX4_copyFrom_45 : decode cX4_copyFrom 45 = .ok (.aload_n 1, 1) := by decide +kernel
theorem dX4_copyFrom_46 : decode cX4_copyFrom 46 = .ok (.getfield 39, 3) := by decide +kernel
theorem dX4_copyFrom_49 : decode cX4_copyFrom 49 = .ok (.putfield 39, 3) := by decide +kernel
theorem dX4_copyFrom_52 : decode cX4_copyFrom 52 = .ok (.aload_n 0, 1) := by decide +kernel
theorem dX4_copyFrom_53 : decode cX4_copyFrom 53 = .ok (.aload_n 1, 1) := by decide +kernel
theorem dX4_copyFrom_54 : decode cX4_copyFrom 54 = .ok (.getfield 43, 3) := by decide +kernel
theorem dX4_copyFrom_57 : decode cX4_copyFrom 57 = .ok (.putfield 43, 3) := by decide +kernel
theorem dX4_copyFrom_60 : decode cX4_copyFrom 60 = .ok (.aload_n 0, 1) := by decide +kernel
theorem dX4_copyFrom_61 : decode cX4_copyFrom 61 = .ok (.aload_n 1, 1) := by decide +kernel
theorem dX4_copyFrom_62 : decode cX4_copyFrom 62 = .ok (.getfield 46, 3) := by decide +kernel
theorem dX4_copyFrom_65 : decode cX4_copyFrom 65 = .ok (.putfield 46, 3) := by decide +kernel
theorem dX4_copyFrom_68 : decode cX4_copyFrom 68 = .ok (.aload_n 0, 1) := by decide +kernel
theorem dX4_copyFrom_69 : decode cX4_copyFrom 69 = .ok (.aload_n 1, 1) := by decide +kernel
theorem dX4_copyFrom_70 : decode cX4_copyFrom 70 = .ok (.getfield 49, 3) := by decide +kernel
theorem dX4_copyFrom_73 : decode cX4_copyFrom 73 = .ok (.putfield 49, 3) := by decide +kernel
theorem dX4_copyFrom_76 : decode cX4_copyFrom 76 = .ok (.aload_n 0, 1) := by decide +kernel
theorem dX4_copyFrom_77 : decode cX4_copyFrom 77 = .ok (.aload_n 1, 1) := by decide +kernel
theorem dX4_copyFrom_78 : decode cX4_copyFrom 78 = .ok (.getfield 53, 3) := by decide +kernel
theorem dX4_copyFrom_81 : decode cX4_copyFrom 81 = .ok (.putfield 53, 3) := by decide +kernel
theorem dX4_copyFrom_84 : decode cX4_copyFrom 84 = .ok (.aload_n 0, 1) := by decide +kernel
theorem dX4_copyFrom_85 : decode cX4_copyFrom 85 = .ok (.aload_n 1, 1) := by decide +kernel
theorem dX4_copyFrom_86 : decode cX4_copyFrom 86 = .ok (.getfield 56, 3) := by decide +kernel
theorem dX4_copyFrom_89 : decode cX4_copyFrom 89 = .ok (.putfield 56, 3) := by decide +kernel
theorem dX4_copyFrom_92 : decode cX4_copyFrom 92 = .ok (.return_, 1) := by decide +kernel
theorem dX4_drift_0 : decode cX4_drift 0 = .ok (.aload_n 0, 1) := by decide +kernel
theorem dX4_drift_1 : decode cX4_drift 1 = .ok (.getfield 43, 3) := by decide +kernel
theorem dX4_drift_4 : decode cX4_drift 4 = .ok (.iconst 1, 1) := by decide +kernel
theorem dX4_drift_5 : decode cX4_drift 5 = .ok (.if_icmp .ne 8, 3) := by decide +kernel
theorem dX4_drift_8 : decode cX4_drift 8 = .ok (.aload_n 0, 1) := by decide +kernel
theorem dX4_drift_9 : decode cX4_drift 9 = .ok (.getfield 46, 3) := by decide +kernel
theorem dX4_drift_12 : decode cX4_drift 12 = .ok (.ireturn, 1) := by decide +kernel
theorem dX4_drift_13 : decode cX4_drift 13 = .ok (.aload_n 0, 1) := by decide +kernel
theorem dX4_drift_14 : decode cX4_drift 14 = .ok (.getfield 43, 3) := by decide +kernel
theorem dX4_drift_17 : decode cX4_drift 17 = .ok (.iconst 3, 1) := by decide +kernel
theorem dX4_drift_18 : decode cX4_drift 18 = .ok (.if_icmp .ne 11, 3) := by decide +kernel
theorem dX4_drift_21 : decode cX4_drift 21 = .ok (.aload_n 0, 1) := by decide +kernel
theorem dX4_drift_22 : decode cX4_drift 22 = .ok (.getfield 46, 3) := by decide +kernel
theorem dX4_drift_25 : decode cX4_drift 25 = .ok (.ineg, 1) := by decide +kernel
theorem dX4_drift_26 : decode cX4_drift 26 = .ok (.goto 4, 3) := by decide +kernel
theorem dX4_drift_29 : decode cX4_drift 29 = .ok (.iconst 0, 1) := by decide +kernel
theorem dX4_drift_30 : decode cX4_drift 30 = .ok (.ireturn, 1) := by decide +kernel
theorem dX4_tradePlaces_0 : decode cX4_tradePlaces 0 = .ok (.aload_n 0, 1) := by decide +kernel
theorem dX4_tradePlaces_1 : decode cX4_tradePlaces 1 = .ok (.getfield 12, 3) := by decide +kernel
theorem dX4_tradePlaces_4 : decode cX4_tradePlaces 4 = .ok (.iload_n 1, 1) := by decide +kernel
theorem dX4_tradePlaces_5 : decode cX4_tradePlaces 5 = .ok (.aload_n 0, 1) := by decide +kernel
theorem dX4_tradePlaces_6 : decode cX4_tradePlaces 6 = .ok (.invokevirtual 72, 3) := by decide +kernel
theorem dX4_tradePlaces_9 : decode cX4_tradePlaces 9 = .ok (.invokevirtual 76, 3) := by decide +kernel
theorem dX4_tradePlaces_12 : decode cX4_tradePlaces 12 = .ok (.istore_n 2, 1) := by decide +kernel
theorem dX4_tradePlaces_13 : decode cX4_tradePlaces 13 = .ok (.aload_n 0, 1) := by decide +kernel
theorem dX4_tradePlaces_14 : decode cX4_tradePlaces 14 = .ok (.getfield 12, 3) := by decide +kernel
theorem dX4_tradePlaces_17 : decode cX4_tradePlaces 17 = .ok (.iload_n 1, 1) := by decide +kernel
theorem dX4_tradePlaces_18 : decode cX4_tradePlaces 18 = .ok (.invokevirtual 80, 3) := by decide +kernel
theorem dX4_tradePlaces_21 : decode cX4_tradePlaces 21 = .ok (.aload_n 0, 1) := by decide +kernel
theorem dX4_tradePlaces_22 : decode cX4_tradePlaces 22 = .ok (.dup, 1) := by decide +kernel
theorem dX4_tradePlaces_23 : decode cX4_tradePlaces 23 = .ok (.getfield 56, 3) := by decide +kernel
theorem dX4_tradePlaces_26 : decode cX4_tradePlaces 26 = .ok (.iconst 1, 1) := by decide +kernel
theorem dX4_tradePlaces_27 : decode cX4_tradePlaces 27 = .ok (.iadd, 1) := by decide +kernel
theorem dX4_tradePlaces_28 : decode cX4_tradePlaces 28 = .ok (.putfield 56, 3) := by decide +kernel
theorem dX4_tradePlaces_31 : decode cX4_tradePlaces 31 = .ok (.iload_n 2, 1) := by decide +kernel
theorem dX4_tradePlaces_32 : decode cX4_tradePlaces 32 = .ok (.ifCond .eq 9, 3) := by decide +kernel
theorem dX4_tradePlaces_35 : decode cX4_tradePlaces 35 = .ok (.aload_n 0, 1) := by decide +kernel
theorem dX4_tradePlaces_36 : decode cX4_tradePlaces 36 = .ok (.iload_n 1, 1) := by decide +kernel
theorem dX4_tradePlaces_37 : decode cX4_tradePlaces 37 = .ok (.iconst 1, 1) := by decide +kernel
theorem dX4_tradePlaces_38 : decode cX4_tradePlaces 38 = .ok (.invokevirtual 84, 3) := by decide +kernel
theorem dX4_tradePlaces_41 : decode cX4_tradePlaces 41 = .ok (.aload_n 0, 1) := by decide +kernel
theorem dX4_tradePlaces_42 : decode cX4_tradePlaces 42 = .ok (.invokevirtual 88, 3) := by decide +kernel
theorem dX4_tradePlaces_45 : decode cX4_tradePlaces 45 = .ok (.pop, 1) := by decide +kernel
theorem dX4_tradePlaces_46 : decode cX4_tradePlaces 46 = .ok (.iload_n 2, 1) := by decide +kernel
theorem dX4_tradePlaces_47 : decode cX4_tradePlaces 47 = .ok (.ireturn, 1) := by decide +kernel
theorem dX4_passMinute_0 : decode cX4_passMinute 0 = .ok (.aload_n 0, 1) := by decide +kernel
theorem dX4_passMinute_1 : decode cX4_passMinute 1 = .ok (.dup, 1) := by decide +kernel
theorem dX4_passMinute_2 : decode cX4_passMinute 2 = .ok (.getfield 39, 3) := by decide +kernel
theorem dX4_passMinute_5 : decode cX4_passMinute 5 = .ok (.iconst 1, 1) := by decide +kernel
theorem dX4_passMinute_6 : decode cX4_passMinute 6 = .ok (.iadd, 1) := by decide +kernel
theorem dX4_passMinute_7 : decode cX4_passMinute 7 = .ok (.putfield 39, 3) := by decide +kernel
theorem dX4_passMinute_10 : decode cX4_passMinute 10 = .ok (.aload_n 0, 1) := by decide +kernel
theorem dX4_passMinute_11 : decode cX4_passMinute 11 = .ok (.getfield 12, 3) := by decide +kernel
theorem dX4_passMinute_14 : decode cX4_passMinute 14 = .ok (.invokevirtual 91, 3) := by decide +kernel
theorem dX4_passMinute_17 : decode cX4_passMinute 17 = .ok (.aload_n 0, 1) := by decide +kernel
theorem dX4_passMinute_18 : decode cX4_passMinute 18 = .ok (.getfield 21, 3) := by decide +kernel
theorem dX4_passMinute_21 : decode cX4_passMinute 21 = .ok (.aload_n 0, 1) := by decide +kernel
theorem dX4_passMinute_22 : decode cX4_passMinute 22 = .ok (.getfield 39, 3) := by decide +kernel
theorem dX4_passMinute_25 : decode cX4_passMinute 25 = .ok (.invokevirtual 94, 3) := by decide +kernel
theorem dX4_passMinute_28 : decode cX4_passMinute 28 = .ok (.istore_n 1, 1) := by decide +kernel
theorem dX4_passMinute_29 : decode cX4_passMinute 29 = .ok (.iload_n 1, 1) := by decide +kernel
theorem dX4_passMinute_30 : decode cX4_passMinute 30 = .ok (.iconst (-1), 1) := by decide +kernel
theorem dX4_passMinute_31 : decode cX4_passMinute 31 = .ok (.if_icmp .ne 5, 3) := by decide +kernel
theorem dX4_passMinute_34 : decode cX4_passMinute 34 = .ok (.iconst 0, 1) := by decide +kernel
theorem dX4_passMinute_35 : decode cX4_passMinute 35 = .ok (.ireturn, 1) := by decide +kernel
theorem dX4_passMinute_36 : decode cX4_passMinute 36 = .ok (.aload_n 0, 1) := by decide +kernel
theorem dX4_passMinute_37 : decode cX4_passMinute 37 = .ok (.getfield 21, 3) := by decide +kernel
theorem dX4_passMinute_40 : decode cX4_passMinute 40 = .ok (.getfield 98, 3) := by decide +kernel
theorem dX4_passMinute_43 : decode cX4_passMinute 43 = .ok (.iload_n 1, 1) := by decide +kernel
theorem dX4_passMinute_44 : decode cX4_passMinute 44 = .ok (.iaload, 1) := by decide +kernel
theorem dX4_passMinute_45 : decode cX4_passMinute 45 = .ok (.istore_n 2, 1) := by decide +kernel
theorem dX4_passMinute_46 : decode cX4_passMinute 46 = .ok (.aload_n 0, 1) := by decide +kernel
theorem dX4_passMinute_47 : decode cX4_passMinute 47 = .ok (.getfield 21, 3) := by decide +kernel
theorem dX4_passMinute_50 : decode cX4_passMinute 50 = .ok (.getfield 101, 3) := by decide +kernel
theorem dX4_passMinute_53 : decode cX4_passMinute 53 = .ok (.iload_n 1, 1) := by decide +kernel
theorem dX4_passMinute_54 : decode cX4_passMinute 54 = .ok (.iaload, 1) := by decide +kernel
theorem dX4_passMinute_55 : decode cX4_passMinute 55 = .ok (.istore_n 3, 1) := by decide +kernel
theorem dX4_passMinute_56 : decode cX4_passMinute 56 = .ok (.aload_n 0, 1) := by decide +kernel
theorem dX4_passMinute_57 : decode cX4_passMinute 57 = .ok (.getfield 21, 3) := by decide +kernel
theorem dX4_passMinute_60 : decode cX4_passMinute 60 = .ok (.iload_n 1, 1) := by decide +kernel
theorem dX4_passMinute_61 : decode cX4_passMinute 61 = .ok (.invokevirtual 103, 3) := by decide +kernel
theorem dX4_passMinute_64 : decode cX4_passMinute 64 = .ok (.aload_n 0, 1) := by decide +kernel
theorem dX4_passMinute_65 : decode cX4_passMinute 65 = .ok (.iload_n 2, 1) := by decide +kernel
theorem dX4_passMinute_66 : decode cX4_passMinute 66 = .ok (.iload_n 3, 1) := by decide +kernel
theorem dX4_passMinute_67 : decode cX4_passMinute 67 = .ok (.invokevirtual 106, 3) := by decide +kernel
theorem dX4_passMinute_70 : decode cX4_passMinute 70 = .ok (.ireturn, 1) := by decide +kernel
theorem dX4_turnWind_0 : decode cX4_turnWind 0 = .ok (.aload_n 0, 1) := by decide +kernel
theorem dX4_turnWind_1 : decode cX4_turnWind 1 = .ok (.invokevirtual 72, 3) := by decide +kernel
theorem dX4_turnWind_4 : decode cX4_turnWind 4 = .ok (.istore_n 3, 1) := by decide +kernel
theorem dX4_turnWind_5 : decode cX4_turnWind 5 = .ok (.aload_n 0, 1) := by decide +kernel
theorem dX4_turnWind_6 : decode cX4_turnWind 6 = .ok (.iload_n 1, 1) := by decide +kernel
theorem dX4_turnWind_7 : decode cX4_turnWind 7 = .ok (.putfield 43, 3) := by decide +kernel
theorem dX4_turnWind_10 : decode cX4_turnWind 10 = .ok (.aload_n 0, 1) := by decide +kernel
theorem dX4_turnWind_11 : decode cX4_turnWind 11 = .ok (.iload_n 2, 1) := by decide +kernel
theorem dX4_turnWind_12 : decode cX4_turnWind 12 = .ok (.putfield 46, 3) := by decide +kernel
theorem dX4_turnWind_15 : decode cX4_turnWind 15 = .ok (.iconst 0, 1) := by decide +kernel
theorem dX4_turnWind_16 : decode cX4_turnWind 16 = .ok (.istore 4, 2) := by decide +kernel
theorem dX4_turnWind_18 : decode cX4_turnWind 18 = .ok (.iconst 0, 1) := by decide +kernel
theorem dX4_turnWind_19 : decode cX4_turnWind 19 = .ok (.istore 5, 2) := by decide +kernel
theorem dX4_turnWind_21 : decode cX4_turnWind 21 = .ok (.iload 5, 2) := by decide +kernel
theorem dX4_turnWind_23 : decode cX4_turnWind 23 = .ok (.aload_n 0, 1) := by decide +kernel
theorem dX4_turnWind_24 : decode cX4_turnWind 24 = .ok (.getfield 12, 3) := by decide +kernel
theorem dX4_turnWind_27 : decode cX4_turnWind 27 = .ok (.getfield 110, 3) := by decide +kernel
theorem dX4_turnWind_30 : decode cX4_turnWind 30 = .ok (.iconst 1, 1) := by decide +kernel
theorem dX4_turnWind_31 : decode cX4_turnWind 31 = .ok (.isub, 1) := by decide +kernel
theorem dX4_turnWind_32 : decode cX4_turnWind 32 = .ok (.if_icmp .ge 57, 3) := by decide +kernel
theorem dX4_turnWind_35 : decode cX4_turnWind 35 = .ok (.aload_n 0, 1) := by decide +kernel
theorem dX4_turnWind_36 : decode cX4_turnWind 36 = .ok (.getfield 12, 3) := by decide +kernel
theorem dX4_turnWind_39 : decode cX4_turnWind 39 = .ok (.iload 5, 2) := by decide +kernel
theorem dX4_turnWind_41 : decode cX4_turnWind 41 = .ok (.invokevirtual 113, 3) := by decide +kernel
theorem dX4_turnWind_44 : decode cX4_turnWind 44 = .ok (.ifCond .eq 39, 3) := by decide +kernel
theorem dX4_turnWind_47 : decode cX4_turnWind 47 = .ok (.aload_n 0, 1) := by decide +kernel
theorem dX4_turnWind_48 : decode cX4_turnWind 48 = .ok (.getfield 12, 3) := by decide +kernel
theorem dX4_turnWind_51 : decode cX4_turnWind 51 = .ok (.iload 5, 2) := by decide +kernel
theorem dX4_turnWind_53 : decode cX4_turnWind 53 = .ok (.iload_n 3, 1) := by decide +kernel
theorem dX4_turnWind_54 : decode cX4_turnWind 54 = .ok (.invokevirtual 117, 3) := by decide +kernel
theorem dX4_turnWind_57 : decode cX4_turnWind 57 = .ok (.aload_n 0, 1) := by decide +kernel
theorem dX4_turnWind_58 : decode cX4_turnWind 58 = .ok (.getfield 12, 3) := by decide +kernel
theorem dX4_turnWind_61 : decode cX4_turnWind 61 = .ok (.iload 5, 2) := by decide +kernel
theorem dX4_turnWind_63 : decode cX4_turnWind 63 = .ok (.aload_n 0, 1) := by decide +kernel
theorem dX4_turnWind_64 : decode cX4_turnWind 64 = .ok (.invokevirtual 72, 3) := by decide +kernel
theorem dX4_turnWind_67 : decode cX4_turnWind 67 = .ok (.invokevirtual 117, 3) := by decide +kernel
theorem dX4_turnWind_70 : decode cX4_turnWind 70 = .ok (.if_icmp .eq 13, 3) := by decide +kernel
theorem dX4_turnWind_73 : decode cX4_turnWind 73 = .ok (.aload_n 0, 1) := by decide +kernel
theorem dX4_turnWind_74 : decode cX4_turnWind 74 = .ok (.iload 5, 2) := by decide +kernel
theorem dX4_turnWind_76 : decode cX4_turnWind 76 = .ok (.iconst 0, 1) := by decide +kernel
theorem dX4_turnWind_77 : decode cX4_turnWind 77 = .ok (.invokevirtual 84, 3) := by decide +kernel
theorem dX4_turnWind_80 : decode cX4_turnWind 80 = .ok (.iinc 4 1, 3) := by decide +kernel
theorem dX4_turnWind_83 : decode cX4_turnWind 83 = .ok (.iinc 5 1, 3) := by decide +kernel
theorem dX4_turnWind_86 : decode cX4_turnWind 86 = .ok (.goto (-65), 3) := by decide +kernel
theorem dX4_turnWind_89 : decode cX4_turnWind 89 = .ok (.iload 4, 2) := by decide +kernel
theorem dX4_turnWind_91 : decode cX4_turnWind 91 = .ok (.ireturn, 1) := by decide +kernel
theorem dX4_isSafe_0 : decode cX4_isSafe 0 = .ok (.aload_n 0, 1) := by decide +kernel
theorem dX4_isSafe_1 : decode cX4_isSafe 1 = .ok (.getfield 12, 3) := by decide +kernel
theorem dX4_isSafe_4 : decode cX4_isSafe 4 = .ok (.iload_n 1, 1) := by decide +kernel
theorem dX4_isSafe_5 : decode cX4_isSafe 5 = .ok (.invokevirtual 113, 3) := by decide +kernel
theorem dX4_isSafe_8 : decode cX4_isSafe 8 = .ok (.ifCond .eq 22, 3) := by decide +kernel
theorem dX4_isSafe_11 : decode cX4_isSafe 11 = .ok (.aload_n 0, 1) := by decide +kernel
theorem dX4_isSafe_12 : decode cX4_isSafe 12 = .ok (.getfield 12, 3) := by decide +kernel
theorem dX4_isSafe_15 : decode cX4_isSafe 15 = .ok (.iload_n 1, 1) := by decide +kernel
theorem dX4_isSafe_16 : decode cX4_isSafe 16 = .ok (.aload_n 0, 1) := by decide +kernel
theorem dX4_isSafe_17 : decode cX4_isSafe 17 = .ok (.invokevirtual 72, 3) := by decide +kernel
theorem dX4_isSafe_20 : decode cX4_isSafe 20 = .ok (.invokevirtual 76, 3) := by decide +kernel
theorem dX4_isSafe_23 : decode cX4_isSafe 23 = .ok (.ifCond .ne 7, 3) := by decide +kernel
theorem dX4_isSafe_26 : decode cX4_isSafe 26 = .ok (.iconst 1, 1) := by decide +kernel
theorem dX4_isSafe_27 : decode cX4_isSafe 27 = .ok (.goto 4, 3) := by decide +kernel
theorem dX4_isSafe_30 : decode cX4_isSafe 30 = .ok (.iconst 0, 1) := by decide +kernel
theorem dX4_isSafe_31 : decode cX4_isSafe 31 = .ok (.ireturn, 1) := by decide +kernel
theorem dX4_isAtRest_0 : decode cX4_isAtRest 0 = .ok (.aload_n 0, 1) := by decide +kernel
theorem dX4_isAtRest_1 : decode cX4_isAtRest 1 = .ok (.getfield 21, 3) := by decide +kernel
theorem dX4_isAtRest_4 : decode cX4_isAtRest 4 = .ok (.getfield 120, 3) := by decide +kernel
theorem dX4_isAtRest_7 : decode cX4_isAtRest 7 = .ok (.ifCond .le 5, 3) := by decide +kernel
theorem dX4_isAtRest_10 : decode cX4_isAtRest 10 = .ok (.iconst 0, 1) := by decide +kernel
theorem dX4_isAtRest_11 : decode cX4_isAtRest 11 = .ok (.ireturn, 1) := by decide +kernel
theorem dX4_isAtRest_12 : decode cX4_isAtRest 12 = .ok (.iconst 0, 1) := by decide +kernel
theorem dX4_isAtRest_13 : decode cX4_isAtRest 13 = .ok (.istore_n 1, 1) := by decide +kernel
theorem dX4_isAtRest_14 : decode cX4_isAtRest 14 = .ok (.iload_n 1, 1) := by decide +kernel
theorem dX4_isAtRest_15 : decode cX4_isAtRest 15 = .ok (.aload_n 0, 1) := by decide +kernel
theorem dX4_isAtRest_16 : decode cX4_isAtRest 16 = .ok (.getfield 12, 3) := by decide +kernel
theorem dX4_isAtRest_19 : decode cX4_isAtRest 19 = .ok (.getfield 110, 3) := by decide +kernel
theorem dX4_isAtRest_22 : decode cX4_isAtRest 22 = .ok (.if_icmp .ge 22, 3) := by decide +kernel
theorem dX4_isAtRest_25 : decode cX4_isAtRest 25 = .ok (.aload_n 0, 1) := by decide +kernel
theorem dX4_isAtRest_26 : decode cX4_isAtRest 26 = .ok (.getfield 12, 3) := by decide +kernel
theorem dX4_isAtRest_29 : decode cX4_isAtRest 29 = .ok (.iload_n 1, 1) := by decide +kernel
theorem dX4_isAtRest_30 : decode cX4_isAtRest 30 = .ok (.invokevirtual 121, 3) := by decide +kernel
theorem dX4_isAtRest_33 : decode cX4_isAtRest 33 = .ok (.ifCond .eq 5, 3) := by decide +kernel
theorem dX4_isAtRest_36 : decode cX4_isAtRest 36 = .ok (.iconst 0, 1) := by decide +kernel
theorem dX4_isAtRest_37 : decode cX4_isAtRest 37 = .ok (.ireturn, 1) := by decide +kernel
theorem dX4_isAtRest_38 : decode cX4_isAtRest 38 = .ok (.iinc 1 1, 3) := by decide +kernel
theorem dX4_isAtRest_41 : decode cX4_isAtRest 41 = .ok (.goto (-27), 3) := by decide +kernel
theorem dX4_isAtRest_44 : decode cX4_isAtRest 44 = .ok (.iconst 1, 1) := by decide +kernel
theorem dX4_isAtRest_45 : decode cX4_isAtRest 45 = .ok (.ireturn, 1) := by decide +kernel
theorem dX4_tangleAt_0 : decode cX4_tangleAt 0 = .ok (.aload_n 0, 1) := by decide +kernel
theorem dX4_tangleAt_1 : decode cX4_tangleAt 1 = .ok (.getfield 12, 3) := by decide +kernel
theorem dX4_tangleAt_4 : decode cX4_tangleAt 4 = .ok (.iload_n 1, 1) := by decide +kernel
theorem dX4_tangleAt_5 : decode cX4_tangleAt 5 = .ok (.aload_n 0, 1) := by decide +kernel
theorem dX4_tangleAt_6 : decode cX4_tangleAt 6 = .ok (.getfield 53, 3) := by decide +kernel
theorem dX4_tangleAt_9 : decode cX4_tangleAt 9 = .ok (.invokevirtual 124, 3) := by decide +kernel
theorem dX4_tangleAt_12 : decode cX4_tangleAt 12 = .ok (.aload_n 0, 1) := by decide +kernel
theorem dX4_tangleAt_13 : decode cX4_tangleAt 13 = .ok (.getfield 28, 3) := by decide +kernel
theorem dX4_tangleAt_16 : decode cX4_tangleAt 16 = .ok (.aload_n 0, 1) := by decide +kernel
theorem dX4_tangleAt_17 : decode cX4_tangleAt 17 = .ok (.getfield 39, 3) := by decide +kernel
theorem dX4_tangleAt_20 : decode cX4_tangleAt 20 = .ok (.aload_n 0, 1) := by decide +kernel
theorem dX4_tangleAt_21 : decode cX4_tangleAt 21 = .ok (.getfield 12, 3) := by decide +kernel
theorem dX4_tangleAt_24 : decode cX4_tangleAt 24 = .ok (.getfield 128, 3) := by decide +kernel
theorem dX4_tangleAt_27 : decode cX4_tangleAt 27 = .ok (.iload_n 1, 1) := by decide +kernel
theorem dX4_tangleAt_28 : decode cX4_tangleAt 28 = .ok (.iaload, 1) := by decide +kernel
theorem dX4_tangleAt_29 : decode cX4_tangleAt 29 = .ok (.aload_n 0, 1) := by decide +kernel
theorem dX4_tangleAt_30 : decode cX4_tangleAt 30 = .ok (.getfield 12, 3) := by decide +kernel
theorem dX4_tangleAt_33 : decode cX4_tangleAt 33 = .ok (.getfield 128, 3) := by decide +kernel
theorem dX4_tangleAt_36 : decode cX4_tangleAt 36 = .ok (.iload_n 1, 1) := by decide +kernel
theorem dX4_tangleAt_37 : decode cX4_tangleAt 37 = .ok (.iconst 1, 1) := by decide +kernel
theorem dX4_tangleAt_38 : decode cX4_tangleAt 38 = .ok (.iadd, 1) := by decide +kernel
theorem dX4_tangleAt_39 : decode cX4_tangleAt 39 = .ok (.iaload, 1) := by decide +kernel
theorem dX4_tangleAt_40 : decode cX4_tangleAt 40 = .ok (.iload_n 2, 1) := by decide +kernel
theorem dX4_tangleAt_41 : decode cX4_tangleAt 41 = .ok (.invokestatic 131, 3) := by decide +kernel
theorem dX4_tangleAt_44 : decode cX4_tangleAt 44 = .ok (.invokevirtual 135, 3) := by decide +kernel
theorem dX4_tangleAt_47 : decode cX4_tangleAt 47 = .ok (.return_, 1) := by decide +kernel
theorem dX5_init_0 : decode cX5_init 0 = .ok (.aload_n 0, 1) := by decide +kernel
theorem dX5_init_1 : decode cX5_init 1 = .ok (.invokespecial 3, 3) := by decide +kernel
theorem dX5_init_4 : decode cX5_init 4 = .ok (.aload_n 0, 1) := by decide +kernel
theorem dX5_init_5 : decode cX5_init 5 = .ok (.bipush 8, 2) := by decide +kernel
theorem dX5_init_7 : decode cX5_init 7 = .ok (.newarray .int, 2) := by decide +kernel
theorem dX5_init_9 : decode cX5_init 9 = .ok (.putfield 9, 3) := by decide +kernel
theorem dX5_init_12 : decode cX5_init 12 = .ok (.aload_n 0, 1) := by decide +kernel
theorem dX5_init_13 : decode cX5_init 13 = .ok (.bipush 8, 2) := by decide +kernel
theorem dX5_init_15 : decode cX5_init 15 = .ok (.newarray .int, 2) := by decide +kernel
theorem dX5_init_17 : decode cX5_init 17 = .ok (.putfield 15, 3) := by decide +kernel
theorem dX5_init_20 : decode cX5_init 20 = .ok (.aload_n 0, 1) := by decide +kernel
theorem dX5_init_21 : decode cX5_init 21 = .ok (.bipush 8, 2) := by decide +kernel
theorem dX5_init_23 : decode cX5_init 23 = .ok (.newarray .int, 2) := by decide +kernel
theorem dX5_init_25 : decode cX5_init 25 = .ok (.putfield 18, 3) := by decide +kernel
theorem dX5_init_28 : decode cX5_init 28 = .ok (.aload_n 0, 1) := by decide +kernel
theorem dX5_init_29 : decode cX5_init 29 = .ok (.bipush 8, 2) := by decide +kernel
theorem dX5_init_31 : decode cX5_init 31 = .ok (.newarray .int, 2) := by decide +kernel
theorem dX5_init_33 : decode cX5_init 33 = .ok (.putfield 21, 3) := by decide +kernel
theorem dX5_init_36 : decode cX5_init 36 = .ok (.aload_n 0, 1) := by decide +kernel
theorem dX5_init_37 : decode cX5_init 37 = .ok (.iconst 0, 1) := by decide +kernel
theorem dX5_init_38 : decode cX5_init 38 = .ok (.putfield 24, 3) := by decide +kernel
theorem dX5_init_41 : decode cX5_init 41 = .ok (.aload_n 0, 1) := by decide +kernel
theorem dX5_init_42 : decode cX5_init 42 = .ok (.iconst 0, 1) := by decide +kernel
theorem dX5_init_43 : decode cX5_init 43 = .ok (.putfield 28, 3) := by decide +kernel
theorem dX5_init_46 : decode cX5_init 46 = .ok (.return_, 1) := by decide +kernel
theorem dX5_copyFrom_0 : decode cX5_copyFrom 0 = .ok (.aload_n 1, 1) := by decide +kernel
theorem dX5_copyFrom_1 : decode cX5_copyFrom 1 = .ok (.getfield 9, 3) := by decide +kernel
theorem dX5_copyFrom_4 : decode cX5_copyFrom 4 = .ok (.iconst 0, 1) := by decide +kernel
theorem dX5_copyFrom_5 : decode cX5_copyFrom 5 = .ok (.aload_n 0, 1) := by decide +kernel
theorem dX5_copyFrom_6 : decode cX5_copyFrom 6 = .ok (.getfield 9, 3) := by decide +kernel
theorem dX5_copyFrom_9 : decode cX5_copyFrom 9 = .ok (.iconst 0, 1) := by decide +kernel
theorem dX5_copyFrom_10 : decode cX5_copyFrom 10 = .ok (.bipush 8, 2) := by decide +kernel
theorem dX5_copyFrom_12 : decode cX5_copyFrom 12 = .ok (.invokestatic 31, 3) := by decide +kernel
theorem dX5_copyFrom_15 : decode cX5_copyFrom 15 = .ok (.aload_n 1, 1) := by decide +kernel
theorem dX5_copyFrom_16 : decode cX5_copyFrom 16 = .ok (.getfield 15, 3) := by decide +kernel
theorem dX5_copyFrom_19 : decode cX5_copyFrom 19 = .ok (.iconst 0, 1) := by decide +kernel
theorem dX5_copyFrom_20 : decode cX5_copyFrom 20 = .ok (.aload_n 0, 1) := by decide +kernel
theorem dX5_copyFrom_21 : decode cX5_copyFrom 21 = .ok (.getfield 15, 3) := by decide +kernel
theorem dX5_copyFrom_24 : decode cX5_copyFrom 24 = .ok (.iconst 0, 1) := by decide +kernel
theorem dX5_copyFrom_25 : decode cX5_copyFrom 25 = .ok (.bipush 8, 2) := by decide +kernel
theorem dX5_copyFrom_27 : decode cX5_copyFrom 27 = .ok (.invokestatic 31, 3) := by decide +kernel
theorem dX5_copyFrom_30 : decode cX5_copyFrom 30 = .ok (.aload_n 1, 1) := by decide +kernel
theorem dX5_copyFrom_31 : decode cX5_copyFrom 31 = .ok (.getfield 18, 3) := by decide +kernel
theorem dX5_copyFrom_34 : decode cX5_copyFrom 34 = .ok (.iconst 0, 1) := by decide +kernel
theorem dX5_copyFrom_35 : decode cX5_copyFrom 35 = .ok (.aload_n 0, 1) := by decide +kernel
theorem dX5_copyFrom_36 : decode cX5_copyFrom 36 = .ok (.getfield 18, 3) := by decide +kernel
theorem dX5_copyFrom_39 : decode cX5_copyFrom 39 = .ok (.iconst 0, 1) := by decide +kernel
theorem dX5_copyFrom_40 : decode cX5_copyFrom 40 = .ok (.bipush 8, 2) := by decide +kernel
theorem dX5_copyFrom_42 : decode cX5_copyFrom 42 = .ok (.invokestatic 31, 3) := by decide +kernel
theorem dX5_copyFrom_45 : decode cX5_copyFrom 45 = .ok (.aload_n 1, 1) := by decide +kernel
theorem dX5_copyFrom_46 : decode cX5_copyFrom 46 = .ok (.getfield 21, 3) := by decide +kernel
theorem dX5_copyFrom_49 : decode cX5_copyFrom 49 = .ok (.iconst 0, 1) := by decide +kernel
theorem dX5_copyFrom_50 : decode cX5_copyFrom 50 = .ok (.aload_n 0, 1) := by decide +kernel
theorem dX5_copyFrom_51 : decode cX5_copyFrom 51 = .ok (.getfield 21, 3) := by decide +kernel
theorem dX5_copyFrom_54 : decode cX5_copyFrom 54 = .ok (.iconst 0, 1) := by decide +kernel
theorem dX5_copyFrom_55 : decode cX5_copyFrom 55 = .ok (.bipush 8, 2) := by decide +kernel
theorem dX5_copyFrom_57 : decode cX5_copyFrom 57 = .ok (.invokestatic 31, 3) := by decide +kernel
theorem dX5_copyFrom_60 : decode cX5_copyFrom 60 = .ok (.aload_n 0, 1) := by decide +kernel
theorem dX5_copyFrom_61 : decode cX5_copyFrom 61 = .ok (.aload_n 1, 1) := by decide +kernel
theorem dX5_copyFrom_62 : decode cX5_copyFrom 62 = .ok (.getfield 24, 3) := by decide +kernel
theorem dX5_copyFrom_65 : decode cX5_copyFrom 65 = .ok (.putfield 24, 3) := by decide +kernel
theorem dX5_copyFrom_68 : decode cX5_copyFrom 68 = .ok (.aload_n 0, 1) := by decide +kernel
theorem dX5_copyFrom_69 : decode cX5_copyFrom 69 = .ok (.aload_n 1, 1) := by decide +kernel
theorem dX5_copyFrom_70 : decode cX5_copyFrom 70 = .ok (.getfield 28, 3) := by decide +kernel
theorem dX5_copyFrom_73 : decode cX5_copyFrom 73 = .ok (.putfield 28, 3) := by decide +kernel
theorem dX5_copyFrom_76 : decode cX5_copyFrom 76 = .ok (.return_, 1) := by decide +kernel
theorem dX5_add_0 : decode cX5_add 0 = .ok (.bipush 7, 2) := by decide +kernel
theorem dX5_add_2 : decode cX5_add 2 = .ok (.istore 5, 2) := by decide +kernel
theorem dX5_add_4 : decode cX5_add 4 = .ok (.iload 5, 2) := by decide +kernel
theorem dX5_add_6 : decode cX5_add 6 = .ok (.ifCond .le 73, 3) := by decide +kernel
theorem dX5_add_9 : decode cX5_add 9 = .ok (.aload_n 0, 1) := by decide +kernel
theorem dX5_add_10 : decode cX5_add 10 = .ok (.getfield 9, 3) := by decide +kernel
theorem dX5_add_13 : decode cX5_add 13 = .ok (.iload 5, 2) := by decide +kernel
theorem dX5_add_15 : decode cX5_add 15 = .ok (.aload_n 0, 1) := by decide +kernel
theorem dX5_add_16 : decode cX5_add 16 = .ok (.getfield 9, 3) := by decide +kernel
theorem dX5_add_19 : decode cX5_add 19 = .ok (.iload 5, 2) := by decide +kernel
theorem dX5_add_21 : decode cX5_add 21 = .ok (.iconst 1, 1) := by decide +kernel
theorem dX5_add_22 : decode cX5_add 22 = .ok (.isub, 1) := by decide +kernel
theorem dX5_add_23 : decode cX5_add 23 = .ok (.iaload, 1) := by decide +kernel
theorem dX5_add_24 : decode cX5_add 24 = .ok (.iastore, 1) := by decide +kernel
theorem dX5_add_25 : decode cX5_add 25 = .ok (.aload_n 0, 1) := by decide +kernel
theorem dX5_add_26 : decode cX5_add 26 = .ok (.getfield 15, 3) := by decide +kernel
theorem dX5_add_29 : decode cX5_add 29 = .ok (.iload 5, 2) := by decide +kernel
theorem dX5_add_31 : decode cX5_add 31 = .ok (.aload_n 0, 1) := by decide +kernel
theorem dX5_add_32 : decode cX5_add 32 = .ok (.getfield 15, 3) := by decide +kernel
theorem dX5_add_35 : decode cX5_add 35 = .ok (.iload 5, 2) := by decide +kernel
theorem dX5_add_37 : decode cX5_add 37 = .ok (.iconst 1, 1) := by decide +kernel
theorem dX5_add_38 : decode cX5_add 38 = .ok (.isub, 1) := by decide +kernel
theorem dX5_add_39 : decode cX5_add 39 = .ok (.iaload, 1) := by decide +kernel
theorem dX5_add_40 : decode cX5_add 40 = .ok (.iastore, 1) := by decide +kernel
theorem dX5_add_41 : decode cX5_add 41 = .ok (.aload_n 0, 1) := by decide +kernel
theorem dX5_add_42 : decode cX5_add 42 = .ok (.getfield 18, 3) := by decide +kernel
theorem dX5_add_45 : decode cX5_add 45 = .ok (.iload 5, 2) := by decide +kernel
theorem dX5_add_47 : decode cX5_add 47 = .ok (.aload_n 0, 1) := by decide +kernel
theorem dX5_add_48 : decode cX5_add 48 = .ok (.getfield 18, 3) := by decide +kernel
theorem dX5_add_51 : decode cX5_add 51 = .ok (.iload 5, 2) := by decide +kernel
theorem dX5_add_53 : decode cX5_add 53 = .ok (.iconst 1, 1) := by decide +kernel
theorem dX5_add_54 : decode cX5_add 54 = .ok (.isub, 1) := by decide +kernel
theorem dX5_add_55 : decode cX5_add 55 = .ok (.iaload, 1) := by decide +kernel
theorem dX5_add_56 : decode cX5_add 56 = .ok (.iastore, 1) := by decide +kernel
theorem dX5_add_57 : decode cX5_add 57 = .ok (.aload_n 0, 1) := by decide +kernel
theorem dX5_add_58 : decode cX5_add 58 = .ok (.getfield 21, 3) := by decide +kernel
theorem dX5_add_61 : decode cX5_add 61 = .ok (.iload 5, 2) := by decide +kernel
theorem dX5_add_63 : decode cX5_add 63 = .ok (.aload_n 0, 1) := by decide +kernel
theorem dX5_add_64 : decode cX5_add 64 = .ok (.getfield 21, 3) := by decide +kernel
theorem dX5_add_67 : decode cX5_add 67 = .ok (.iload 5, 2) := by decide +kernel
theorem dX5_add_69 : decode cX5_add 69 = .ok (.iconst 1, 1) := by decide +kernel
theorem dX5_add_70 : decode cX5_add 70 = .ok (.isub, 1) := by decide +kernel
theorem dX5_add_71 : decode cX5_add 71 = .ok (.iaload, 1) := by decide +kernel
theorem dX5_add_72 : decode cX5_add 72 = .ok (.iastore, 1) := by decide +kernel
theorem dX5_add_73 : decode cX5_add 73 = .ok (.iinc 5 (-1), 3) := by decide +kernel
theorem dX5_add_76 : decode cX5_add 76 = .ok (.goto (-72), 3) := by decide +kernel
theorem dX5_add_79 : decode cX5_add 79 = .ok (.aload_n 0, 1) := by decide +kernel
theorem dX5_add_80 : decode cX5_add 80 = .ok (.getfield 9, 3) := by decide +kernel
theorem dX5_add_83 : decode cX5_add 83 = .ok (.iconst 0, 1) := by decide +kernel
theorem dX5_add_84 : decode cX5_add 84 = .ok (.iload_n 1, 1) := by decide +kernel
theorem dX5_add_85 : decode cX5_add 85 = .ok (.iastore, 1) := by decide +kernel
theorem dX5_add_86 : decode cX5_add 86 = .ok (.aload_n 0, 1) := by decide +kernel
theorem dX5_add_87 : decode cX5_add 87 = .ok (.getfield 15, 3) := by decide +kernel
theorem dX5_add_90 : decode cX5_add 90 = .ok (.iconst 0, 1) := by decide +kernel
theorem dX5_add_91 : decode cX5_add 91 = .ok (.iload_n 2, 1) := by decide +kernel
theorem dX5_add_92 : decode cX5_add 92 = .ok (.iastore, 1) := by decide +kernel
theorem dX5_add_93 : decode cX5_add 93 = .ok (.aload_n 0, 1) := by decide +kernel
theorem dX5_add_94 : decode cX5_add 94 = .ok (.getfield 18, 3) := by decide +kernel
theorem dX5_add_97 : decode cX5_add 97 = .ok (.iconst 0, 1) := by decide +kernel
theorem dX5_add_98 : decode cX5_add 98 = .ok (.iload_n 3, 1) := by decide +kernel
theorem dX5_add_99 : decode cX5_add 99 = .ok (.iastore, 1) := by decide +kernel
theorem dX5_add_100 : decode cX5_add 100 = .ok (.aload_n 0, 1) := by decide +kernel
theorem dX5_add_101 : decode cX5_add 101 = .ok (.getfield 21, 3) := by decide +kernel
theorem dX5_add_104 : decode cX5_add 104 = .ok (.iconst 0, 1) := by decide +kernel
theorem dX5_add_105 : decode cX5_add 105 = .ok (.iload 4, 2) := by decide +kernel
theorem dX5_add_107 : decode cX5_add 107 = .ok (.iastore, 1) := by decide +kernel
theorem dX5_add_108 : decode cX5_add 108 = .ok (.aload_n 0, 1) := by decide +kernel
theorem dX5_add_109 : decode cX5_add 109 = .ok (.aload_n 0, 1) := by decide +kernel
theorem dX5_add_110 : decode cX5_add 110 = .ok (.getfield 24, 3) := by decide +kernel
theorem dX5_add_113 : decode cX5_add 113 = .ok (.iconst 1, 1) := by decide +kernel
theorem dX5_add_114 : decode cX5_add 114 = .ok (.iadd, 1) := by decide +kernel
theorem dX5_add_115 : decode cX5_add 115 = .ok (.bipush 8, 2) := by decide +kernel
theorem dX5_add_117 : decode cX5_add 117 = .ok (.invokestatic 37, 3) := by decide +kernel
theorem dX5_add_120 : decode cX5_add 120 = .ok (.putfield 24, 3) := by decide +kernel
theorem dX5_add_123 : decode cX5_add 123 = .ok (.aload_n 0, 1) := by decide +kernel
theorem dX5_add_124 : decode cX5_add 124 = .ok (.dup, 1) := by decide +kernel
theorem dX5_add_125 : decode cX5_add 125 = .ok (.getfield 28, 3) := by decide +kernel
theorem dX5_add_128 : decode cX5_add 128 = .ok (.iconst 1, 1) := by decide +kernel
theorem dX5_add_129 : decode cX5_add 129 = .ok (.iadd, 1) := by decide +kernel
theorem dX5_add_130 : decode cX5_add 130 = .ok (.putfield 28, 3) := by decide +kernel
theorem dX5_add_133 : decode cX5_add 133 = .ok (.return_, 1) := by decide +kernel
theorem dX6_init_0 : decode cX6_init 0 = .ok (.aload_n 0, 1) := by decide +kernel
theorem dX6_init_1 : decode cX6_init 1 = .ok (.invokespecial 3, 3) := by decide +kernel
theorem dX6_init_4 : decode cX6_init 4 = .ok (.aload_n 0, 1) := by decide +kernel
theorem dX6_init_5 : decode cX6_init 5 = .ok (.bipush 12, 2) := by decide +kernel
theorem dX6_init_7 : decode cX6_init 7 = .ok (.newarray .char, 2) := by decide +kernel
theorem dX6_init_9 : decode cX6_init 9 = .ok (.putfield 9, 3) := by decide +kernel
theorem dX6_init_12 : decode cX6_init 12 = .ok (.aload_n 0, 1) := by decide +kernel
theorem dX6_init_13 : decode cX6_init 13 = .ok (.iconst 0, 1) := by decide +kernel
theorem dX6_init_14 : decode cX6_init 14 = .ok (.putfield 15, 3) := by decide +kernel
theorem dX6_init_17 : decode cX6_init 17 = .ok (.return_, 1) := by decide +kernel
theorem dX6_copyFrom_0 : decode cX6_copyFrom 0 = .ok (.aload_n 1, 1) := by decide +kernel
theorem dX6_copyFrom_1 : decode cX6_copyFrom 1 = .ok (.getfield 9, 3) := by decide +kernel
theorem dX6_copyFrom_4 : decode cX6_copyFrom 4 = .ok (.iconst 0, 1) := by decide +kernel
theorem dX6_copyFrom_5 : decode cX6_copyFrom 5 = .ok (.aload_n 0, 1) := by decide +kernel
theorem dX6_copyFrom_6 : decode cX6_copyFrom 6 = .ok (.getfield 9, 3) := by decide +kernel
theorem dX6_copyFrom_9 : decode cX6_copyFrom 9 = .ok (.iconst 0, 1) := by decide +kernel
theorem dX6_copyFrom_10 : decode cX6_copyFrom 10 = .ok (.bipush 12, 2) := by decide +kernel
theorem dX6_copyFrom_12 : decode cX6_copyFrom 12 = .ok (.invokestatic 19, 3) := by decide +kernel
theorem dX6_copyFrom_15 : decode cX6_copyFrom 15 = .ok (.aload_n 0, 1) := by decide +kernel
theorem dX6_copyFrom_16 : decode cX6_copyFrom 16 = .ok (.aload_n 1, 1) := by decide +kernel
theorem dX6_copyFrom_17 : decode cX6_copyFrom 17 = .ok (.getfield 15, 3) := by decide +kernel
theorem dX6_copyFrom_20 : decode cX6_copyFrom 20 = .ok (.putfield 15, 3) := by decide +kernel
theorem dX6_copyFrom_23 : decode cX6_copyFrom 23 = .ok (.return_, 1) := by decide +kernel
theorem dX6_isSame_0 : decode cX6_isSame 0 = .ok (.aload_n 0, 1) := by decide +kernel
theorem dX6_isSame_1 : decode cX6_isSame 1 = .ok (.getfield 15, 3) := by decide +kernel
theorem dX6_isSame_4 : decode cX6_isSame 4 = .ok (.iload_n 2, 1) := by decide +kernel
theorem dX6_isSame_5 : decode cX6_isSame 5 = .ok (.if_icmp .eq 5, 3) := by decide +kernel
theorem dX6_isSame_8 : decode cX6_isSame 8 = .ok (.iconst 0, 1) := by decide +kernel
theorem dX6_isSame_9 : decode cX6_isSame 9 = .ok (.ireturn, 1) := by decide +kernel
theorem dX6_isSame_10 : decode cX6_isSame 10 = .ok (.iconst 0, 1) := by decide +kernel
theorem dX6_isSame_11 : decode cX6_isSame 11 = .ok (.istore_n 3, 1) := by decide +kernel
theorem dX6_isSame_12 : decode cX6_isSame 12 = .ok (.iload_n 3, 1) := by decide +kernel
theorem dX6_isSame_13 : decode cX6_isSame 13 = .ok (.aload_n 0, 1) := by decide +kernel
theorem dX6_isSame_14 : decode cX6_isSame 14 = .ok (.getfield 15, 3) := by decide +kernel
theorem dX6_isSame_17 : decode cX6_isSame 17 = .ok (.if_icmp .ge 23, 3) := by decide +kernel
theorem dX6_isSame_20 : decode cX6_isSame 20 = .ok (.aload_n 0, 1) := by decide +kernel
theorem dX6_isSame_21 : decode cX6_isSame 21 = .ok (.getfield 9, 3) := by decide +kernel
theorem dX6_isSame_24 : decode cX6_isSame 24 = .ok (.iload_n 3, 1) := by decide +kernel
theorem dX6_isSame_25 : decode cX6_isSame 25 = .ok (.caload, 1) := by decide +kernel
theorem dX6_isSame_26 : decode cX6_isSame 26 = .ok (.aload_n 1, 1) := by decide +kernel
theorem dX6_isSame_27 : decode cX6_isSame 27 = .ok (.iload_n 3, 1) := by decide +kernel
theorem dX6_isSame_28 : decode cX6_isSame 28 = .ok (.caload, 1) := by decide +kernel
theorem dX6_isSame_29 : decode cX6_isSame 29 = .ok (.if_icmp .eq 5, 3) := by decide +kernel
theorem dX6_isSame_32 : decode cX6_isSame 32 = .ok (.iconst 0, 1) := by decide +kernel
theorem dX6_isSame_33 : decode cX6_isSame 33 = .ok (.ireturn, 1) := by decide +kernel
theorem dX6_isSame_34 : decode cX6_isSame 34 = .ok (.iinc 3 1, 3) := by decide +kernel
theorem dX6_isSame_37 : decode cX6_isSame 37 = .ok (.goto (-25), 3) := by decide +kernel
theorem dX6_isSame_40 : decode cX6_isSame 40 = .ok (.iconst 1, 1) := by decide +kernel
theorem dX6_isSame_41 : decode cX6_isSame 41 = .ok (.ireturn, 1) := by decide +kernel
theorem dX6_become_0 : decode cX6_become 0 = .ok (.aload_n 0, 1) := by decide +kernel
end
section
theorem dX6_become_1 : decode cX6_become 1 = .ok (.iload_n 2, 1) := by decide +kernel
theorem dX6_become_2 : decode cX6_become 2 = .ok (.bipush 12, 2) := by decide +kernel
theorem dX6_become_4 : decode cX6_become 4 = .ok (.invokestatic 25, 3) := by decide +kernel
theorem dX6_become_7 : decode cX6_become 7 = .ok (.putfield 15, 3) := by decide +kernel
theorem dX6_become_10 : decode cX6_become 10 = .ok (.aload_n 1, 1) := by decide +kernel
theorem dX6_become_11 : decode cX6_become 11 = .ok (.iconst 0, 1) := by decide +kernel
theorem dX6_become_12 : decode cX6_become 12 = .ok (.aload_n 0, 1) := by decide +kernel
theorem dX6_become_13 : decode cX6_become 13 = .ok (.getfield 9, 3) := by decide +kernel
theorem dX6_become_16 : decode cX6_become 16 = .ok (.iconst 0, 1) := by decide +kernel
theorem dX6_become_17 : decode cX6_become 17 = .ok (.aload_n 0, 1) := by decide +kernel
theorem dX6_become_18 : decode cX6_become 18 = .ok (.getfield 15, 3) := by decide +kernel
theorem dX6_become_21 : decode cX6_become 21 = .ok (.invokestatic 19, 3) := by decide +kernel
theorem dX6_become_24 : decode cX6_become 24 = .ok (.return_, 1) := by decide +kernel
theorem dX7_init_0 : decode cX7_init 0 = .ok (.aload_n 0, 1) := by decide +kernel
theorem dX7_init_1 : decode cX7_init 1 = .ok (.invokespecial 1, 3) := by decide +kernel
theorem dX7_init_4 : decode cX7_init 4 = .ok (.aload_n 0, 1) := by decide +kernel
theorem dX7_init_5 : decode cX7_init 5 = .ok (.new 7, 3) := by decide +kernel
theorem dX7_init_8 : decode cX7_init 8 = .ok (.dup, 1) := by decide +kernel
theorem dX7_init_9 : decode cX7_init 9 = .ok (.invokespecial 9, 3) := by decide +kernel
theorem dX7_init_12 : decode cX7_init 12 = .ok (.putfield 10, 3) := by decide +kernel
theorem dX7_init_15 : decode cX7_init 15 = .ok (.aload_n 0, 1) := by decide +kernel
theorem dX7_init_16 : decode cX7_init 16 = .ok (.new 7, 3) := by decide +kernel
theorem dX7_init_19 : decode cX7_init 19 = .ok (.dup, 1) := by decide +kernel
theorem dX7_init_20 : decode cX7_init 20 = .ok (.invokespecial 9, 3) := by decide +kernel
theorem dX7_init_23 : decode cX7_init 23 = .ok (.putfield 16, 3) := by decide +kernel
theorem dX7_init_26 : decode cX7_init 26 = .ok (.aload_n 0, 1) := by decide +kernel
theorem dX7_init_27 : decode cX7_init 27 = .ok (.new 7, 3) := by decide +kernel
theorem dX7_init_30 : decode cX7_init 30 = .ok (.dup, 1) := by decide +kernel
theorem dX7_init_31 : decode cX7_init 31 = .ok (.invokespecial 9, 3) := by decide +kernel
theorem dX7_init_34 : decode cX7_init 34 = .ok (.putfield 19, 3) := by decide +kernel
theorem dX7_init_37 : decode cX7_init 37 = .ok (.aload_n 0, 1) := by decide +kernel
theorem dX7_init_38 : decode cX7_init 38 = .ok (.iconst 4, 1) := by decide +kernel
theorem dX7_init_39 : decode cX7_init 39 = .ok (.anewarray 7, 3) := by decide +kernel
theorem dX7_init_42 : decode cX7_init 42 = .ok (.putfield 22, 3) := by decide +kernel
theorem dX7_init_45 : decode cX7_init 45 = .ok (.aload_n 0, 1) := by decide +kernel
theorem dX7_init_46 : decode cX7_init 46 = .ok (.bipush 60, 2) := by decide +kernel
theorem dX7_init_48 : decode cX7_init 48 = .ok (.newarray .char, 2) := by decide +kernel
theorem dX7_init_50 : decode cX7_init 50 = .ok (.putfield 26, 3) := by decide +kernel
theorem dX7_init_53 : decode cX7_init 53 = .ok (.aload_n 0, 1) := by decide +kernel
theorem dX7_init_54 : decode cX7_init 54 = .ok (.new 30, 3) := by decide +kernel
theorem dX7_init_57 : decode cX7_init 57 = .ok (.dup, 1) := by decide +kernel
theorem dX7_init_58 : decode cX7_init 58 = .ok (.invokespecial 32, 3) := by decide +kernel
theorem dX7_init_61 : decode cX7_init 61 = .ok (.putfield 33, 3) := by decide +kernel
theorem dX7_init_64 : decode cX7_init 64 = .ok (.aload_n 0, 1) := by decide +kernel
theorem dX7_init_65 : decode cX7_init 65 = .ok (.new 37, 3) := by decide +kernel
theorem dX7_init_68 : decode cX7_init 68 = .ok (.dup, 1) := by decide +kernel
theorem dX7_init_69 : decode cX7_init 69 = .ok (.invokespecial 39, 3) := by decide +kernel
theorem dX7_init_72 : decode cX7_init 72 = .ok (.putfield 40, 3) := by decide +kernel
theorem dX7_init_75 : decode cX7_init 75 = .ok (.aload_n 0, 1) := by decide +kernel
theorem dX7_init_76 : decode cX7_init 76 = .ok (.iconst 0, 1) := by decide +kernel
theorem dX7_init_77 : decode cX7_init 77 = .ok (.putfield 44, 3) := by decide +kernel
theorem dX7_init_80 : decode cX7_init 80 = .ok (.aload_n 0, 1) := by decide +kernel
theorem dX7_init_81 : decode cX7_init 81 = .ok (.iconst 0, 1) := by decide +kernel
theorem dX7_init_82 : decode cX7_init 82 = .ok (.putfield 48, 3) := by decide +kernel
theorem dX7_init_85 : decode cX7_init 85 = .ok (.aload_n 0, 1) := by decide +kernel
theorem dX7_init_86 : decode cX7_init 86 = .ok (.iconst 0, 1) := by decide +kernel
theorem dX7_init_87 : decode cX7_init 87 = .ok (.putfield 52, 3) := by decide +kernel
theorem dX7_init_90 : decode cX7_init 90 = .ok (.iconst 0, 1) := by decide +kernel
theorem dX7_init_91 : decode cX7_init 91 = .ok (.istore_n 1, 1) := by decide +kernel
theorem dX7_init_92 : decode cX7_init 92 = .ok (.iload_n 1, 1) := by decide +kernel
theorem dX7_init_93 : decode cX7_init 93 = .ok (.iconst 4, 1) := by decide +kernel
theorem dX7_init_94 : decode cX7_init 94 = .ok (.if_icmp .ge 22, 3) := by decide +kernel
theorem dX7_init_97 : decode cX7_init 97 = .ok (.aload_n 0, 1) := by decide +kernel
theorem dX7_init_98 : decode cX7_init 98 = .ok (.getfield 22, 3) := by decide +kernel
theorem dX7_init_101 : decode cX7_init 101 = .ok (.iload_n 1, 1) := by decide +kernel
theorem dX7_init_102 : decode cX7_init 102 = .ok (.new 7, 3) := by decide +kernel
theorem dX7_init_105 : decode cX7_init 105 = .ok (.dup, 1) := by decide +kernel
theorem dX7_init_106 : decode cX7_init 106 = .ok (.invokespecial 9, 3) := by decide +kernel
theorem dX7_init_109 : decode cX7_init 109 = .ok (.aastore, 1) := by decide +kernel
theorem dX7_init_110 : decode cX7_init 110 = .ok (.iinc 1 1, 3) := by decide +kernel
theorem dX7_init_113 : decode cX7_init 113 = .ok (.goto (-21), 3) := by decide +kernel
theorem dX7_init_116 : decode cX7_init 116 = .ok (.return_, 1) := by decide +kernel
theorem dX7_come_0 : decode cX7_come 0 = .ok (.iload_n 1, 1) := by decide +kernel
theorem dX7_come_1 : decode cX7_come 1 = .ok (.invokestatic 55, 3) := by decide +kernel
theorem dX7_come_4 : decode cX7_come 4 = .ok (.ifCond .eq 13, 3) := by decide +kernel
theorem dX7_come_7 : decode cX7_come 7 = .ok (.iload_n 2, 1) := by decide +kernel
theorem dX7_come_8 : decode cX7_come 8 = .ok (.iconst 1, 1) := by decide +kernel
theorem dX7_come_9 : decode cX7_come 9 = .ok (.bipush 9, 2) := by decide +kernel
theorem dX7_come_11 : decode cX7_come 11 = .ok (.invokestatic 59, 3) := by decide +kernel
theorem dX7_come_14 : decode cX7_come 14 = .ok (.ifCond .ne 6, 3) := by decide +kernel
theorem dX7_come_17 : decode cX7_come 17 = .ok (.ldc 63, 2) := by decide +kernel
theorem dX7_come_19 : decode cX7_come 19 = .ok (.ireturn, 1) := by decide +kernel
theorem dX7_come_20 : decode cX7_come 20 = .ok (.aload_n 0, 1) := by decide +kernel
theorem dX7_come_21 : decode cX7_come 21 = .ok (.getfield 10, 3) := by decide +kernel
theorem dX7_come_24 : decode cX7_come 24 = .ok (.getfield 64, 3) := by decide +kernel
theorem dX7_come_27 : decode cX7_come 27 = .ok (.iconst 1, 1) := by decide +kernel
theorem dX7_come_28 : decode cX7_come 28 = .ok (.invokevirtual 68, 3) := by decide +kernel
theorem dX7_come_31 : decode cX7_come 31 = .ok (.ifCond .ne 6, 3) := by decide +kernel
theorem dX7_come_34 : decode cX7_come 34 = .ok (.ldc 74, 2) := by decide +kernel
theorem dX7_come_36 : decode cX7_come 36 = .ok (.ireturn, 1) := by decide +kernel
theorem dX7_come_37 : decode cX7_come 37 = .ok (.aload_n 0, 1) := by decide +kernel
theorem dX7_come_38 : decode cX7_come 38 = .ok (.invokevirtual 75, 3) := by decide +kernel
theorem dX7_come_41 : decode cX7_come 41 = .ok (.aload_n 0, 1) := by decide +kernel
theorem dX7_come_42 : decode cX7_come 42 = .ok (.getfield 10, 3) := by decide +kernel
theorem dX7_come_45 : decode cX7_come 45 = .ok (.getfield 64, 3) := by decide +kernel
theorem dX7_come_48 : decode cX7_come 48 = .ok (.iload_n 1, 1) := by decide +kernel
theorem dX7_come_49 : decode cX7_come 49 = .ok (.iload_n 2, 1) := by decide +kernel
theorem dX7_come_50 : decode cX7_come 50 = .ok (.invokevirtual 78, 3) := by decide +kernel
theorem dX7_come_53 : decode cX7_come 53 = .ok (.aload_n 0, 1) := by decide +kernel
theorem dX7_come_54 : decode cX7_come 54 = .ok (.getfield 10, 3) := by decide +kernel
theorem dX7_come_57 : decode cX7_come 57 = .ok (.getfield 64, 3) := by decide +kernel
theorem dX7_come_60 : decode cX7_come 60 = .ok (.getfield 82, 3) := by decide +kernel
theorem dX7_come_63 : decode cX7_come 63 = .ok (.iconst 1, 1) := by decide +kernel
theorem dX7_come_64 : decode cX7_come 64 = .ok (.isub, 1) := by decide +kernel
theorem dX7_come_65 : decode cX7_come 65 = .ok (.ireturn, 1) := by decide +kernel
theorem dX7_readRow_0 : decode cX7_readRow 0 = .ok (.aload_n 0, 1) := by decide +kernel
theorem dX7_readRow_1 : decode cX7_readRow 1 = .ok (.invokevirtual 85, 3) := by decide +kernel
theorem dX7_readRow_4 : decode cX7_readRow 4 = .ok (.istore_n 1, 1) := by decide +kernel
theorem dX7_readRow_5 : decode cX7_readRow 5 = .ok (.iload_n 1, 1) := by decide +kernel
theorem dX7_readRow_6 : decode cX7_readRow 6 = .ok (.iconst (-1), 1) := by decide +kernel
theorem dX7_readRow_7 : decode cX7_readRow 7 = .ok (.if_icmp .eq 8, 3) := by decide +kernel
theorem dX7_readRow_10 : decode cX7_readRow 10 = .ok (.ldc 89, 2) := by decide +kernel
theorem dX7_readRow_12 : decode cX7_readRow 12 = .ok (.iload_n 1, 1) := by decide +kernel
theorem dX7_readRow_13 : decode cX7_readRow 13 = .ok (.isub, 1) := by decide +kernel
theorem dX7_readRow_14 : decode cX7_readRow 14 = .ok (.ireturn, 1) := by decide +kernel
theorem dX7_readRow_15 : decode cX7_readRow 15 = .ok (.aload_n 0, 1) := by decide +kernel
theorem dX7_readRow_16 : decode cX7_readRow 16 = .ok (.getfield 10, 3) := by decide +kernel
theorem dX7_readRow_19 : decode cX7_readRow 19 = .ok (.getfield 64, 3) := by decide +kernel
theorem dX7_readRow_22 : decode cX7_readRow 22 = .ok (.aload_n 0, 1) := by decide +kernel
theorem dX7_readRow_23 : decode cX7_readRow 23 = .ok (.getfield 52, 3) := by decide +kernel
theorem dX7_readRow_26 : decode cX7_readRow 26 = .ok (.iconst 1, 1) := by decide +kernel
theorem dX7_readRow_27 : decode cX7_readRow 27 = .ok (.iadd, 1) := by decide +kernel
theorem dX7_readRow_28 : decode cX7_readRow 28 = .ok (.iconst 3, 1) := by decide +kernel
theorem dX7_readRow_29 : decode cX7_readRow 29 = .ok (.idiv, 1) := by decide +kernel
theorem dX7_readRow_30 : decode cX7_readRow 30 = .ok (.invokevirtual 68, 3) := by decide +kernel
theorem dX7_readRow_33 : decode cX7_readRow 33 = .ok (.ifCond .ne 6, 3) := by decide +kernel
theorem dX7_readRow_36 : decode cX7_readRow 36 = .ok (.ldc 74, 2) := by decide +kernel
theorem dX7_readRow_38 : decode cX7_readRow 38 = .ok (.ireturn, 1) := by decide +kernel
theorem dX7_readRow_39 : decode cX7_readRow 39 = .ok (.aload_n 0, 1) := by decide +kernel
theorem dX7_readRow_40 : decode cX7_readRow 40 = .ok (.invokevirtual 75, 3) := by decide +kernel
theorem dX7_readRow_43 : decode cX7_readRow 43 = .ok (.iconst 0, 1) := by decide +kernel
theorem dX7_readRow_44 : decode cX7_readRow 44 = .ok (.istore_n 2, 1) := by decide +kernel
theorem dX7_readRow_45 : decode cX7_readRow 45 = .ok (.iload_n 2, 1) := by decide +kernel
theorem dX7_readRow_46 : decode cX7_readRow 46 = .ok (.iconst 1, 1) := by decide +kernel
theorem dX7_readRow_47 : decode cX7_readRow 47 = .ok (.iadd, 1) := by decide +kernel
theorem dX7_readRow_48 : decode cX7_readRow 48 = .ok (.aload_n 0, 1) := by decide +kernel
theorem dX7_readRow_49 : decode cX7_readRow 49 = .ok (.getfield 52, 3) := by decide +kernel
theorem dX7_readRow_52 : decode cX7_readRow 52 = .ok (.if_icmp .ge 36, 3) := by decide +kernel
theorem dX7_readRow_55 : decode cX7_readRow 55 = .ok (.aload_n 0, 1) := by decide +kernel
theorem dX7_readRow_56 : decode cX7_readRow 56 = .ok (.getfield 10, 3) := by decide +kernel
theorem dX7_readRow_59 : decode cX7_readRow 59 = .ok (.getfield 64, 3) := by decide +kernel
theorem dX7_readRow_62 : decode cX7_readRow 62 = .ok (.aload_n 0, 1) := by decide +kernel
theorem dX7_readRow_63 : decode cX7_readRow 63 = .ok (.getfield 26, 3) := by decide +kernel
theorem dX7_readRow_66 : decode cX7_readRow 66 = .ok (.iload_n 2, 1) := by decide +kernel
theorem dX7_readRow_67 : decode cX7_readRow 67 = .ok (.caload, 1) := by decide +kernel
theorem dX7_readRow_68 : decode cX7_readRow 68 = .ok (.aload_n 0, 1) := by decide +kernel
theorem dX7_readRow_69 : decode cX7_readRow 69 = .ok (.getfield 26, 3) := by decide +kernel
theorem dX7_readRow_72 : decode cX7_readRow 72 = .ok (.iload_n 2, 1) := by decide +kernel
theorem dX7_readRow_73 : decode cX7_readRow 73 = .ok (.iconst 1, 1) := by decide +kernel
theorem dX7_readRow_74 : decode cX7_readRow 74 = .ok (.iadd, 1) := by decide +kernel
theorem dX7_readRow_75 : decode cX7_readRow 75 = .ok (.caload, 1) := by decide +kernel
theorem dX7_readRow_76 : decode cX7_readRow 76 = .ok (.bipush 48, 2) := by decide +kernel
theorem dX7_readRow_78 : decode cX7_readRow 78 = .ok (.isub, 1) := by decide +kernel
theorem dX7_readRow_79 : decode cX7_readRow 79 = .ok (.invokevirtual 78, 3) := by decide +kernel
theorem dX7_readRow_82 : decode cX7_readRow 82 = .ok (.iinc 2 3, 3) := by decide +kernel
theorem dX7_readRow_85 : decode cX7_readRow 85 = .ok (.goto (-40), 3) := by decide +kernel
theorem dX7_readRow_88 : decode cX7_readRow 88 = .ok (.aload_n 0, 1) := by decide +kernel
theorem dX7_readRow_89 : decode cX7_readRow 89 = .ok (.getfield 10, 3) := by decide +kernel
theorem dX7_readRow_92 : decode cX7_readRow 92 = .ok (.getfield 64, 3) := by decide +kernel
theorem dX7_readRow_95 : decode cX7_readRow 95 = .ok (.getfield 82, 3) := by decide +kernel
theorem dX7_readRow_98 : decode cX7_readRow 98 = .ok (.ireturn, 1) := by decide +kernel
theorem dX7_go_0 : decode cX7_go 0 = .ok (.aload_n 0, 1) := by decide +kernel
theorem dX7_go_1 : decode cX7_go 1 = .ok (.getfield 10, 3) := by decide +kernel
theorem dX7_go_4 : decode cX7_go 4 = .ok (.getfield 64, 3) := by decide +kernel
theorem dX7_go_7 : decode cX7_go 7 = .ok (.iload_n 1, 1) := by decide +kernel
theorem dX7_go_8 : decode cX7_go 8 = .ok (.invokevirtual 90, 3) := by decide +kernel
theorem dX7_go_11 : decode cX7_go 11 = .ok (.ifCond .ne 6, 3) := by decide +kernel
theorem dX7_go_14 : decode cX7_go 14 = .ok (.ldc 93, 2) := by decide +kernel
theorem dX7_go_16 : decode cX7_go 16 = .ok (.ireturn, 1) := by decide +kernel
theorem dX7_go_17 : decode cX7_go 17 = .ok (.aload_n 0, 1) := by decide +kernel
theorem dX7_go_18 : decode cX7_go 18 = .ok (.getfield 10, 3) := by decide +kernel
theorem dX7_go_21 : decode cX7_go 21 = .ok (.getfield 64, 3) := by decide +kernel
theorem dX7_go_24 : decode cX7_go 24 = .ok (.iload_n 1, 1) := by decide +kernel
theorem dX7_go_25 : decode cX7_go 25 = .ok (.invokevirtual 94, 3) := by decide +kernel
theorem dX7_go_28 : decode cX7_go 28 = .ok (.ifCond .eq 6, 3) := by decide +kernel
theorem dX7_go_31 : decode cX7_go 31 = .ok (.ldc 97, 2) := by decide +kernel
theorem dX7_go_33 : decode cX7_go 33 = .ok (.ireturn, 1) := by decide +kernel
theorem dX7_go_34 : decode cX7_go 34 = .ok (.aload_n 0, 1) := by decide +kernel
theorem dX7_go_35 : decode cX7_go 35 = .ok (.invokevirtual 75, 3) := by decide +kernel
theorem dX7_go_38 : decode cX7_go 38 = .ok (.aload_n 0, 1) := by decide +kernel
theorem dX7_go_39 : decode cX7_go 39 = .ok (.getfield 10, 3) := by decide +kernel
theorem dX7_go_42 : decode cX7_go 42 = .ok (.getfield 64, 3) := by decide +kernel
theorem dX7_go_45 : decode cX7_go 45 = .ok (.iload_n 1, 1) := by decide +kernel
theorem dX7_go_46 : decode cX7_go 46 = .ok (.invokevirtual 98, 3) := by decide +kernel
theorem dX7_go_49 : decode cX7_go 49 = .ok (.aload_n 0, 1) := by decide +kernel
theorem dX7_go_50 : decode cX7_go 50 = .ok (.getfield 10, 3) := by decide +kernel
theorem dX7_go_53 : decode cX7_go 53 = .ok (.getfield 64, 3) := by decide +kernel
theorem dX7_go_56 : decode cX7_go 56 = .ok (.getfield 82, 3) := by decide +kernel
theorem dX7_go_59 : decode cX7_go 59 = .ok (.ireturn, 1) := by decide +kernel
theorem dX7_pay_0 : decode cX7_pay 0 = .ok (.aload_n 0, 1) := by decide +kernel
theorem dX7_pay_1 : decode cX7_pay 1 = .ok (.getfield 10, 3) := by decide +kernel
theorem dX7_pay_4 : decode cX7_pay 4 = .ok (.getfield 64, 3) := by decide +kernel
theorem dX7_pay_7 : decode cX7_pay 7 = .ok (.iload_n 1, 1) := by decide +kernel
theorem dX7_pay_8 : decode cX7_pay 8 = .ok (.invokevirtual 90, 3) := by decide +kernel
theorem dX7_pay_11 : decode cX7_pay 11 = .ok (.ifCond .ne 6, 3) := by decide +kernel
theorem dX7_pay_14 : decode cX7_pay 14 = .ok (.ldc 93, 2) := by decide +kernel
theorem dX7_pay_16 : decode cX7_pay 16 = .ok (.ireturn, 1) := by decide +kernel
theorem dX7_pay_17 : decode cX7_pay 17 = .ok (.iload_n 2, 1) := by decide +kernel
theorem dX7_pay_18 : decode cX7_pay 18 = .ok (.iconst 1, 1) := by decide +kernel
theorem dX7_pay_19 : decode cX7_pay 19 = .ok (.bipush 9, 2) := by decide +kernel
theorem dX7_pay_21 : decode cX7_pay 21 = .ok (.invokestatic 59, 3) := by decide +kernel
theorem dX7_pay_24 : decode cX7_pay 24 = .ok (.ifCond .ne 6, 3) := by decide +kernel
theorem dX7_pay_27 : decode cX7_pay 27 = .ok (.ldc 63, 2) := by decide +kernel
theorem dX7_pay_29 : decode cX7_pay 29 = .ok (.ireturn, 1) := by decide +kernel
theorem dX7_pay_30 : decode cX7_pay 30 = .ok (.aload_n 0, 1) := by decide +kernel
theorem dX7_pay_31 : decode cX7_pay 31 = .ok (.getfield 10, 3) := by decide +kernel
theorem dX7_pay_34 : decode cX7_pay 34 = .ok (.getfield 64, 3) := by decide +kernel
theorem dX7_pay_37 : decode cX7_pay 37 = .ok (.getfield 102, 3) := by decide +kernel
theorem dX7_pay_40 : decode cX7_pay 40 = .ok (.iload_n 1, 1) := by decide +kernel
theorem dX7_pay_41 : decode cX7_pay 41 = .ok (.iaload, 1) := by decide +kernel
theorem dX7_pay_42 : decode cX7_pay 42 = .ok (.istore_n 3, 1) := by decide +kernel
theorem dX7_pay_43 : decode cX7_pay 43 = .ok (.iload_n 3, 1) := by decide +kernel
theorem dX7_pay_44 : decode cX7_pay 44 = .ok (.iload_n 2, 1) := by decide +kernel
theorem dX7_pay_45 : decode cX7_pay 45 = .ok (.if_icmp .ne 6, 3) := by decide +kernel
theorem dX7_pay_48 : decode cX7_pay 48 = .ok (.ldc 106, 2) := by decide +kernel
theorem dX7_pay_50 : decode cX7_pay 50 = .ok (.ireturn, 1) := by decide +kernel
theorem dX7_pay_51 : decode cX7_pay 51 = .ok (.aload_n 0, 1) := by decide +kernel
theorem dX7_pay_52 : decode cX7_pay 52 = .ok (.invokevirtual 75, 3) := by decide +kernel
theorem dX7_pay_55 : decode cX7_pay 55 = .ok (.aload_n 0, 1) := by decide +kernel
theorem dX7_pay_56 : decode cX7_pay 56 = .ok (.getfield 10, 3) := by decide +kernel
theorem dX7_pay_59 : decode cX7_pay 59 = .ok (.getfield 64, 3) := by decide +kernel
theorem dX7_pay_62 : decode cX7_pay 62 = .ok (.getfield 102, 3) := by decide +kernel
theorem dX7_pay_65 : decode cX7_pay 65 = .ok (.iload_n 1, 1) := by decide +kernel
theorem dX7_pay_66 : decode cX7_pay 66 = .ok (.iload_n 2, 1) := by decide +kernel
theorem dX7_pay_67 : decode cX7_pay 67 = .ok (.iastore, 1) := by decide +kernel
theorem dX7_pay_68 : decode cX7_pay 68 = .ok (.iload_n 3, 1) := by decide +kernel
theorem dX7_pay_69 : decode cX7_pay 69 = .ok (.ireturn, 1) := by decide +kernel
theorem dX7_trade_0 : decode cX7_trade 0 = .ok (.aload_n 0, 1) := by decide +kernel
theorem dX7_trade_1 : decode cX7_trade 1 = .ok (.getfield 10, 3) := by decide +kernel
theorem dX7_trade_4 : decode cX7_trade 4 = .ok (.getfield 64, 3) := by decide +kernel
theorem dX7_trade_7 : decode cX7_trade 7 = .ok (.iload_n 1, 1) := by decide +kernel
theorem dX7_trade_8 : decode cX7_trade 8 = .ok (.invokevirtual 107, 3) := by decide +kernel
theorem dX7_trade_11 : decode cX7_trade 11 = .ok (.ifCond .ne 6, 3) := by decide +kernel
theorem dX7_trade_14 : decode cX7_trade 14 = .ok (.ldc 93, 2) := by decide +kernel
theorem dX7_trade_16 : decode cX7_trade 16 = .ok (.ireturn, 1) := by decide +kernel
theorem dX7_trade_17 : decode cX7_trade 17 = .ok (.aload_n 0, 1) := by decide +kernel
theorem dX7_trade_18 : decode cX7_trade 18 = .ok (.getfield 10, 3) := by decide +kernel
theorem dX7_trade_21 : decode cX7_trade 21 = .ok (.getfield 64, 3) := by decide +kernel
theorem dX7_trade_24 : decode cX7_trade 24 = .ok (.iload_n 1, 1) := by decide +kernel
theorem dX7_trade_25 : decode cX7_trade 25 = .ok (.invokevirtual 110, 3) := by decide +kernel
theorem dX7_trade_28 : decode cX7_trade 28 = .ok (.ifCond .eq 16, 3) := by decide +kernel
theorem dX7_trade_31 : decode cX7_trade 31 = .ok (.aload_n 0, 1) := by decide +kernel
theorem dX7_trade_32 : decode cX7_trade 32 = .ok (.getfield 10, 3) := by decide +kernel
theorem dX7_trade_35 : decode cX7_trade 35 = .ok (.getfield 113, 3) := by decide +kernel
theorem dX7_trade_38 : decode cX7_trade 38 = .ok (.sipush 9999, 3) := by decide +kernel
theorem dX7_trade_41 : decode cX7_trade 41 = .ok (.if_icmp .lt 6, 3) := by decide +kernel
theorem dX7_trade_44 : decode cX7_trade 44 = .ok (.ldc 97, 2) := by decide +kernel
theorem dX7_trade_46 : decode cX7_trade 46 = .ok (.ireturn, 1) := by decide +kernel
theorem dX7_trade_47 : decode cX7_trade 47 = .ok (.aload_n 0, 1) := by decide +kernel
theorem dX7_trade_48 : decode cX7_trade 48 = .ok (.invokevirtual 75, 3) := by decide +kernel
theorem dX7_trade_51 : decode cX7_trade 51 = .ok (.aload_n 0, 1) := by decide +kernel
theorem dX7_trade_52 : decode cX7_trade 52 = .ok (.getfield 10, 3) := by decide +kernel
theorem dX7_trade_55 : decode cX7_trade 55 = .ok (.iload_n 1, 1) := by decide +kernel
theorem dX7_trade_56 : decode cX7_trade 56 = .ok (.invokevirtual 116, 3) := by decide +kernel
theorem dX7_trade_59 : decode cX7_trade 59 = .ok (.invokestatic 119, 3) := by decide +kernel
theorem dX7_trade_62 : decode cX7_trade 62 = .ok (.ireturn, 1) := by decide +kernel
theorem dX7_pass_0 : decode cX7_pass 0 = .ok (.iload_n 1, 1) := by decide +kernel
theorem dX7_pass_1 : decode cX7_pass 1 = .ok (.iconst 1, 1) := by decide +kernel
theorem dX7_pass_2 : decode cX7_pass 2 = .ok (.bipush 60, 2) := by decide +kernel
theorem dX7_pass_4 : decode cX7_pass 4 = .ok (.invokestatic 59, 3) := by decide +kernel
theorem dX7_pass_7 : decode cX7_pass 7 = .ok (.ifCond .ne 6, 3) := by decide +kernel
theorem dX7_pass_10 : decode cX7_pass 10 = .ok (.ldc 63, 2) := by decide +kernel
theorem dX7_pass_12 : decode cX7_pass 12 = .ok (.ireturn, 1) := by decide +kernel
theorem dX7_pass_13 : decode cX7_pass 13 = .ok (.aload_n 0, 1) := by decide +kernel
theorem dX7_pass_14 : decode cX7_pass 14 = .ok (.getfield 10, 3) := by decide +kernel
theorem dX7_pass_17 : decode cX7_pass 17 = .ok (.getfield 113, 3) := by decide +kernel
theorem dX7_pass_20 : decode cX7_pass 20 = .ok (.iload_n 1, 1) := by decide +kernel
theorem dX7_pass_21 : decode cX7_pass 21 = .ok (.iadd, 1) := by decide +kernel
theorem dX7_pass_22 : decode cX7_pass 22 = .ok (.sipush 9999, 3) := by decide +kernel
theorem dX7_pass_25 : decode cX7_pass 25 = .ok (.if_icmp .le 6, 3) := by decide +kernel
theorem dX7_pass_28 : decode cX7_pass 28 = .ok (.ldc 74, 2) := by decide +kernel
theorem dX7_pass_30 : decode cX7_pass 30 = .ok (.ireturn, 1) := by decide +kernel
theorem dX7_pass_31 : decode cX7_pass 31 = .ok (.aload_n 0, 1) := by decide +kernel
theorem dX7_pass_32 : decode cX7_pass 32 = .ok (.invokevirtual 75, 3) := by decide +kernel
theorem dX7_pass_35 : decode cX7_pass 35 = .ok (.iconst 0, 1) := by decide +kernel
theorem dX7_pass_36 : decode cX7_pass 36 = .ok (.istore_n 2, 1) := by decide +kernel
theorem dX7_pass_37 : decode cX7_pass 37 = .ok (.iconst 0, 1) := by decide +kernel
theorem dX7_pass_38 : decode cX7_pass 38 = .ok (.istore_n 3, 1) := by decide +kernel
theorem dX7_pass_39 : decode cX7_pass 39 = .ok (.iload_n 3, 1) := by decide +kernel
theorem dX7_pass_40 : decode cX7_pass 40 = .ok (.iload_n 1, 1) := by decide +kernel
theorem dX7_pass_41 : decode cX7_pass 41 = .ok (.if_icmp .ge 19, 3) := by decide +kernel
theorem dX7_pass_44 : decode cX7_pass 44 = .ok (.iload_n 2, 1) := by decide +kernel
theorem dX7_pass_45 : decode cX7_pass 45 = .ok (.aload_n 0, 1) := by decide +kernel
theorem dX7_pass_46 : decode cX7_pass 46 = .ok (.getfield 10, 3) := by decide +kernel
theorem dX7_pass_49 : decode cX7_pass 49 = .ok (.invokevirtual 123, 3) := by decide +kernel
theorem dX7_pass_52 : decode cX7_pass 52 = .ok (.iadd, 1) := by decide +kernel
theorem dX7_pass_53 : decode cX7_pass 53 = .ok (.istore_n 2, 1) := by decide +kernel
theorem dX7_pass_54 : decode cX7_pass 54 = .ok (.iinc 3 1, 3) := by decide +kernel
theorem dX7_pass_57 : decode cX7_pass 57 = .ok (.goto (-18), 3) := by decide +kernel
theorem dX7_pass_60 : decode cX7_pass 60 = .ok (.iload_n 2, 1) := by decide +kernel
theorem dX7_pass_61 : decode cX7_pass 61 = .ok (.ireturn, 1) := by decide +kernel
theorem dX7_wind_0 : decode cX7_wind 0 = .ok (.iload_n 1, 1) := by decide +kernel
theorem dX7_wind_1 : decode cX7_wind 1 = .ok (.iload_n 2, 1) := by decide +kernel
theorem dX7_wind_2 : decode cX7_wind 2 = .ok (.invokestatic 126, 3) := by decide +kernel
theorem dX7_wind_5 : decode cX7_wind 5 = .ok (.ifCond .ne 6, 3) := by decide +kernel
theorem dX7_wind_8 : decode cX7_wind 8 = .ok (.ldc 63, 2) := by decide +kernel
theorem dX7_wind_10 : decode cX7_wind 10 = .ok (.ireturn, 1) := by decide +kernel
theorem dX7_wind_11 : decode cX7_wind 11 = .ok (.aload_n 0, 1) := by decide +kernel
theorem dX7_wind_12 : decode cX7_wind 12 = .ok (.getfield 10, 3) := by decide +kernel
theorem dX7_wind_15 : decode cX7_wind 15 = .ok (.getfield 130, 3) := by decide +kernel
theorem dX7_wind_18 : decode cX7_wind 18 = .ok (.iload_n 1, 1) := by decide +kernel
theorem dX7_wind_19 : decode cX7_wind 19 = .ok (.if_icmp .ne 17, 3) := by decide +kernel
theorem dX7_wind_22 : decode cX7_wind 22 = .ok (.aload_n 0, 1) := by decide +kernel
theorem dX7_wind_23 : decode cX7_wind 23 = .ok (.getfield 10, 3) := by decide +kernel
theorem dX7_wind_26 : decode cX7_wind 26 = .ok (.getfield 133, 3) := by decide +kernel
theorem dX7_wind_29 : decode cX7_wind 29 = .ok (.iload_n 2, 1) := by decide +kernel
theorem dX7_wind_30 : decode cX7_wind 30 = .ok (.if_icmp .ne 6, 3) := by decide +kernel
theorem dX7_wind_33 : decode cX7_wind 33 = .ok (.ldc 106, 2) := by decide +kernel
theorem dX7_wind_35 : decode cX7_wind 35 = .ok (.ireturn, 1) := by decide +kernel
theorem dX7_wind_36 : decode cX7_wind 36 = .ok (.aload_n 0, 1) := by decide +kernel
theorem dX7_wind_37 : decode cX7_wind 37 = .ok (.invokevirtual 75, 3) := by decide +kernel
theorem dX7_wind_40 : decode cX7_wind 40 = .ok (.aload_n 0, 1) := by decide +kernel
theorem dX7_wind_41 : decode cX7_wind 41 = .ok (.getfield 10, 3) := by decide +kernel
theorem dX7_wind_44 : decode cX7_wind 44 = .ok (.iload_n 1, 1) := by decide +kernel
theorem dX7_wind_45 : decode cX7_wind 45 = .ok (.iload_n 2, 1) := by decide +kernel
theorem dX7_wind_46 : decode cX7_wind 46 = .ok (.invokevirtual 136, 3) := by decide +kernel
theorem dX7_wind_49 : decode cX7_wind 49 = .ok (.ireturn, 1) := by decide +kernel
theorem dX7_planTurn_0 : decode cX7_planTurn 0 = .ok (.iload_n 1, 1) := by decide +kernel
theorem dX7_planTurn_1 : decode cX7_planTurn 1 = .ok (.iconst 1, 1) := by decide +kernel
theorem dX7_planTurn_2 : decode cX7_planTurn 2 = .ok (.sipush 9999, 3) := by decide +kernel
theorem dX7_planTurn_5 : decode cX7_planTurn 5 = .ok (.invokestatic 59, 3) := by decide +kernel
theorem dX7_planTurn_8 : decode cX7_planTurn 8 = .ok (.ifCond .eq 11, 3) := by decide +kernel
theorem dX7_planTurn_11 : decode cX7_planTurn 11 = .ok (.iload_n 2, 1) := by decide +kernel
theorem dX7_planTurn_12 : decode cX7_planTurn 12 = .ok (.iload_n 3, 1) := by decide +kernel
theorem dX7_planTurn_13 : decode cX7_planTurn 13 = .ok (.invokestatic 126, 3) := by decide +kernel
theorem dX7_planTurn_16 : decode cX7_planTurn 16 = .ok (.ifCond .ne 6, 3) := by decide +kernel
theorem dX7_planTurn_19 : decode cX7_planTurn 19 = .ok (.ldc 63, 2) := by decide +kernel
theorem dX7_planTurn_21 : decode cX7_planTurn 21 = .ok (.ireturn, 1) := by decide +kernel
theorem dX7_planTurn_22 : decode cX7_planTurn 22 = .ok (.iload_n 1, 1) := by decide +kernel
theorem dX7_planTurn_23 : decode cX7_planTurn 23 = .ok (.aload_n 0, 1) := by decide +kernel
theorem dX7_planTurn_24 : decode cX7_planTurn 24 = .ok (.getfield 10, 3) := by decide +kernel
theorem dX7_planTurn_27 : decode cX7_planTurn 27 = .ok (.getfield 113, 3) := by decide +kernel
theorem dX7_planTurn_30 : decode cX7_planTurn 30 = .ok (.if_icmp .le 18, 3) := by decide +kernel
theorem dX7_planTurn_33 : decode cX7_planTurn 33 = .ok (.aload_n 0, 1) := by decide +kernel
theorem dX7_planTurn_34 : decode cX7_planTurn 34 = .ok (.getfield 10, 3) := by decide +kernel
theorem dX7_planTurn_37 : decode cX7_planTurn 37 = .ok (.getfield 140, 3) := by decide +kernel
theorem dX7_planTurn_40 : decode cX7_planTurn 40 = .ok (.iload_n 1, 1) := by decide +kernel
theorem dX7_planTurn_41 : decode cX7_planTurn 41 = .ok (.invokevirtual 144, 3) := by decide +kernel
theorem dX7_planTurn_44 : decode cX7_planTurn 44 = .ok (.iconst (-1), 1) := by decide +kernel
theorem dX7_planTurn_45 : decode cX7_planTurn 45 = .ok (.if_icmp .eq 6, 3) := by decide +kernel
theorem dX7_planTurn_48 : decode cX7_planTurn 48 = .ok (.ldc 97, 2) := by decide +kernel
theorem dX7_planTurn_50 : decode cX7_planTurn 50 = .ok (.ireturn, 1) := by decide +kernel
theorem dX7_planTurn_51 : decode cX7_planTurn 51 = .ok (.aload_n 0, 1) := by decide +kernel
theorem dX7_planTurn_52 : decode cX7_planTurn 52 = .ok (.getfield 10, 3) := by decide +kernel
theorem dX7_planTurn_55 : decode cX7_planTurn 55 = .ok (.getfield 140, 3) := by decide +kernel
theorem dX7_planTurn_58 : decode cX7_planTurn 58 = .ok (.getfield 150, 3) := by decide +kernel
theorem dX7_planTurn_61 : decode cX7_planTurn 61 = .ok (.bipush 8, 2) := by decide +kernel
theorem dX7_planTurn_63 : decode cX7_planTurn 63 = .ok (.if_icmp .lt 6, 3) := by decide +kernel
theorem dX7_planTurn_66 : decode cX7_planTurn 66 = .ok (.ldc 74, 2) := by decide +kernel
theorem dX7_planTurn_68 : decode cX7_planTurn 68 = .ok (.ireturn, 1) := by decide +kernel
theorem dX7_planTurn_69 : decode cX7_planTurn 69 = .ok (.aload_n 0, 1) := by decide +kernel
theorem dX7_planTurn_70 : decode cX7_planTurn 70 = .ok (.invokevirtual 75, 3) := by decide +kernel
theorem dX7_planTurn_73 : decode cX7_planTurn 73 = .ok (.aload_n 0, 1) := by decide +kernel
theorem dX7_planTurn_74 : decode cX7_planTurn 74 = .ok (.getfield 10, 3) := by decide +kernel
theorem dX7_planTurn_77 : decode cX7_planTurn 77 = .ok (.getfield 140, 3) := by decide +kernel
theorem dX7_planTurn_80 : decode cX7_planTurn 80 = .ok (.iload_n 1, 1) := by decide +kernel
theorem dX7_planTurn_81 : decode cX7_planTurn 81 = .ok (.iload_n 2, 1) := by decide +kernel
theorem dX7_planTurn_82 : decode cX7_planTurn 82 = .ok (.iload_n 3, 1) := by decide +kernel
theorem dX7_planTurn_83 : decode cX7_planTurn 83 = .ok (.invokevirtual 151, 3) := by decide +kernel
theorem dX7_planTurn_86 : decode cX7_planTurn 86 = .ok (.aload_n 0, 1) := by decide +kernel
theorem dX7_planTurn_87 : decode cX7_planTurn 87 = .ok (.getfield 10, 3) := by decide +kernel
theorem dX7_planTurn_90 : decode cX7_planTurn 90 = .ok (.getfield 140, 3) := by decide +kernel
theorem dX7_planTurn_93 : decode cX7_planTurn 93 = .ok (.getfield 150, 3) := by decide +kernel
theorem dX7_planTurn_96 : decode cX7_planTurn 96 = .ok (.ireturn, 1) := by decide +kernel
theorem dX7_dropTurn_0 : decode cX7_dropTurn 0 = .ok (.aload_n 0, 1) := by decide +kernel
theorem dX7_dropTurn_1 : decode cX7_dropTurn 1 = .ok (.getfield 10, 3) := by decide +kernel
theorem dX7_dropTurn_4 : decode cX7_dropTurn 4 = .ok (.getfield 140, 3) := by decide +kernel
theorem dX7_dropTurn_7 : decode cX7_dropTurn 7 = .ok (.iload_n 1, 1) := by decide +kernel
theorem dX7_dropTurn_8 : decode cX7_dropTurn 8 = .ok (.invokevirtual 144, 3) := by decide +kernel
theorem dX7_dropTurn_11 : decode cX7_dropTurn 11 = .ok (.istore_n 2, 1) := by decide +kernel
theorem dX7_dropTurn_12 : decode cX7_dropTurn 12 = .ok (.iload_n 2, 1) := by decide +kernel
theorem dX7_dropTurn_13 : decode cX7_dropTurn 13 = .ok (.iconst (-1), 1) := by decide +kernel
theorem dX7_dropTurn_14 : decode cX7_dropTurn 14 = .ok (.if_icmp .ne 6, 3) := by decide +kernel
theorem dX7_dropTurn_17 : decode cX7_dropTurn 17 = .ok (.ldc 93, 2) := by decide +kernel
theorem dX7_dropTurn_19 : decode cX7_dropTurn 19 = .ok (.ireturn, 1) := by decide +kernel
theorem dX7_dropTurn_20 : decode cX7_dropTurn 20 = .ok (.aload_n 0, 1) := by decide +kernel
theorem dX7_dropTurn_21 : decode cX7_dropTurn 21 = .ok (.invokevirtual 75, 3) := by decide +kernel
theorem dX7_dropTurn_24 : decode cX7_dropTurn 24 = .ok (.aload_n 0, 1) := by decide +kernel
theorem dX7_dropTurn_25 : decode cX7_dropTurn 25 = .ok (.getfield 10, 3) := by decide +kernel
theorem dX7_dropTurn_28 : decode cX7_dropTurn 28 = .ok (.getfield 140, 3) := by decide +kernel
theorem dX7_dropTurn_31 : decode cX7_dropTurn 31 = .ok (.iload_n 2, 1) := by decide +kernel
theorem dX7_dropTurn_32 : decode cX7_dropTurn 32 = .ok (.invokevirtual 155, 3) := by decide +kernel
theorem dX7_dropTurn_35 : decode cX7_dropTurn 35 = .ok (.aload_n 0, 1) := by decide +kernel
theorem dX7_dropTurn_36 : decode cX7_dropTurn 36 = .ok (.getfield 10, 3) := by decide +kernel
theorem dX7_dropTurn_39 : decode cX7_dropTurn 39 = .ok (.getfield 140, 3) := by decide +kernel
theorem dX7_dropTurn_42 : decode cX7_dropTurn 42 = .ok (.getfield 150, 3) := by decide +kernel
theorem dX7_dropTurn_45 : decode cX7_dropTurn 45 = .ok (.ireturn, 1) := by decide +kernel
theorem dX7_crowd_0 : decode cX7_crowd 0 = .ok (.aload_n 0, 1) := by decide +kernel
theorem dX7_crowd_1 : decode cX7_crowd 1 = .ok (.getfield 10, 3) := by decide +kernel
theorem dX7_crowd_4 : decode cX7_crowd 4 = .ok (.getfield 156, 3) := by decide +kernel
theorem dX7_crowd_7 : decode cX7_crowd 7 = .ok (.iload_n 1, 1) := by decide +kernel
theorem dX7_crowd_8 : decode cX7_crowd 8 = .ok (.if_icmp .ne 6, 3) := by decide +kernel
theorem dX7_crowd_11 : decode cX7_crowd 11 = .ok (.ldc 106, 2) := by decide +kernel
theorem dX7_crowd_13 : decode cX7_crowd 13 = .ok (.ireturn, 1) := by decide +kernel
theorem dX7_crowd_14 : decode cX7_crowd 14 = .ok (.aload_n 0, 1) := by decide +kernel
theorem dX7_crowd_15 : decode cX7_crowd 15 = .ok (.invokevirtual 75, 3) := by decide +kernel
theorem dX7_crowd_18 : decode cX7_crowd 18 = .ok (.aload_n 0, 1) := by decide +kernel
theorem dX7_crowd_19 : decode cX7_crowd 19 = .ok (.getfield 10, 3) := by decide +kernel
theorem dX7_crowd_22 : decode cX7_crowd 22 = .ok (.iload_n 1, 1) := by decide +kernel
theorem dX7_crowd_23 : decode cX7_crowd 23 = .ok (.putfield 156, 3) := by decide +kernel
theorem dX7_crowd_26 : decode cX7_crowd 26 = .ok (.aload_n 0, 1) := by decide +kernel
theorem dX7_crowd_27 : decode cX7_crowd 27 = .ok (.invokevirtual 159, 3) := by decide +kernel
theorem dX7_crowd_30 : decode cX7_crowd 30 = .ok (.ireturn, 1) := by decide +kernel
theorem dX7_setTangle_0 : decode cX7_setTangle 0 = .ok (.iload_n 1, 1) := by decide +kernel
theorem dX7_setTangle_1 : decode cX7_setTangle 1 = .ok (.iconst 1, 1) := by decide +kernel
theorem dX7_setTangle_2 : decode cX7_setTangle 2 = .ok (.bipush 9, 2) := by decide +kernel
theorem dX7_setTangle_4 : decode cX7_setTangle 4 = .ok (.invokestatic 59, 3) := by decide +kernel
theorem dX7_setTangle_7 : decode cX7_setTangle 7 = .ok (.ifCond .ne 6, 3) := by decide +kernel
theorem dX7_setTangle_10 : decode cX7_setTangle 10 = .ok (.ldc 63, 2) := by decide +kernel
theorem dX7_setTangle_12 : decode cX7_setTangle 12 = .ok (.ireturn, 1) := by decide +kernel
theorem dX7_setTangle_13 : decode cX7_setTangle 13 = .ok (.aload_n 0, 1) := by decide +kernel
theorem dX7_setTangle_14 : decode cX7_setTangle 14 = .ok (.getfield 10, 3) := by decide +kernel
theorem dX7_setTangle_17 : decode cX7_setTangle 17 = .ok (.getfield 162, 3) := by decide +kernel
theorem dX7_setTangle_20 : decode cX7_setTangle 20 = .ok (.istore_n 2, 1) := by decide +kernel
theorem dX7_setTangle_21 : decode cX7_setTangle 21 = .ok (.iload_n 2, 1) := by decide +kernel
theorem dX7_setTangle_22 : decode cX7_setTangle 22 = .ok (.iload_n 1, 1) := by decide +kernel
theorem dX7_setTangle_23 : decode cX7_setTangle 23 = .ok (.if_icmp .ne 6, 3) := by decide +kernel
theorem dX7_setTangle_26 : decode cX7_setTangle 26 = .ok (.ldc 106, 2) := by decide +kernel
theorem dX7_setTangle_28 : decode cX7_setTangle 28 = .ok (.ireturn, 1) := by decide +kernel
theorem dX7_setTangle_29 : decode cX7_setTangle 29 = .ok (.aload_n 0, 1) := by decide +kernel
theorem dX7_setTangle_30 : decode cX7_setTangle 30 = .ok (.invokevirtual 75, 3) := by decide +kernel
theorem dX7_setTangle_33 : decode cX7_setTangle 33 = .ok (.aload_n 0, 1) := by decide +kernel
theorem dX7_setTangle_34 : decode cX7_setTangle 34 = .ok (.getfield 10, 3) := by decide +kernel
theorem dX7_setTangle_37 : decode cX7_setTangle 37 = .ok (.iload_n 1, 1) := by decide +kernel
theorem dX7_setTangle_38 : decode cX7_setTangle 38 = .ok (.putfield 162, 3) := by decide +kernel
theorem dX7_setTangle_41 : decode cX7_setTangle 41 = .ok (.iload_n 2, 1) := by decide +kernel
theorem dX7_setTangle_42 : decode cX7_setTangle 42 = .ok (.ireturn, 1) := by decide +kernel
theorem dX7_want_0 : decode cX7_want 0 = .ok (.aload_n 0, 1) := by decide +kernel
theorem dX7_want_1 : decode cX7_want 1 = .ok (.invokevirtual 165, 3) := by decide +kernel
theorem dX7_want_4 : decode cX7_want 4 = .ok (.istore_n 1, 1) := by decide +kernel
theorem dX7_want_5 : decode cX7_want 5 = .ok (.iload_n 1, 1) := by decide +kernel
theorem dX7_want_6 : decode cX7_want 6 = .ok (.iconst (-1), 1) := by decide +kernel
theorem dX7_want_7 : decode cX7_want 7 = .ok (.if_icmp .eq 8, 3) := by decide +kernel
theorem dX7_want_10 : decode cX7_want 10 = .ok (.ldc 89, 2) := by decide +kernel
theorem dX7_want_12 : decode cX7_want 12 = .ok (.iload_n 1, 1) := by decide +kernel
theorem dX7_want_13 : decode cX7_want 13 = .ok (.isub, 1) := by decide +kernel
theorem dX7_want_14 : decode cX7_want 14 = .ok (.ireturn, 1) := by decide +kernel
theorem dX7_want_15 : decode cX7_want 15 = .ok (.aload_n 0, 1) := by decide +kernel
theorem dX7_want_16 : decode cX7_want 16 = .ok (.getfield 10, 3) := by decide +kernel
theorem dX7_want_19 : decode cX7_want 19 = .ok (.getfield 168, 3) := by decide +kernel
theorem dX7_want_22 : decode cX7_want 22 = .ok (.aload_n 0, 1) := by decide +kernel
theorem dX7_want_23 : decode cX7_want 23 = .ok (.getfield 26, 3) := by decide +kernel
theorem dX7_want_26 : decode cX7_want 26 = .ok (.aload_n 0, 1) := by decide +kernel
theorem dX7_want_27 : decode cX7_want 27 = .ok (.getfield 52, 3) := by decide +kernel
theorem dX7_want_30 : decode cX7_want 30 = .ok (.invokevirtual 172, 3) := by decide +kernel
theorem dX7_want_33 : decode cX7_want 33 = .ok (.ifCond .eq 6, 3) := by decide +kernel
theorem dX7_want_36 : decode cX7_want 36 = .ok (.ldc 106, 2) := by decide +kernel
theorem dX7_want_38 : decode cX7_want 38 = .ok (.ireturn, 1) := by decide +kernel
theorem dX7_want_39 : decode cX7_want 39 = .ok (.aload_n 0, 1) := by decide +kernel
theorem dX7_want_40 : decode cX7_want 40 = .ok (.invokevirtual 75, 3) := by decide +kernel
theorem dX7_want_43 : decode cX7_want 43 = .ok (.aload_n 0, 1) := by decide +kernel
theorem dX7_want_44 : decode cX7_want 44 = .ok (.getfield 10, 3) := by decide +kernel
theorem dX7_want_47 : decode cX7_want 47 = .ok (.getfield 168, 3) := by decide +kernel
theorem dX7_want_50 : decode cX7_want 50 = .ok (.aload_n 0, 1) := by decide +kernel
theorem dX7_want_51 : decode cX7_want 51 = .ok (.getfield 26, 3) := by decide +kernel
theorem dX7_want_54 : decode cX7_want 54 = .ok (.aload_n 0, 1) := by decide +kernel
theorem dX7_want_55 : decode cX7_want 55 = .ok (.getfield 52, 3) := by decide +kernel
theorem dX7_want_58 : decode cX7_want 58 = .ok (.invokevirtual 178, 3) := by decide +kernel
theorem dX7_want_61 : decode cX7_want 61 = .ok (.aload_n 0, 1) := by decide +kernel
theorem dX7_want_62 : decode cX7_want 62 = .ok (.getfield 10, 3) := by decide +kernel
theorem dX7_want_65 : decode cX7_want 65 = .ok (.getfield 168, 3) := by decide +kernel
theorem dX7_want_68 : decode cX7_want 68 = .ok (.getfield 182, 3) := by decide +kernel
theorem dX7_want_71 : decode cX7_want 71 = .ok (.ireturn, 1) := by decide +kernel
theorem dX7_type_0 : decode cX7_type 0 = .ok (.aload_n 0, 1) := by decide +kernel
theorem dX7_type_1 : decode cX7_type 1 = .ok (.getfield 52, 3) := by decide +kernel
theorem dX7_type_4 : decode cX7_type 4 = .ok (.bipush 60, 2) := by decide +kernel
theorem dX7_type_6 : decode cX7_type 6 = .ok (.if_icmp .lt 6, 3) := by decide +kernel
theorem dX7_type_9 : decode cX7_type 9 = .ok (.ldc 74, 2) := by decide +kernel
theorem dX7_type_11 : decode cX7_type 11 = .ok (.ireturn, 1) := by decide +kernel
theorem dX7_type_12 : decode cX7_type 12 = .ok (.aload_n 0, 1) := by decide +kernel
theorem dX7_type_13 : decode cX7_type 13 = .ok (.getfield 26, 3) := by decide +kernel
theorem dX7_type_16 : decode cX7_type 16 = .ok (.aload_n 0, 1) := by decide +kernel
theorem dX7_type_17 : decode cX7_type 17 = .ok (.getfield 52, 3) := by decide +kernel
theorem dX7_type_20 : decode cX7_type 20 = .ok (.iload_n 1, 1) := by decide +kernel
theorem dX7_type_21 : decode cX7_type 21 = .ok (.castore, 1) := by decide +kernel
theorem dX7_type_22 : decode cX7_type 22 = .ok (.aload_n 0, 1) := by decide +kernel
theorem dX7_type_23 : decode cX7_type 23 = .ok (.dup, 1) := by decide +kernel
theorem dX7_type_24 : decode cX7_type 24 = .ok (.getfield 52, 3) := by decide +kernel
theorem dX7_type_27 : decode cX7_type 27 = .ok (.iconst 1, 1) := by decide +kernel
theorem dX7_type_28 : decode cX7_type 28 = .ok (.iadd, 1) := by decide +kernel
theorem dX7_type_29 : decode cX7_type 29 = .ok (.putfield 52, 3) := by decide +kernel
theorem dX7_type_32 : decode cX7_type 32 = .ok (.aload_n 0, 1) := by decide +kernel
theorem dX7_type_33 : decode cX7_type 33 = .ok (.getfield 52, 3) := by decide +kernel
theorem dX7_type_36 : decode cX7_type 36 = .ok (.ireturn, 1) := by decide +kernel
theorem dX7_clearText_0 : decode cX7_clearText 0 = .ok (.aload_n 0, 1) := by decide +kernel
theorem dX7_clearText_1 : decode cX7_clearText 1 = .ok (.getfield 52, 3) := by decide +kernel
theorem dX7_clearText_4 : decode cX7_clearText 4 = .ok (.istore_n 1, 1) := by decide +kernel
theorem dX7_clearText_5 : decode cX7_clearText 5 = .ok (.aload_n 0, 1) := by decide +kernel
theorem dX7_clearText_6 : decode cX7_clearText 6 = .ok (.iconst 0, 1) := by decide +kernel
theorem dX7_clearText_7 : decode cX7_clearText 7 = .ok (.putfield 52, 3) := by decide +kernel
theorem dX7_clearText_10 : decode cX7_clearText 10 = .ok (.iload_n 1, 1) := by decide +kernel
theorem dX7_clearText_11 : decode cX7_clearText 11 = .ok (.ireturn, 1) := by decide +kernel
theorem dX7_undo_0 : decode cX7_undo 0 = .ok (.aload_n 0, 1) := by decide +kernel
theorem dX7_undo_1 : decode cX7_undo 1 = .ok (.getfield 48, 3) := by decide +kernel
theorem dX7_undo_4 : decode cX7_undo 4 = .ok (.ifCond .gt 6, 3) := by decide +kernel
theorem dX7_undo_7 : decode cX7_undo 7 = .ok (.ldc 106, 2) := by decide +kernel
theorem dX7_undo_9 : decode cX7_undo 9 = .ok (.ireturn, 1) := by decide +kernel
theorem dX7_undo_10 : decode cX7_undo 10 = .ok (.aload_n 0, 1) := by decide +kernel
theorem dX7_undo_11 : decode cX7_undo 11 = .ok (.dup, 1) := by decide +kernel
theorem dX7_undo_12 : decode cX7_undo 12 = .ok (.getfield 48, 3) := by decide +kernel
theorem dX7_undo_15 : decode cX7_undo 15 = .ok (.iconst 1, 1) := by decide +kernel
theorem dX7_undo_16 : decode cX7_undo 16 = .ok (.isub, 1) := by decide +kernel
theorem dX7_undo_17 : decode cX7_undo 17 = .ok (.putfield 48, 3) := by decide +kernel
theorem dX7_undo_20 : decode cX7_undo 20 = .ok (.aload_n 0, 1) := by decide +kernel
theorem dX7_undo_21 : decode cX7_undo 21 = .ok (.getfield 10, 3) := by decide +kernel
theorem dX7_undo_24 : decode cX7_undo 24 = .ok (.aload_n 0, 1) := by decide +kernel
theorem dX7_undo_25 : decode cX7_undo 25 = .ok (.getfield 22, 3) := by decide +kernel
theorem dX7_undo_28 : decode cX7_undo 28 = .ok (.aload_n 0, 1) := by decide +kernel
theorem dX7_undo_29 : decode cX7_undo 29 = .ok (.getfield 48, 3) := by decide +kernel
theorem dX7_undo_32 : decode cX7_undo 32 = .ok (.aaload, 1) := by decide +kernel
theorem dX7_undo_33 : decode cX7_undo 33 = .ok (.invokevirtual 183, 3) := by decide +kernel
theorem dX7_undo_36 : decode cX7_undo 36 = .ok (.aload_n 0, 1) := by decide +kernel
theorem dX7_undo_37 : decode cX7_undo 37 = .ok (.getfield 48, 3) := by decide +kernel
theorem dX7_undo_40 : decode cX7_undo 40 = .ok (.ireturn, 1) := by decide +kernel
theorem dX7_keep_0 : decode cX7_keep 0 = .ok (.aload_n 0, 1) := by decide +kernel
theorem dX7_keep_1 : decode cX7_keep 1 = .ok (.getfield 19, 3) := by decide +kernel
theorem dX7_keep_4 : decode cX7_keep 4 = .ok (.aload_n 0, 1) := by decide +kernel
theorem dX7_keep_5 : decode cX7_keep 5 = .ok (.getfield 10, 3) := by decide +kernel
theorem dX7_keep_8 : decode cX7_keep 8 = .ok (.invokevirtual 183, 3) := by decide +kernel
theorem dX7_keep_11 : decode cX7_keep 11 = .ok (.aload_n 0, 1) := by decide +kernel
theorem dX7_keep_12 : decode cX7_keep 12 = .ok (.iconst 1, 1) := by decide +kernel
theorem dX7_keep_13 : decode cX7_keep 13 = .ok (.putfield 44, 3) := by decide +kernel
theorem dX7_keep_16 : decode cX7_keep 16 = .ok (.aload_n 0, 1) := by decide +kernel
theorem dX7_keep_17 : decode cX7_keep 17 = .ok (.getfield 10, 3) := by decide +kernel
theorem dX7_keep_20 : decode cX7_keep 20 = .ok (.getfield 113, 3) := by decide +kernel
theorem dX7_keep_23 : decode cX7_keep 23 = .ok (.ireturn, 1) := by decide +kernel
theorem dX7_restore_0 : decode cX7_restore 0 = .ok (.aload_n 0, 1) := by decide +kernel
theorem dX7_restore_1 : decode cX7_restore 1 = .ok (.getfield 44, 3) := by decide +kernel
theorem dX7_restore_4 : decode cX7_restore 4 = .ok (.ifCond .ne 6, 3) := by decide +kernel
theorem dX7_restore_7 : decode cX7_restore 7 = .ok (.ldc 106, 2) := by decide +kernel
theorem dX7_restore_9 : decode cX7_restore 9 = .ok (.ireturn, 1) := by decide +kernel
theorem dX7_restore_10 : decode cX7_restore 10 = .ok (.aload_n 0, 1) := by decide +kernel
theorem dX7_restore_11 : decode cX7_restore 11 = .ok (.invokevirtual 75, 3) := by decide +kernel
theorem dX7_restore_14 : decode cX7_restore 14 = .ok (.aload_n 0, 1) := by decide +kernel
theorem dX7_restore_15 : decode cX7_restore 15 = .ok (.getfield 10, 3) := by decide +kernel
theorem dX7_restore_18 : decode cX7_restore 18 = .ok (.aload_n 0, 1) := by decide +kernel
theorem dX7_restore_19 : decode cX7_restore 19 = .ok (.getfield 19, 3) := by decide +kernel
theorem dX7_restore_22 : decode cX7_restore 22 = .ok (.invokevirtual 183, 3) := by decide +kernel
theorem dX7_restore_25 : decode cX7_restore 25 = .ok (.aload_n 0, 1) := by decide +kernel
theorem dX7_restore_26 : decode cX7_restore 26 = .ok (.getfield 10, 3) := by decide +kernel
theorem dX7_restore_29 : decode cX7_restore 29 = .ok (.getfield 113, 3) := by decide +kernel
theorem dX7_restore_32 : decode cX7_restore 32 = .ok (.ireturn, 1) := by decide +kernel
theorem dX7_flier_0 : decode cX7_flier 0 = .ok (.aload_n 0, 1) := by decide +kernel
theorem dX7_flier_1 : decode cX7_flier 1 = .ok (.getfield 10, 3) := by decide +kernel
theorem dX7_flier_4 : decode cX7_flier 4 = .ok (.getfield 64, 3) := by decide +kernel
theorem dX7_flier_7 : decode cX7_flier 7 = .ok (.iload_n 1, 1) := by decide +kernel
theorem dX7_flier_8 : decode cX7_flier 8 = .ok (.invokevirtual 90, 3) := by decide +kernel
theorem dX7_flier_11 : decode cX7_flier 11 = .ok (.ifCond .ne 6, 3) := by decide +kernel
theorem dX7_flier_14 : decode cX7_flier 14 = .ok (.ldc 93, 2) := by decide +kernel
theorem dX7_flier_16 : decode cX7_flier 16 = .ok (.ireturn, 1) := by decide +kernel
theorem dX7_flier_17 : decode cX7_flier 17 = .ok (.iload_n 2, 1) := by decide +kernel
theorem dX7_flier_18 : decode cX7_flier 18 = .ok (.tableswitch 186 0 7 #[46, 59, 72, 85, 104, 138, 151, 173], 46) := by decide +kernel
theorem dX7_flier_64 : decode cX7_flier 64 = .ok (.aload_n 0, 1) := by decide +kernel
theorem dX7_flier_65 : decode cX7_flier 65 = .ok (.getfield 10, 3) := by decide +kernel
theorem dX7_flier_68 : decode cX7_flier 68 = .ok (.getfield 64, 3) := by decide +kernel
theorem dX7_flier_71 : decode cX7_flier 71 = .ok (.getfield 187, 3) := by decide +kernel
theorem dX7_flier_74 : decode cX7_flier 74 = .ok (.iload_n 1, 1) := by decide +kernel
theorem dX7_flier_75 : decode cX7_flier 75 = .ok (.iaload, 1) := by decide +kernel
theorem dX7_flier_76 : decode cX7_flier 76 = .ok (.ireturn, 1) := by decide +kernel
theorem dX7_flier_77 : decode cX7_flier 77 = .ok (.aload_n 0, 1) := by decide +kernel
theorem dX7_flier_78 : decode cX7_flier 78 = .ok (.getfield 10, 3) := by decide +kernel
theorem dX7_flier_81 : decode cX7_flier 81 = .ok (.getfield 64, 3) := by decide +kernel
theorem dX7_flier_84 : decode cX7_flier 84 = .ok (.getfield 190, 3) := by decide +kernel
theorem dX7_flier_87 : decode cX7_flier 87 = .ok (.iload_n 1, 1) := by decide +kernel
theorem dX7_flier_88 : decode cX7_flier 88 = .ok (.iaload, 1) := by decide +kernel
theorem dX7_flier_89 : decode cX7_flier 89 = .ok (.ireturn, 1) := by decide +kernel
theorem dX7_flier_90 : decode cX7_flier 90 = .ok (.aload_n 0, 1) := by decide +kernel
theorem dX7_flier_91 : decode cX7_flier 91 = .ok (.getfield 10, 3) := by decide +kernel
theorem dX7_flier_94 : decode cX7_flier 94 = .ok (.getfield 64, 3) := by decide +kernel
theorem dX7_flier_97 : decode cX7_flier 97 = .ok (.getfield 102, 3) := by decide +kernel
theorem dX7_flier_100 : decode cX7_flier 100 = .ok (.iload_n 1, 1) := by decide +kernel
theorem dX7_flier_101 : decode cX7_flier 101 = .ok (.iaload, 1) := by decide +kernel
theorem dX7_flier_102 : decode cX7_flier 102 = .ok (.ireturn, 1) := by decide +kernel
theorem dX7_flier_103 : decode cX7_flier 103 = .ok (.aload_n 0, 1) := by decide +kernel
theorem dX7_flier_104 : decode cX7_flier 104 = .ok (.getfield 10, 3) := by decide +kernel
theorem dX7_flier_107 : decode cX7_flier 107 = .ok (.getfield 64, 3) := by decide +kernel
theorem dX7_flier_110 : decode cX7_flier 110 = .ok (.iload_n 1, 1) := by decide +kernel
theorem dX7_flier_111 : decode cX7_flier 111 = .ok (.aload_n 0, 1) := by decide +kernel
theorem dX7_flier_112 : decode cX7_flier 112 = .ok (.getfield 10, 3) := by decide +kernel
theorem dX7_flier_115 : decode cX7_flier 115 = .ok (.invokevirtual 193, 3) := by decide +kernel
theorem dX7_flier_118 : decode cX7_flier 118 = .ok (.invokevirtual 196, 3) := by decide +kernel
theorem dX7_flier_121 : decode cX7_flier 121 = .ok (.ireturn, 1) := by decide +kernel
theorem dX7_flier_122 : decode cX7_flier 122 = .ok (.aload_n 0, 1) := by decide +kernel
theorem dX7_flier_123 : decode cX7_flier 123 = .ok (.getfield 10, 3) := by decide +kernel
theorem dX7_flier_126 : decode cX7_flier 126 = .ok (.getfield 64, 3) := by decide +kernel
theorem dX7_flier_129 : decode cX7_flier 129 = .ok (.iload_n 1, 1) := by decide +kernel
theorem dX7_flier_130 : decode cX7_flier 130 = .ok (.invokevirtual 94, 3) := by decide +kernel
theorem dX7_flier_133 : decode cX7_flier 133 = .ok (.ifCond .eq 20, 3) := by decide +kernel
theorem dX7_flier_136 : decode cX7_flier 136 = .ok (.iload_n 1, 1) := by decide +kernel
theorem dX7_flier_137 : decode cX7_flier 137 = .ok (.aload_n 0, 1) := by decide +kernel
theorem dX7_flier_138 : decode cX7_flier 138 = .ok (.getfield 10, 3) := by decide +kernel
theorem dX7_flier_141 : decode cX7_flier 141 = .ok (.getfield 64, 3) := by decide +kernel
theorem dX7_flier_144 : decode cX7_flier 144 = .ok (.getfield 199, 3) := by decide +kernel
theorem dX7_flier_147 : decode cX7_flier 147 = .ok (.iload_n 1, 1) := by decide +kernel
theorem dX7_flier_148 : decode cX7_flier 148 = .ok (.iaload, 1) := by decide +kernel
theorem dX7_flier_149 : decode cX7_flier 149 = .ok (.iadd, 1) := by decide +kernel
theorem dX7_flier_150 : decode cX7_flier 150 = .ok (.goto 5, 3) := by decide +kernel
theorem dX7_flier_153 : decode cX7_flier 153 = .ok (.ldc 106, 2) := by decide +kernel
theorem dX7_flier_155 : decode cX7_flier 155 = .ok (.ireturn, 1) := by decide +kernel
theorem dX7_flier_156 : decode cX7_flier 156 = .ok (.aload_n 0, 1) := by decide +kernel
theorem dX7_flier_157 : decode cX7_flier 157 = .ok (.getfield 10, 3) := by decide +kernel
theorem dX7_flier_160 : decode cX7_flier 160 = .ok (.getfield 64, 3) := by decide +kernel
theorem dX7_flier_163 : decode cX7_flier 163 = .ok (.getfield 202, 3) := by decide +kernel
theorem dX7_flier_166 : decode cX7_flier 166 = .ok (.iload_n 1, 1) := by decide +kernel
theorem dX7_flier_167 : decode cX7_flier 167 = .ok (.iaload, 1) := by decide +kernel
theorem dX7_flier_168 : decode cX7_flier 168 = .ok (.ireturn, 1) := by decide +kernel
theorem dX7_flier_169 : decode cX7_flier 169 = .ok (.aload_n 0, 1) := by decide +kernel
theorem dX7_flier_170 : decode cX7_flier 170 = .ok (.getfield 10, 3) := by decide +kernel
theorem dX7_flier_173 : decode cX7_flier 173 = .ok (.getfield 64, 3) := by decide +kernel
theorem dX7_flier_176 : decode cX7_flier 176 = .ok (.iload_n 1, 1) := by decide +kernel
theorem dX7_flier_177 : decode cX7_flier 177 = .ok (.aload_n 0, 1) := by decide +kernel
theorem dX7_flier_178 : decode cX7_flier 178 = .ok (.getfield 10, 3) := by decide +kernel
theorem dX7_flier_181 : decode cX7_flier 181 = .ok (.invokevirtual 193, 3) := by decide +kernel
theorem dX7_flier_184 : decode cX7_flier 184 = .ok (.invokevirtual 205, 3) := by decide +kernel
theorem dX7_flier_187 : decode cX7_flier 187 = .ok (.invokestatic 119, 3) := by decide +kernel
theorem dX7_flier_190 : decode cX7_flier 190 = .ok (.ireturn, 1) := by decide +kernel
theorem dX7_flier_191 : decode cX7_flier 191 = .ok (.aload_n 0, 1) := by decide +kernel
theorem dX7_flier_192 : decode cX7_flier 192 = .ok (.getfield 10, 3) := by decide +kernel
theorem dX7_flier_195 : decode cX7_flier 195 = .ok (.getfield 64, 3) := by decide +kernel
theorem dX7_flier_198 : decode cX7_flier 198 = .ok (.getfield 208, 3) := by decide +kernel
theorem dX7_flier_201 : decode cX7_flier 201 = .ok (.iload_n 1, 1) := by decide +kernel
theorem dX7_flier_202 : decode cX7_flier 202 = .ok (.iaload, 1) := by decide +kernel
theorem dX7_flier_203 : decode cX7_flier 203 = .ok (.ireturn, 1) := by decide +kernel
theorem dX7_flier_204 : decode cX7_flier 204 = .ok (.ldc 63, 2) := by decide +kernel
theorem dX7_flier_206 : decode cX7_flier 206 = .ok (.ireturn, 1) := by decide +kernel
theorem dX7_reads_0 : decode cX7_reads 0 = .ok (.iload_n 1, 1) := by decide +kernel
theorem dX7_reads_1 : decode cX7_reads 1 = .ok (.ifCond .ge 6, 3) := by decide +kernel
theorem dX7_reads_4 : decode cX7_reads 4 = .ok (.ldc 63, 2) := by decide +kernel
theorem dX7_reads_6 : decode cX7_reads 6 = .ok (.ireturn, 1) := by decide +kernel
theorem dX7_reads_7 : decode cX7_reads 7 = .ok (.aload_n 0, 1) := by decide +kernel
theorem dX7_reads_8 : decode cX7_reads 8 = .ok (.getfield 33, 3) := by decide +kernel
theorem dX7_reads_11 : decode cX7_reads 11 = .ok (.aload_n 0, 1) := by decide +kernel
theorem dX7_reads_12 : decode cX7_reads 12 = .ok (.getfield 10, 3) := by decide +kernel
theorem dX7_reads_15 : decode cX7_reads 15 = .ok (.invokevirtual 211, 3) := by decide +kernel
theorem dX7_reads_18 : decode cX7_reads 18 = .ok (.iload_n 1, 1) := by decide +kernel
theorem dX7_reads_19 : decode cX7_reads 19 = .ok (.aload_n 0, 1) := by decide +kernel
theorem dX7_reads_20 : decode cX7_reads 20 = .ok (.getfield 33, 3) := by decide +kernel
theorem dX7_reads_23 : decode cX7_reads 23 = .ok (.getfield 214, 3) := by decide +kernel
theorem dX7_reads_26 : decode cX7_reads 26 = .ok (.if_icmp .lt 6, 3) := by decide +kernel
theorem dX7_reads_29 : decode cX7_reads 29 = .ok (.ldc 106, 2) := by decide +kernel
theorem dX7_reads_31 : decode cX7_reads 31 = .ok (.ireturn, 1) := by decide +kernel
theorem dX7_reads_32 : decode cX7_reads 32 = .ok (.aload_n 0, 1) := by decide +kernel
theorem dX7_reads_33 : decode cX7_reads 33 = .ok (.getfield 10, 3) := by decide +kernel
theorem dX7_reads_36 : decode cX7_reads 36 = .ok (.getfield 64, 3) := by decide +kernel
theorem dX7_reads_39 : decode cX7_reads 39 = .ok (.getfield 190, 3) := by decide +kernel
theorem dX7_reads_42 : decode cX7_reads 42 = .ok (.aload_n 0, 1) := by decide +kernel
theorem dX7_reads_43 : decode cX7_reads 43 = .ok (.getfield 33, 3) := by decide +kernel
theorem dX7_reads_46 : decode cX7_reads 46 = .ok (.getfield 215, 3) := by decide +kernel
theorem dX7_reads_49 : decode cX7_reads 49 = .ok (.iload_n 1, 1) := by decide +kernel
theorem dX7_reads_50 : decode cX7_reads 50 = .ok (.iaload, 1) := by decide +kernel
theorem dX7_reads_51 : decode cX7_reads 51 = .ok (.iaload, 1) := by decide +kernel
theorem dX7_reads_52 : decode cX7_reads 52 = .ok (.ireturn, 1) := by decide +kernel
theorem dX7_ifTraded_0 : decode cX7_ifTraded 0 = .ok (.aload_n 0, 1) := by decide +kernel
theorem dX7_ifTraded_1 : decode cX7_ifTraded 1 = .ok (.getfield 10, 3) := by decide +kernel
theorem dX7_ifTraded_4 : decode cX7_ifTraded 4 = .ok (.getfield 64, 3) := by decide +kernel
theorem dX7_ifTraded_7 : decode cX7_ifTraded 7 = .ok (.iload_n 1, 1) := by decide +kernel
theorem dX7_ifTraded_8 : decode cX7_ifTraded 8 = .ok (.invokevirtual 107, 3) := by decide +kernel
theorem dX7_ifTraded_11 : decode cX7_ifTraded 11 = .ok (.ifCond .ne 6, 3) := by decide +kernel
theorem dX7_ifTraded_14 : decode cX7_ifTraded 14 = .ok (.ldc 93, 2) := by decide +kernel
theorem dX7_ifTraded_16 : decode cX7_ifTraded 16 = .ok (.ireturn, 1) := by decide +kernel
theorem dX7_ifTraded_17 : decode cX7_ifTraded 17 = .ok (.iload_n 2, 1) := by decide +kernel
theorem dX7_ifTraded_18 : decode cX7_ifTraded 18 = .ok (.iconst 0, 1) := by decide +kernel
theorem dX7_ifTraded_19 : decode cX7_ifTraded 19 = .ok (.iconst 2, 1) := by decide +kernel
theorem dX7_ifTraded_20 : decode cX7_ifTraded 20 = .ok (.invokestatic 59, 3) := by decide +kernel
theorem dX7_ifTraded_23 : decode cX7_ifTraded 23 = .ok (.ifCond .ne 6, 3) := by decide +kernel
theorem dX7_ifTraded_26 : decode cX7_ifTraded 26 = .ok (.ldc 63, 2) := by decide +kernel
theorem dX7_ifTraded_28 : decode cX7_ifTraded 28 = .ok (.ireturn, 1) := by decide +kernel
theorem dX7_ifTraded_29 : decode cX7_ifTraded 29 = .ok (.iload_n 2, 1) := by decide +kernel
theorem dX7_ifTraded_30 : decode cX7_ifTraded 30 = .ok (.iconst 1, 1) := by decide +kernel
theorem dX7_ifTraded_31 : decode cX7_ifTraded 31 = .ok (.if_icmp .ne 15, 3) := by decide +kernel
theorem dX7_ifTraded_34 : decode cX7_ifTraded 34 = .ok (.aload_n 0, 1) := by decide +kernel
theorem dX7_ifTraded_35 : decode cX7_ifTraded 35 = .ok (.getfield 10, 3) := by decide +kernel
theorem dX7_ifTraded_38 : decode cX7_ifTraded 38 = .ok (.iload_n 1, 1) := by decide +kernel
theorem dX7_ifTraded_39 : decode cX7_ifTraded 39 = .ok (.invokevirtual 218, 3) := by decide +kernel
theorem dX7_ifTraded_42 : decode cX7_ifTraded 42 = .ok (.invokestatic 119, 3) := by decide +kernel
theorem dX7_ifTraded_45 : decode cX7_ifTraded 45 = .ok (.ireturn, 1) := by decide +kernel
theorem dX7_ifTraded_46 : decode cX7_ifTraded 46 = .ok (.aload_n 0, 1) := by decide +kernel
theorem dX7_ifTraded_47 : decode cX7_ifTraded 47 = .ok (.getfield 40, 3) := by decide +kernel
theorem dX7_ifTraded_50 : decode cX7_ifTraded 50 = .ok (.aload_n 0, 1) := by decide +kernel
theorem dX7_ifTraded_51 : decode cX7_ifTraded 51 = .ok (.getfield 10, 3) := by decide +kernel
theorem dX7_ifTraded_54 : decode cX7_ifTraded 54 = .ok (.invokevirtual 221, 3) := by decide +kernel
theorem dX7_ifTraded_57 : decode cX7_ifTraded 57 = .ok (.aload_n 0, 1) := by decide +kernel
theorem dX7_ifTraded_58 : decode cX7_ifTraded 58 = .ok (.getfield 40, 3) := by decide +kernel
theorem dX7_ifTraded_61 : decode cX7_ifTraded 61 = .ok (.getfield 224, 3) := by decide +kernel
theorem dX7_ifTraded_64 : decode cX7_ifTraded 64 = .ok (.ifCond .ne 6, 3) := by decide +kernel
theorem dX7_ifTraded_67 : decode cX7_ifTraded 67 = .ok (.ldc 106, 2) := by decide +kernel
theorem dX7_ifTraded_69 : decode cX7_ifTraded 69 = .ok (.ireturn, 1) := by decide +kernel
theorem dX7_ifTraded_70 : decode cX7_ifTraded 70 = .ok (.iload_n 2, 1) := by decide +kernel
theorem dX7_ifTraded_71 : decode cX7_ifTraded 71 = .ok (.ifCond .ne 17, 3) := by decide +kernel
theorem dX7_ifTraded_74 : decode cX7_ifTraded 74 = .ok (.aload_n 0, 1) := by decide +kernel
theorem dX7_ifTraded_75 : decode cX7_ifTraded 75 = .ok (.getfield 40, 3) := by decide +kernel
theorem dX7_ifTraded_78 : decode cX7_ifTraded 78 = .ok (.iload_n 1, 1) := by decide +kernel
theorem dX7_ifTraded_79 : decode cX7_ifTraded 79 = .ok (.invokevirtual 227, 3) := by decide +kernel
theorem dX7_ifTraded_82 : decode cX7_ifTraded 82 = .ok (.invokestatic 119, 3) := by decide +kernel
theorem dX7_ifTraded_85 : decode cX7_ifTraded 85 = .ok (.goto 18, 3) := by decide +kernel
theorem dX7_ifTraded_88 : decode cX7_ifTraded 88 = .ok (.aload_n 0, 1) := by decide +kernel
theorem dX7_ifTraded_89 : decode cX7_ifTraded 89 = .ok (.getfield 40, 3) := by decide +kernel
theorem dX7_ifTraded_92 : decode cX7_ifTraded 92 = .ok (.aload_n 0, 1) := by decide +kernel
theorem dX7_ifTraded_93 : decode cX7_ifTraded 93 = .ok (.getfield 10, 3) := by decide +kernel
theorem dX7_ifTraded_96 : decode cX7_ifTraded 96 = .ok (.getfield 64, 3) := by decide +kernel
theorem dX7_ifTraded_99 : decode cX7_ifTraded 99 = .ok (.iload_n 1, 1) := by decide +kernel
theorem dX7_ifTraded_100 : decode cX7_ifTraded 100 = .ok (.invokevirtual 230, 3) := by decide +kernel
theorem dX7_ifTraded_103 : decode cX7_ifTraded 103 = .ok (.ireturn, 1) := by decide +kernel
theorem dX7_nextTrade_0 : decode cX7_nextTrade 0 = .ok (.aload_n 0, 1) := by decide +kernel
theorem dX7_nextTrade_1 : decode cX7_nextTrade 1 = .ok (.aload_n 0, 1) := by decide +kernel
theorem dX7_nextTrade_2 : decode cX7_nextTrade 2 = .ok (.getfield 10, 3) := by decide +kernel
theorem dX7_nextTrade_5 : decode cX7_nextTrade 5 = .ok (.invokevirtual 234, 3) := by decide +kernel
theorem dX7_nextTrade_8 : decode cX7_nextTrade 8 = .ok (.istore_n 1, 1) := by decide +kernel
theorem dX7_nextTrade_9 : decode cX7_nextTrade 9 = .ok (.iload_n 1, 1) := by decide +kernel
theorem dX7_nextTrade_10 : decode cX7_nextTrade 10 = .ok (.iconst (-1), 1) := by decide +kernel
theorem dX7_nextTrade_11 : decode cX7_nextTrade 11 = .ok (.if_icmp .ne 8, 3) := by decide +kernel
theorem dX7_nextTrade_14 : decode cX7_nextTrade 14 = .ok (.ldc 106, 2) := by decide +kernel
theorem dX7_nextTrade_16 : decode cX7_nextTrade 16 = .ok (.goto 4, 3) := by decide +kernel
theorem dX7_nextTrade_19 : decode cX7_nextTrade 19 = .ok (.iload_n 1, 1) := by decide +kernel
theorem dX7_nextTrade_20 : decode cX7_nextTrade 20 = .ok (.ireturn, 1) := by decide +kernel
theorem dX7_spelledIn_0 : decode cX7_spelledIn 0 = .ok (.aload_n 0, 1) := by decide +kernel
theorem dX7_spelledIn_1 : decode cX7_spelledIn 1 = .ok (.getfield 40, 3) := by decide +kernel
theorem dX7_spelledIn_4 : decode cX7_spelledIn 4 = .ok (.aload_n 0, 1) := by decide +kernel
theorem dX7_spelledIn_5 : decode cX7_spelledIn 5 = .ok (.getfield 10, 3) := by decide +kernel
theorem dX7_spelledIn_8 : decode cX7_spelledIn 8 = .ok (.invokevirtual 221, 3) := by decide +kernel
theorem dX7_spelledIn_11 : decode cX7_spelledIn 11 = .ok (.aload_n 0, 1) := by decide +kernel
theorem dX7_spelledIn_12 : decode cX7_spelledIn 12 = .ok (.getfield 40, 3) := by decide +kernel
theorem dX7_spelledIn_15 : decode cX7_spelledIn 15 = .ok (.getfield 224, 3) := by decide +kernel
theorem dX7_spelledIn_18 : decode cX7_spelledIn 18 = .ok (.ifCond .ne 6, 3) := by decide +kernel
theorem dX7_spelledIn_21 : decode cX7_spelledIn 21 = .ok (.ldc 106, 2) := by decide +kernel
theorem dX7_spelledIn_23 : decode cX7_spelledIn 23 = .ok (.ireturn, 1) := by decide +kernel
theorem dX7_spelledIn_24 : decode cX7_spelledIn 24 = .ok (.aload_n 0, 1) := by decide +kernel
theorem dX7_spelledIn_25 : decode cX7_spelledIn 25 = .ok (.getfield 16, 3) := by decide +kernel
theorem dX7_spelledIn_28 : decode cX7_spelledIn 28 = .ok (.aload_n 0, 1) := by decide +kernel
theorem dX7_spelledIn_29 : decode cX7_spelledIn 29 = .ok (.getfield 10, 3) := by decide +kernel
theorem dX7_spelledIn_32 : decode cX7_spelledIn 32 = .ok (.invokevirtual 183, 3) := by decide +kernel
theorem dX7_spelledIn_35 : decode cX7_spelledIn 35 = .ok (.iconst 0, 1) := by decide +kernel
theorem dX7_spelledIn_36 : decode cX7_spelledIn 36 = .ok (.istore_n 1, 1) := by decide +kernel
theorem dX7_spelledIn_37 : decode cX7_spelledIn 37 = .ok (.iload_n 1, 1) := by decide +kernel
theorem dX7_spelledIn_38 : decode cX7_spelledIn 38 = .ok (.sipush 200, 3) := by decide +kernel
theorem dX7_spelledIn_41 : decode cX7_spelledIn 41 = .ok (.if_icmp .gt 69, 3) := by decide +kernel
theorem dX7_spelledIn_44 : decode cX7_spelledIn 44 = .ok (.aload_n 0, 1) := by decide +kernel
theorem dX7_spelledIn_45 : decode cX7_spelledIn 45 = .ok (.aload_n 0, 1) := by decide +kernel
theorem dX7_spelledIn_46 : decode cX7_spelledIn 46 = .ok (.getfield 16, 3) := by decide +kernel
theorem dX7_spelledIn_49 : decode cX7_spelledIn 49 = .ok (.invokevirtual 238, 3) := by decide +kernel
theorem dX7_spelledIn_52 : decode cX7_spelledIn 52 = .ok (.ifCond .eq 5, 3) := by decide +kernel
theorem dX7_spelledIn_55 : decode cX7_spelledIn 55 = .ok (.iload_n 1, 1) := by decide +kernel
theorem dX7_spelledIn_56 : decode cX7_spelledIn 56 = .ok (.ireturn, 1) := by decide +kernel
theorem dX7_spelledIn_57 : decode cX7_spelledIn 57 = .ok (.aload_n 0, 1) := by decide +kernel
theorem dX7_spelledIn_58 : decode cX7_spelledIn 58 = .ok (.aload_n 0, 1) := by decide +kernel
theorem dX7_spelledIn_59 : decode cX7_spelledIn 59 = .ok (.getfield 16, 3) := by decide +kernel
theorem dX7_spelledIn_62 : decode cX7_spelledIn 62 = .ok (.invokevirtual 234, 3) := by decide +kernel
theorem dX7_spelledIn_65 : decode cX7_spelledIn 65 = .ok (.istore_n 2, 1) := by decide +kernel
theorem dX7_spelledIn_66 : decode cX7_spelledIn 66 = .ok (.iload_n 2, 1) := by decide +kernel
theorem dX7_spelledIn_67 : decode cX7_spelledIn 67 = .ok (.iconst (-1), 1) := by decide +kernel
theorem dX7_spelledIn_68 : decode cX7_spelledIn 68 = .ok (.if_icmp .eq 15, 3) := by decide +kernel
theorem dX7_spelledIn_71 : decode cX7_spelledIn 71 = .ok (.aload_n 0, 1) := by decide +kernel
theorem dX7_spelledIn_72 : decode cX7_spelledIn 72 = .ok (.getfield 16, 3) := by decide +kernel
theorem dX7_spelledIn_75 : decode cX7_spelledIn 75 = .ok (.iload_n 2, 1) := by decide +kernel
theorem dX7_spelledIn_76 : decode cX7_spelledIn 76 = .ok (.invokevirtual 116, 3) := by decide +kernel
theorem dX7_spelledIn_79 : decode cX7_spelledIn 79 = .ok (.pop, 1) := by decide +kernel
theorem dX7_spelledIn_80 : decode cX7_spelledIn 80 = .ok (.goto 24, 3) := by decide +kernel
theorem dX7_spelledIn_83 : decode cX7_spelledIn 83 = .ok (.aload_n 0, 1) := by decide +kernel
theorem dX7_spelledIn_84 : decode cX7_spelledIn 84 = .ok (.getfield 16, 3) := by decide +kernel
theorem dX7_spelledIn_87 : decode cX7_spelledIn 87 = .ok (.invokevirtual 242, 3) := by decide +kernel
theorem dX7_spelledIn_90 : decode cX7_spelledIn 90 = .ok (.ifCond .eq 6, 3) := by decide +kernel
theorem dX7_spelledIn_93 : decode cX7_spelledIn 93 = .ok (.ldc 106, 2) := by decide +kernel
theorem dX7_spelledIn_95 : decode cX7_spelledIn 95 = .ok (.ireturn, 1) := by decide +kernel
theorem dX7_spelledIn_96 : decode cX7_spelledIn 96 = .ok (.aload_n 0, 1) := by decide +kernel
theorem dX7_spelledIn_97 : decode cX7_spelledIn 97 = .ok (.getfield 16, 3) := by decide +kernel
theorem dX7_spelledIn_100 : decode cX7_spelledIn 100 = .ok (.invokevirtual 123, 3) := by decide +kernel
theorem dX7_spelledIn_103 : decode cX7_spelledIn 103 = .ok (.pop, 1) := by decide +kernel
theorem dX7_spelledIn_104 : decode cX7_spelledIn 104 = .ok (.iinc 1 1, 3) := by decide +kernel
theorem dX7_spelledIn_107 : decode cX7_spelledIn 107 = .ok (.goto (-70), 3) := by decide +kernel
theorem dX7_spelledIn_110 : decode cX7_spelledIn 110 = .ok (.ldc 106, 2) := by decide +kernel
theorem dX7_spelledIn_112 : decode cX7_spelledIn 112 = .ok (.ireturn, 1) := by decide +kernel
theorem dX7_turnOf_0 : decode cX7_turnOf 0 = .ok (.iload_n 1, 1) := by decide +kernel
theorem dX7_turnOf_1 : decode cX7_turnOf 1 = .ok (.ifCond .lt 12, 3) := by decide +kernel
theorem dX7_turnOf_4 : decode cX7_turnOf 4 = .ok (.iload_n 2, 1) := by decide +kernel
theorem dX7_turnOf_5 : decode cX7_turnOf 5 = .ok (.iconst 0, 1) := by decide +kernel
theorem dX7_turnOf_6 : decode cX7_turnOf 6 = .ok (.iconst 2, 1) := by decide +kernel
theorem dX7_turnOf_7 : decode cX7_turnOf 7 = .ok (.invokestatic 59, 3) := by decide +kernel
theorem dX7_turnOf_10 : decode cX7_turnOf 10 = .ok (.ifCond .ne 6, 3) := by decide +kernel
theorem dX7_turnOf_13 : decode cX7_turnOf 13 = .ok (.ldc 63, 2) := by decide +kernel
theorem dX7_turnOf_15 : decode cX7_turnOf 15 = .ok (.ireturn, 1) := by decide +kernel
theorem dX7_turnOf_16 : decode cX7_turnOf 16 = .ok (.iload_n 1, 1) := by decide +kernel
theorem dX7_turnOf_17 : decode cX7_turnOf 17 = .ok (.aload_n 0, 1) := by decide +kernel
theorem dX7_turnOf_18 : decode cX7_turnOf 18 = .ok (.getfield 10, 3) := by decide +kernel
theorem dX7_turnOf_21 : decode cX7_turnOf 21 = .ok (.getfield 140, 3) := by decide +kernel
theorem dX7_turnOf_24 : decode cX7_turnOf 24 = .ok (.getfield 150, 3) := by decide +kernel
theorem dX7_turnOf_27 : decode cX7_turnOf 27 = .ok (.if_icmp .lt 6, 3) := by decide +kernel
theorem dX7_turnOf_30 : decode cX7_turnOf 30 = .ok (.ldc 106, 2) := by decide +kernel
theorem dX7_turnOf_32 : decode cX7_turnOf 32 = .ok (.ireturn, 1) := by decide +kernel
theorem dX7_turnOf_33 : decode cX7_turnOf 33 = .ok (.iload_n 2, 1) := by decide +kernel
theorem dX7_turnOf_34 : decode cX7_turnOf 34 = .ok (.lookupswitch 52 #[(0, 26), (1, 39)], 26) := by decide +kernel
theorem dX7_turnOf_60 : decode cX7_turnOf 60 = .ok (.aload_n 0, 1) := by decide +kernel
theorem dX7_turnOf_61 : decode cX7_turnOf 61 = .ok (.getfield 10, 3) := by decide +kernel
theorem dX7_turnOf_64 : decode cX7_turnOf 64 = .ok (.getfield 140, 3) := by decide +kernel
theorem dX7_turnOf_67 : decode cX7_turnOf 67 = .ok (.getfield 246, 3) := by decide +kernel
theorem dX7_turnOf_70 : decode cX7_turnOf 70 = .ok (.iload_n 1, 1) := by decide +kernel
theorem dX7_turnOf_71 : decode cX7_turnOf 71 = .ok (.iaload, 1) := by decide +kernel
theorem dX7_turnOf_72 : decode cX7_turnOf 72 = .ok (.ireturn, 1) := by decide +kernel
theorem dX7_turnOf_73 : decode cX7_turnOf 73 = .ok (.aload_n 0, 1) := by decide +kernel
theorem dX7_turnOf_74 : decode cX7_turnOf 74 = .ok (.getfield 10, 3) := by decide +kernel
theorem dX7_turnOf_77 : decode cX7_turnOf 77 = .ok (.getfield 140, 3) := by decide +kernel
theorem dX7_turnOf_80 : decode cX7_turnOf 80 = .ok (.getfield 249, 3) := by decide +kernel
theorem dX7_turnOf_83 : decode cX7_turnOf 83 = .ok (.iload_n 1, 1) := by decide +kernel
theorem dX7_turnOf_84 : decode cX7_turnOf 84 = .ok (.iaload, 1) := by decide +kernel
theorem dX7_turnOf_85 : decode cX7_turnOf 85 = .ok (.ireturn, 1) := by decide +kernel
theorem dX7_turnOf_86 : decode cX7_turnOf 86 = .ok (.aload_n 0, 1) := by decide +kernel
theorem dX7_turnOf_87 : decode cX7_turnOf 87 = .ok (.getfield 10, 3) := by decide +kernel
theorem dX7_turnOf_90 : decode cX7_turnOf 90 = .ok (.getfield 140, 3) := by decide +kernel
theorem dX7_turnOf_93 : decode cX7_turnOf 93 = .ok (.getfield 251, 3) := by decide +kernel
theorem dX7_turnOf_96 : decode cX7_turnOf 96 = .ok (.iload_n 1, 1) := by decide +kernel
theorem dX7_turnOf_97 : decode cX7_turnOf 97 = .ok (.iaload, 1) := by decide +kernel
theorem dX7_turnOf_98 : decode cX7_turnOf 98 = .ok (.ireturn, 1) := by decide +kernel
theorem dX7_tangle_0 : decode cX7_tangle 0 = .ok (.iload_n 1, 1) := by decide +kernel
theorem dX7_tangle_1 : decode cX7_tangle 1 = .ok (.ifCond .lt 12, 3) := by decide +kernel
theorem dX7_tangle_4 : decode cX7_tangle 4 = .ok (.iload_n 2, 1) := by decide +kernel
theorem dX7_tangle_5 : decode cX7_tangle 5 = .ok (.iconst 0, 1) := by decide +kernel
theorem dX7_tangle_6 : decode cX7_tangle 6 = .ok (.iconst 3, 1) := by decide +kernel
theorem dX7_tangle_7 : decode cX7_tangle 7 = .ok (.invokestatic 59, 3) := by decide +kernel
theorem dX7_tangle_10 : decode cX7_tangle 10 = .ok (.ifCond .ne 6, 3) := by decide +kernel
theorem dX7_tangle_13 : decode cX7_tangle 13 = .ok (.ldc 63, 2) := by decide +kernel
theorem dX7_tangle_15 : decode cX7_tangle 15 = .ok (.ireturn, 1) := by decide +kernel
theorem dX7_tangle_16 : decode cX7_tangle 16 = .ok (.iload_n 1, 1) := by decide +kernel
theorem dX7_tangle_17 : decode cX7_tangle 17 = .ok (.aload_n 0, 1) := by decide +kernel
theorem dX7_tangle_18 : decode cX7_tangle 18 = .ok (.getfield 10, 3) := by decide +kernel
theorem dX7_tangle_21 : decode cX7_tangle 21 = .ok (.getfield 253, 3) := by decide +kernel
theorem dX7_tangle_24 : decode cX7_tangle 24 = .ok (.getfield 257, 3) := by decide +kernel
theorem dX7_tangle_27 : decode cX7_tangle 27 = .ok (.if_icmp .lt 6, 3) := by decide +kernel
theorem dX7_tangle_30 : decode cX7_tangle 30 = .ok (.ldc 106, 2) := by decide +kernel
theorem dX7_tangle_32 : decode cX7_tangle 32 = .ok (.ireturn, 1) := by decide +kernel
theorem dX7_tangle_33 : decode cX7_tangle 33 = .ok (.iload_n 2, 1) := by decide +kernel
theorem dX7_tangle_34 : decode cX7_tangle 34 = .ok (.tableswitch 65 0 2 #[26, 39, 52], 26) := by decide +kernel
theorem dX7_tangle_60 : decode cX7_tangle 60 = .ok (.aload_n 0, 1) := by decide +kernel
theorem dX7_tangle_61 : decode cX7_tangle 61 = .ok (.getfield 10, 3) := by decide +kernel
theorem dX7_tangle_64 : decode cX7_tangle 64 = .ok (.getfield 253, 3) := by decide +kernel
theorem dX7_tangle_67 : decode cX7_tangle 67 = .ok (.getfield 260, 3) := by decide +kernel
theorem dX7_tangle_70 : decode cX7_tangle 70 = .ok (.iload_n 1, 1) := by decide +kernel
theorem dX7_tangle_71 : decode cX7_tangle 71 = .ok (.iaload, 1) := by decide +kernel
theorem dX7_tangle_72 : decode cX7_tangle 72 = .ok (.ireturn, 1) := by decide +kernel
theorem dX7_tangle_73 : decode cX7_tangle 73 = .ok (.aload_n 0, 1) := by decide +kernel
theorem dX7_tangle_74 : decode cX7_tangle 74 = .ok (.getfield 10, 3) := by decide +kernel
theorem dX7_tangle_77 : decode cX7_tangle 77 = .ok (.getfield 253, 3) := by decide +kernel
theorem dX7_tangle_80 : decode cX7_tangle 80 = .ok (.getfield 261, 3) := by decide +kernel
theorem dX7_tangle_83 : decode cX7_tangle 83 = .ok (.iload_n 1, 1) := by decide +kernel
theorem dX7_tangle_84 : decode cX7_tangle 84 = .ok (.iaload, 1) := by decide +kernel
theorem dX7_tangle_85 : decode cX7_tangle 85 = .ok (.ireturn, 1) := by decide +kernel
theorem dX7_tangle_86 : decode cX7_tangle 86 = .ok (.aload_n 0, 1) := by decide +kernel
theorem dX7_tangle_87 : decode cX7_tangle 87 = .ok (.getfield 10, 3) := by decide +kernel
theorem dX7_tangle_90 : decode cX7_tangle 90 = .ok (.getfield 253, 3) := by decide +kernel
theorem dX7_tangle_93 : decode cX7_tangle 93 = .ok (.getfield 264, 3) := by decide +kernel
theorem dX7_tangle_96 : decode cX7_tangle 96 = .ok (.iload_n 1, 1) := by decide +kernel
theorem dX7_tangle_97 : decode cX7_tangle 97 = .ok (.iaload, 1) := by decide +kernel
theorem dX7_tangle_98 : decode cX7_tangle 98 = .ok (.ireturn, 1) := by decide +kernel
theorem dX7_tangle_99 : decode cX7_tangle 99 = .ok (.aload_n 0, 1) := by decide +kernel
theorem dX7_tangle_100 : decode cX7_tangle 100 = .ok (.getfield 10, 3) := by decide +kernel
theorem dX7_tangle_103 : decode cX7_tangle 103 = .ok (.getfield 253, 3) := by decide +kernel
theorem dX7_tangle_106 : decode cX7_tangle 106 = .ok (.getfield 267, 3) := by decide +kernel
theorem dX7_tangle_109 : decode cX7_tangle 109 = .ok (.iload_n 1, 1) := by decide +kernel
theorem dX7_tangle_110 : decode cX7_tangle 110 = .ok (.iaload, 1) := by decide +kernel
theorem dX7_tangle_111 : decode cX7_tangle 111 = .ok (.ireturn, 1) := by decide +kernel
theorem dX7_count_0 : decode cX7_count 0 = .ok (.iload_n 1, 1) := by decide +kernel
theorem dX7_count_1 : decode cX7_count 1 = .ok (.tableswitch 190 0 13 #[71, 82, 90, 98, 106, 117, 122, 133, 138, 150, 158, 169, 180, 185], 71) := by decide +kernel
theorem dX7_count_72 : decode cX7_count 72 = .ok (.aload_n 0, 1) := by decide +kernel
theorem dX7_count_73 : decode cX7_count 73 = .ok (.getfield 10, 3) := by decide +kernel
theorem dX7_count_76 : decode cX7_count 76 = .ok (.getfield 64, 3) := by decide +kernel
theorem dX7_count_79 : decode cX7_count 79 = .ok (.getfield 82, 3) := by decide +kernel
theorem dX7_count_82 : decode cX7_count 82 = .ok (.ireturn, 1) := by decide +kernel
theorem dX7_count_83 : decode cX7_count 83 = .ok (.aload_n 0, 1) := by decide +kernel
theorem dX7_count_84 : decode cX7_count 84 = .ok (.getfield 10, 3) := by decide +kernel
theorem dX7_count_87 : decode cX7_count 87 = .ok (.getfield 113, 3) := by decide +kernel
theorem dX7_count_90 : decode cX7_count 90 = .ok (.ireturn, 1) := by decide +kernel
theorem dX7_count_91 : decode cX7_count 91 = .ok (.aload_n 0, 1) := by decide +kernel
theorem dX7_count_92 : decode cX7_count 92 = .ok (.getfield 10, 3) := by decide +kernel
theorem dX7_count_95 : decode cX7_count 95 = .ok (.getfield 130, 3) := by decide +kernel
theorem dX7_count_98 : decode cX7_count 98 = .ok (.ireturn, 1) := by decide +kernel
theorem dX7_count_99 : decode cX7_count 99 = .ok (.aload_n 0, 1) := by decide +kernel
theorem dX7_count_100 : decode cX7_count 100 = .ok (.getfield 10, 3) := by decide +kernel
theorem dX7_count_103 : decode cX7_count 103 = .ok (.getfield 133, 3) := by decide +kernel
theorem dX7_count_106 : decode cX7_count 106 = .ok (.ireturn, 1) := by decide +kernel
theorem dX7_count_107 : decode cX7_count 107 = .ok (.aload_n 0, 1) := by decide +kernel
theorem dX7_count_108 : decode cX7_count 108 = .ok (.getfield 10, 3) := by decide +kernel
theorem dX7_count_111 : decode cX7_count 111 = .ok (.getfield 156, 3) := by decide +kernel
theorem dX7_count_114 : decode cX7_count 114 = .ok (.invokestatic 119, 3) := by decide +kernel
theorem dX7_count_117 : decode cX7_count 117 = .ok (.ireturn, 1) := by decide +kernel
theorem dX7_count_118 : decode cX7_count 118 = .ok (.aload_n 0, 1) := by decide +kernel
theorem dX7_count_119 : decode cX7_count 119 = .ok (.invokevirtual 159, 3) := by decide +kernel
theorem dX7_count_122 : decode cX7_count 122 = .ok (.ireturn, 1) := by decide +kernel
theorem dX7_count_123 : decode cX7_count 123 = .ok (.aload_n 0, 1) := by decide +kernel
theorem dX7_count_124 : decode cX7_count 124 = .ok (.getfield 10, 3) := by decide +kernel
theorem dX7_count_127 : decode cX7_count 127 = .ok (.getfield 168, 3) := by decide +kernel
theorem dX7_count_130 : decode cX7_count 130 = .ok (.getfield 182, 3) := by decide +kernel
theorem dX7_count_133 : decode cX7_count 133 = .ok (.ireturn, 1) := by decide +kernel
theorem dX7_count_134 : decode cX7_count 134 = .ok (.aload_n 0, 1) := by decide +kernel
theorem dX7_count_135 : decode cX7_count 135 = .ok (.invokevirtual 270, 3) := by decide +kernel
theorem dX7_count_138 : decode cX7_count 138 = .ok (.ireturn, 1) := by decide +kernel
theorem dX7_count_139 : decode cX7_count 139 = .ok (.aload_n 0, 1) := by decide +kernel
theorem dX7_count_140 : decode cX7_count 140 = .ok (.aload_n 0, 1) := by decide +kernel
theorem dX7_count_141 : decode cX7_count 141 = .ok (.getfield 10, 3) := by decide +kernel
theorem dX7_count_144 : decode cX7_count 144 = .ok (.invokevirtual 238, 3) := by decide +kernel
theorem dX7_count_147 : decode cX7_count 147 = .ok (.invokestatic 119, 3) := by decide +kernel
theorem dX7_count_150 : decode cX7_count 150 = .ok (.ireturn, 1) := by decide +kernel
theorem dX7_count_151 : decode cX7_count 151 = .ok (.aload_n 0, 1) := by decide +kernel
theorem dX7_count_152 : decode cX7_count 152 = .ok (.getfield 10, 3) := by decide +kernel
theorem dX7_count_155 : decode cX7_count 155 = .ok (.getfield 273, 3) := by decide +kernel
theorem dX7_count_158 : decode cX7_count 158 = .ok (.ireturn, 1) := by decide +kernel
theorem dX7_count_159 : decode cX7_count 159 = .ok (.aload_n 0, 1) := by decide +kernel
theorem dX7_count_160 : decode cX7_count 160 = .ok (.getfield 10, 3) := by decide +kernel
theorem dX7_count_163 : decode cX7_count 163 = .ok (.getfield 253, 3) := by decide +kernel
theorem dX7_count_166 : decode cX7_count 166 = .ok (.getfield 276, 3) := by decide +kernel
theorem dX7_count_169 : decode cX7_count 169 = .ok (.ireturn, 1) := by decide +kernel
theorem dX7_count_170 : decode cX7_count 170 = .ok (.aload_n 0, 1) := by decide +kernel
theorem dX7_count_171 : decode cX7_count 171 = .ok (.getfield 10, 3) := by decide +kernel
theorem dX7_count_174 : decode cX7_count 174 = .ok (.getfield 140, 3) := by decide +kernel
theorem dX7_count_177 : decode cX7_count 177 = .ok (.getfield 150, 3) := by decide +kernel
theorem dX7_count_180 : decode cX7_count 180 = .ok (.ireturn, 1) := by decide +kernel
theorem dX7_count_181 : decode cX7_count 181 = .ok (.aload_n 0, 1) := by decide +kernel
theorem dX7_count_182 : decode cX7_count 182 = .ok (.getfield 48, 3) := by decide +kernel
theorem dX7_count_185 : decode cX7_count 185 = .ok (.ireturn, 1) := by decide +kernel
theorem dX7_count_186 : decode cX7_count 186 = .ok (.aload_n 0, 1) := by decide +kernel
theorem dX7_count_187 : decode cX7_count 187 = .ok (.getfield 52, 3) := by decide +kernel
theorem dX7_count_190 : decode cX7_count 190 = .ok (.ireturn, 1) := by decide +kernel
theorem dX7_count_191 : decode cX7_count 191 = .ok (.ldc 63, 2) := by decide +kernel
theorem dX7_count_193 : decode cX7_count 193 = .ok (.ireturn, 1) := by decide +kernel
theorem dX7_readableKites_0 : decode cX7_readableKites 0 = .ok (.aload_n 0, 1) := by decide +kernel
theorem dX7_readableKites_1 : decode cX7_readableKites 1 = .ok (.getfield 33, 3) := by decide +kernel
theorem dX7_readableKites_4 : decode cX7_readableKites 4 = .ok (.aload_n 0, 1) := by decide +kernel
theorem dX7_readableKites_5 : decode cX7_readableKites 5 = .ok (.getfield 10, 3) := by decide +kernel
theorem dX7_readableKites_8 : decode cX7_readableKites 8 = .ok (.invokevirtual 211, 3) := by decide +kernel
theorem dX7_readableKites_11 : decode cX7_readableKites 11 = .ok (.aload_n 0, 1) := by decide +kernel
theorem dX7_readableKites_12 : decode cX7_readableKites 12 = .ok (.getfield 33, 3) := by decide +kernel
theorem dX7_readableKites_15 : decode cX7_readableKites 15 = .ok (.getfield 214, 3) := by decide +kernel
theorem dX7_readableKites_18 : decode cX7_readableKites 18 = .ok (.ireturn, 1) := by decide +kernel
theorem dX7_fewestTrades_0 : decode cX7_fewestTrades 0 = .ok (.aload_n 0, 1) := by decide +kernel
theorem dX7_fewestTrades_1 : decode cX7_fewestTrades 1 = .ok (.getfield 40, 3) := by decide +kernel
theorem dX7_fewestTrades_4 : decode cX7_fewestTrades 4 = .ok (.aload_n 0, 1) := by decide +kernel
theorem dX7_fewestTrades_5 : decode cX7_fewestTrades 5 = .ok (.getfield 10, 3) := by decide +kernel
theorem dX7_fewestTrades_8 : decode cX7_fewestTrades 8 = .ok (.invokevirtual 221, 3) := by decide +kernel
theorem dX7_fewestTrades_11 : decode cX7_fewestTrades 11 = .ok (.aload_n 0, 1) := by decide +kernel
theorem dX7_fewestTrades_12 : decode cX7_fewestTrades 12 = .ok (.getfield 40, 3) := by decide +kernel
theorem dX7_fewestTrades_15 : decode cX7_fewestTrades 15 = .ok (.getfield 224, 3) := by decide +kernel
theorem dX7_fewestTrades_18 : decode cX7_fewestTrades 18 = .ok (.ifCond .eq 13, 3) := by decide +kernel
theorem dX7_fewestTrades_21 : decode cX7_fewestTrades 21 = .ok (.aload_n 0, 1) := by decide +kernel
theorem dX7_fewestTrades_22 : decode cX7_fewestTrades 22 = .ok (.getfield 40, 3) := by decide +kernel
theorem dX7_fewestTrades_25 : decode cX7_fewestTrades 25 = .ok (.getfield 279, 3) := by decide +kernel
theorem dX7_fewestTrades_28 : decode cX7_fewestTrades 28 = .ok (.goto 5, 3) := by decide +kernel
theorem dX7_fewestTrades_31 : decode cX7_fewestTrades 31 = .ok (.ldc 106, 2) := by decide +kernel
theorem dX7_fewestTrades_33 : decode cX7_fewestTrades 33 = .ok (.ireturn, 1) := by decide +kernel
theorem dX7_isSpelled_0 : decode cX7_isSpelled 0 = .ok (.aload_n 0, 1) := by decide +kernel
theorem dX7_isSpelled_1 : decode cX7_isSpelled 1 = .ok (.getfield 33, 3) := by decide +kernel
theorem dX7_isSpelled_4 : decode cX7_isSpelled 4 = .ok (.aload_n 1, 1) := by decide +kernel
theorem dX7_isSpelled_5 : decode cX7_isSpelled 5 = .ok (.invokevirtual 211, 3) := by decide +kernel
theorem dX7_isSpelled_8 : decode cX7_isSpelled 8 = .ok (.aload_n 0, 1) := by decide +kernel
theorem dX7_isSpelled_9 : decode cX7_isSpelled 9 = .ok (.getfield 33, 3) := by decide +kernel
theorem dX7_isSpelled_12 : decode cX7_isSpelled 12 = .ok (.getfield 214, 3) := by decide +kernel
theorem dX7_isSpelled_15 : decode cX7_isSpelled 15 = .ok (.aload_n 1, 1) := by decide +kernel
theorem dX7_isSpelled_16 : decode cX7_isSpelled 16 = .ok (.getfield 64, 3) := by decide +kernel
theorem dX7_isSpelled_19 : decode cX7_isSpelled 19 = .ok (.getfield 82, 3) := by decide +kernel
theorem dX7_isSpelled_22 : decode cX7_isSpelled 22 = .ok (.if_icmp .ne 30, 3) := by decide +kernel
theorem dX7_isSpelled_25 : decode cX7_isSpelled 25 = .ok (.aload_n 0, 1) := by decide +kernel
theorem dX7_isSpelled_26 : decode cX7_isSpelled 26 = .ok (.getfield 33, 3) := by decide +kernel
theorem dX7_isSpelled_29 : decode cX7_isSpelled 29 = .ok (.getfield 214, 3) := by decide +kernel
theorem dX7_isSpelled_32 : decode cX7_isSpelled 32 = .ok (.aload_n 1, 1) := by decide +kernel
theorem dX7_isSpelled_33 : decode cX7_isSpelled 33 = .ok (.getfield 168, 3) := by decide +kernel
theorem dX7_isSpelled_36 : decode cX7_isSpelled 36 = .ok (.getfield 182, 3) := by decide +kernel
theorem dX7_isSpelled_39 : decode cX7_isSpelled 39 = .ok (.if_icmp .ne 13, 3) := by decide +kernel
theorem dX7_isSpelled_42 : decode cX7_isSpelled 42 = .ok (.aload_n 1, 1) := by decide +kernel
theorem dX7_isSpelled_43 : decode cX7_isSpelled 43 = .ok (.getfield 168, 3) := by decide +kernel
theorem dX7_isSpelled_46 : decode cX7_isSpelled 46 = .ok (.getfield 182, 3) := by decide +kernel
theorem dX7_isSpelled_49 : decode cX7_isSpelled 49 = .ok (.ifCond .ne 5, 3) := by decide +kernel
theorem dX7_isSpelled_52 : decode cX7_isSpelled 52 = .ok (.iconst 0, 1) := by decide +kernel
theorem dX7_isSpelled_53 : decode cX7_isSpelled 53 = .ok (.ireturn, 1) := by decide +kernel
theorem dX7_isSpelled_54 : decode cX7_isSpelled 54 = .ok (.iconst 0, 1) := by decide +kernel
theorem dX7_isSpelled_55 : decode cX7_isSpelled 55 = .ok (.istore_n 2, 1) := by decide +kernel
theorem dX7_isSpelled_56 : decode cX7_isSpelled 56 = .ok (.iload_n 2, 1) := by decide +kernel
theorem dX7_isSpelled_57 : decode cX7_isSpelled 57 = .ok (.aload_n 0, 1) := by decide +kernel
theorem dX7_isSpelled_58 : decode cX7_isSpelled 58 = .ok (.getfield 33, 3) := by decide +kernel
theorem dX7_isSpelled_61 : decode cX7_isSpelled 61 = .ok (.getfield 214, 3) := by decide +kernel
theorem dX7_isSpelled_64 : decode cX7_isSpelled 64 = .ok (.if_icmp .ge 40, 3) := by decide +kernel
theorem dX7_isSpelled_67 : decode cX7_isSpelled 67 = .ok (.aload_n 1, 1) := by decide +kernel
theorem dX7_isSpelled_68 : decode cX7_isSpelled 68 = .ok (.getfield 64, 3) := by decide +kernel
theorem dX7_isSpelled_71 : decode cX7_isSpelled 71 = .ok (.getfield 190, 3) := by decide +kernel
theorem dX7_isSpelled_74 : decode cX7_isSpelled 74 = .ok (.aload_n 0, 1) := by decide +kernel
theorem dX7_isSpelled_75 : decode cX7_isSpelled 75 = .ok (.getfield 33, 3) := by decide +kernel
theorem dX7_isSpelled_78 : decode cX7_isSpelled 78 = .ok (.getfield 215, 3) := by decide +kernel
theorem dX7_isSpelled_81 : decode cX7_isSpelled 81 = .ok (.iload_n 2, 1) := by decide +kernel
theorem dX7_isSpelled_82 : decode cX7_isSpelled 82 = .ok (.iaload, 1) := by decide +kernel
theorem dX7_isSpelled_83 : decode cX7_isSpelled 83 = .ok (.iaload, 1) := by decide +kernel
theorem dX7_isSpelled_84 : decode cX7_isSpelled 84 = .ok (.aload_n 1, 1) := by decide +kernel
theorem dX7_isSpelled_85 : decode cX7_isSpelled 85 = .ok (.getfield 168, 3) := by decide +kernel
theorem dX7_isSpelled_88 : decode cX7_isSpelled 88 = .ok (.getfield 282, 3) := by decide +kernel
theorem dX7_isSpelled_91 : decode cX7_isSpelled 91 = .ok (.iload_n 2, 1) := by decide +kernel
theorem dX7_isSpelled_92 : decode cX7_isSpelled 92 = .ok (.caload, 1) := by decide +kernel
theorem dX7_isSpelled_93 : decode cX7_isSpelled 93 = .ok (.if_icmp .eq 5, 3) := by decide +kernel
theorem dX7_isSpelled_96 : decode cX7_isSpelled 96 = .ok (.iconst 0, 1) := by decide +kernel
theorem dX7_isSpelled_97 : decode cX7_isSpelled 97 = .ok (.ireturn, 1) := by decide +kernel
theorem dX7_isSpelled_98 : decode cX7_isSpelled 98 = .ok (.iinc 2 1, 3) := by decide +kernel
theorem dX7_isSpelled_101 : decode cX7_isSpelled 101 = .ok (.goto (-45), 3) := by decide +kernel
theorem dX7_isSpelled_104 : decode cX7_isSpelled 104 = .ok (.iconst 1, 1) := by decide +kernel
theorem dX7_isSpelled_105 : decode cX7_isSpelled 105 = .ok (.ireturn, 1) := by decide +kernel
theorem dX7_nextPlace_0 : decode cX7_nextPlace 0 = .ok (.aload_n 0, 1) := by decide +kernel
theorem dX7_nextPlace_1 : decode cX7_nextPlace 1 = .ok (.getfield 40, 3) := by decide +kernel
theorem dX7_nextPlace_4 : decode cX7_nextPlace 4 = .ok (.aload_n 1, 1) := by decide +kernel
theorem dX7_nextPlace_5 : decode cX7_nextPlace 5 = .ok (.invokevirtual 221, 3) := by decide +kernel
theorem dX7_nextPlace_8 : decode cX7_nextPlace 8 = .ok (.aload_n 0, 1) := by decide +kernel
theorem dX7_nextPlace_9 : decode cX7_nextPlace 9 = .ok (.getfield 40, 3) := by decide +kernel
theorem dX7_nextPlace_12 : decode cX7_nextPlace 12 = .ok (.getfield 224, 3) := by decide +kernel
theorem dX7_nextPlace_15 : decode cX7_nextPlace 15 = .ok (.ifCond .ne 5, 3) := by decide +kernel
theorem dX7_nextPlace_18 : decode cX7_nextPlace 18 = .ok (.iconst (-1), 1) := by decide +kernel
theorem dX7_nextPlace_19 : decode cX7_nextPlace 19 = .ok (.ireturn, 1) := by decide +kernel
theorem dX7_nextPlace_20 : decode cX7_nextPlace 20 = .ok (.iconst 0, 1) := by decide +kernel
theorem dX7_nextPlace_21 : decode cX7_nextPlace 21 = .ok (.istore_n 2, 1) := by decide +kernel
theorem dX7_nextPlace_22 : decode cX7_nextPlace 22 = .ok (.iload_n 2, 1) := by decide +kernel
theorem dX7_nextPlace_23 : decode cX7_nextPlace 23 = .ok (.aload_n 1, 1) := by decide +kernel
theorem dX7_nextPlace_24 : decode cX7_nextPlace 24 = .ok (.getfield 64, 3) := by decide +kernel
theorem dX7_nextPlace_27 : decode cX7_nextPlace 27 = .ok (.getfield 82, 3) := by decide +kernel
theorem dX7_nextPlace_30 : decode cX7_nextPlace 30 = .ok (.iconst 1, 1) := by decide +kernel
theorem dX7_nextPlace_31 : decode cX7_nextPlace 31 = .ok (.isub, 1) := by decide +kernel
theorem dX7_nextPlace_32 : decode cX7_nextPlace 32 = .ok (.if_icmp .ge 30, 3) := by decide +kernel
theorem dX7_nextPlace_35 : decode cX7_nextPlace 35 = .ok (.aload_n 0, 1) := by decide +kernel
theorem dX7_nextPlace_36 : decode cX7_nextPlace 36 = .ok (.getfield 40, 3) := by decide +kernel
theorem dX7_nextPlace_39 : decode cX7_nextPlace 39 = .ok (.iload_n 2, 1) := by decide +kernel
theorem dX7_nextPlace_40 : decode cX7_nextPlace 40 = .ok (.invokevirtual 227, 3) := by decide +kernel
theorem dX7_nextPlace_43 : decode cX7_nextPlace 43 = .ok (.ifCond .eq 13, 3) := by decide +kernel
theorem dX7_nextPlace_46 : decode cX7_nextPlace 46 = .ok (.aload_n 1, 1) := by decide +kernel
theorem dX7_nextPlace_47 : decode cX7_nextPlace 47 = .ok (.iload_n 2, 1) := by decide +kernel
theorem dX7_nextPlace_48 : decode cX7_nextPlace 48 = .ok (.invokevirtual 218, 3) := by decide +kernel
theorem dX7_nextPlace_51 : decode cX7_nextPlace 51 = .ok (.ifCond .eq 5, 3) := by decide +kernel
theorem dX7_nextPlace_54 : decode cX7_nextPlace 54 = .ok (.iload_n 2, 1) := by decide +kernel
theorem dX7_nextPlace_55 : decode cX7_nextPlace 55 = .ok (.ireturn, 1) := by decide +kernel
theorem dX7_nextPlace_56 : decode cX7_nextPlace 56 = .ok (.iinc 2 1, 3) := by decide +kernel
theorem dX7_nextPlace_59 : decode cX7_nextPlace 59 = .ok (.goto (-37), 3) := by decide +kernel
theorem dX7_nextPlace_62 : decode cX7_nextPlace 62 = .ok (.iconst (-1), 1) := by decide +kernel
theorem dX7_nextPlace_63 : decode cX7_nextPlace 63 = .ok (.ireturn, 1) := by decide +kernel
theorem dX7_record_0 : decode cX7_record 0 = .ok (.aload_n 0, 1) := by decide +kernel
theorem dX7_record_1 : decode cX7_record 1 = .ok (.getfield 48, 3) := by decide +kernel
theorem dX7_record_4 : decode cX7_record 4 = .ok (.iconst 4, 1) := by decide +kernel
theorem dX7_record_5 : decode cX7_record 5 = .ok (.if_icmp .lt 7, 3) := by decide +kernel
theorem dX7_record_8 : decode cX7_record 8 = .ok (.aload_n 0, 1) := by decide +kernel
theorem dX7_record_9 : decode cX7_record 9 = .ok (.invokevirtual 285, 3) := by decide +kernel
theorem dX7_record_12 : decode cX7_record 12 = .ok (.aload_n 0, 1) := by decide +kernel
theorem dX7_record_13 : decode cX7_record 13 = .ok (.getfield 22, 3) := by decide +kernel
theorem dX7_record_16 : decode cX7_record 16 = .ok (.aload_n 0, 1) := by decide +kernel
theorem dX7_record_17 : decode cX7_record 17 = .ok (.getfield 48, 3) := by decide +kernel
theorem dX7_record_20 : decode cX7_record 20 = .ok (.aaload, 1) := by decide +kernel
theorem dX7_record_21 : decode cX7_record 21 = .ok (.aload_n 0, 1) := by decide +kernel
theorem dX7_record_22 : decode cX7_record 22 = .ok (.getfield 10, 3) := by decide +kernel
theorem dX7_record_25 : decode cX7_record 25 = .ok (.invokevirtual 183, 3) := by decide +kernel
theorem dX7_record_28 : decode cX7_record 28 = .ok (.aload_n 0, 1) := by decide +kernel
theorem dX7_record_29 : decode cX7_record 29 = .ok (.dup, 1) := by decide +kernel
theorem dX7_record_30 : decode cX7_record 30 = .ok (.getfield 48, 3) := by decide +kernel
theorem dX7_record_33 : decode cX7_record 33 = .ok (.iconst 1, 1) := by decide +kernel
theorem dX7_record_34 : decode cX7_record 34 = .ok (.iadd, 1) := by decide +kernel
theorem dX7_record_35 : decode cX7_record 35 = .ok (.putfield 48, 3) := by decide +kernel
theorem dX7_record_38 : decode cX7_record 38 = .ok (.return_, 1) := by decide +kernel
theorem dX7_dropOldest_0 : decode cX7_dropOldest 0 = .ok (.aload_n 0, 1) := by decide +kernel
theorem dX7_dropOldest_1 : decode cX7_dropOldest 1 = .ok (.getfield 22, 3) := by decide +kernel
theorem dX7_dropOldest_4 : decode cX7_dropOldest 4 = .ok (.iconst 0, 1) := by decide +kernel
theorem dX7_dropOldest_5 : decode cX7_dropOldest 5 = .ok (.aaload, 1) := by decide +kernel
theorem dX7_dropOldest_6 : decode cX7_dropOldest 6 = .ok (.astore_n 1, 1) := by decide +kernel
theorem dX7_dropOldest_7 : decode cX7_dropOldest 7 = .ok (.iconst 1, 1) := by decide +kernel
theorem dX7_dropOldest_8 : decode cX7_dropOldest 8 = .ok (.istore_n 2, 1) := by decide +kernel
theorem dX7_dropOldest_9 : decode cX7_dropOldest 9 = .ok (.iload_n 2, 1) := by decide +kernel
theorem dX7_dropOldest_10 : decode cX7_dropOldest 10 = .ok (.iconst 4, 1) := by decide +kernel
theorem dX7_dropOldest_11 : decode cX7_dropOldest 11 = .ok (.if_icmp .ge 23, 3) := by decide +kernel
theorem dX7_dropOldest_14 : decode cX7_dropOldest 14 = .ok (.aload_n 0, 1) := by decide +kernel
theorem dX7_dropOldest_15 : decode cX7_dropOldest 15 = .ok (.getfield 22, 3) := by decide +kernel
theorem dX7_dropOldest_18 : decode cX7_dropOldest 18 = .ok (.iload_n 2, 1) := by decide +kernel
theorem dX7_dropOldest_19 : decode cX7_dropOldest 19 = .ok (.iconst 1, 1) := by decide +kernel
theorem dX7_dropOldest_20 : decode cX7_dropOldest 20 = .ok (.isub, 1) := by decide +kernel
theorem dX7_dropOldest_21 : decode cX7_dropOldest 21 = .ok (.aload_n 0, 1) := by decide +kernel
theorem dX7_dropOldest_22 : decode cX7_dropOldest 22 = .ok (.getfield 22, 3) := by decide +kernel
theorem dX7_dropOldest_25 : decode cX7_dropOldest 25 = .ok (.iload_n 2, 1) := by decide +kernel
theorem dX7_dropOldest_26 : decode cX7_dropOldest 26 = .ok (.aaload, 1) := by decide +kernel
theorem dX7_dropOldest_27 : decode cX7_dropOldest 27 = .ok (.aastore, 1) := by decide +kernel
theorem dX7_dropOldest_28 : decode cX7_dropOldest 28 = .ok (.iinc 2 1, 3) := by decide +kernel
theorem dX7_dropOldest_31 : decode cX7_dropOldest 31 = .ok (.goto (-22), 3) := by decide +kernel
theorem dX7_dropOldest_34 : decode cX7_dropOldest 34 = .ok (.aload_n 0, 1) := by decide +kernel
theorem dX7_dropOldest_35 : decode cX7_dropOldest 35 = .ok (.getfield 22, 3) := by decide +kernel
theorem dX7_dropOldest_38 : decode cX7_dropOldest 38 = .ok (.iconst 3, 1) := by decide +kernel
theorem dX7_dropOldest_39 : decode cX7_dropOldest 39 = .ok (.aload_n 1, 1) := by decide +kernel
theorem dX7_dropOldest_40 : decode cX7_dropOldest 40 = .ok (.aastore, 1) := by decide +kernel
theorem dX7_dropOldest_41 : decode cX7_dropOldest 41 = .ok (.aload_n 0, 1) := by decide +kernel
theorem dX7_dropOldest_42 : decode cX7_dropOldest 42 = .ok (.iconst 3, 1) := by decide +kernel
theorem dX7_dropOldest_43 : decode cX7_dropOldest 43 = .ok (.putfield 48, 3) := by decide +kernel
theorem dX7_dropOldest_46 : decode cX7_dropOldest 46 = .ok (.return_, 1) := by decide +kernel
theorem dX7_rowFault_0 : decode cX7_rowFault 0 = .ok (.iconst 0, 1) := by decide +kernel
theorem dX7_rowFault_1 : decode cX7_rowFault 1 = .ok (.istore_n 1, 1) := by decide +kernel
theorem dX7_rowFault_2 : decode cX7_rowFault 2 = .ok (.iload_n 1, 1) := by decide +kernel
theorem dX7_rowFault_3 : decode cX7_rowFault 3 = .ok (.aload_n 0, 1) := by decide +kernel
theorem dX7_rowFault_4 : decode cX7_rowFault 4 = .ok (.getfield 52, 3) := by decide +kernel
theorem dX7_rowFault_7 : decode cX7_rowFault 7 = .ok (.if_icmp .ge 26, 3) := by decide +kernel
theorem dX7_rowFault_10 : decode cX7_rowFault 10 = .ok (.aload_n 0, 1) := by decide +kernel
theorem dX7_rowFault_11 : decode cX7_rowFault 11 = .ok (.getfield 26, 3) := by decide +kernel
theorem dX7_rowFault_14 : decode cX7_rowFault 14 = .ok (.iload_n 1, 1) := by decide +kernel
theorem dX7_rowFault_15 : decode cX7_rowFault 15 = .ok (.caload, 1) := by decide +kernel
theorem dX7_rowFault_16 : decode cX7_rowFault 16 = .ok (.iload_n 1, 1) := by decide +kernel
theorem dX7_rowFault_17 : decode cX7_rowFault 17 = .ok (.iconst 3, 1) := by decide +kernel
theorem dX7_rowFault_18 : decode cX7_rowFault 18 = .ok (.irem, 1) := by decide +kernel
theorem dX7_rowFault_19 : decode cX7_rowFault 19 = .ok (.invokestatic 288, 3) := by decide +kernel
theorem dX7_rowFault_22 : decode cX7_rowFault 22 = .ok (.ifCond .ne 5, 3) := by decide +kernel
theorem dX7_rowFault_25 : decode cX7_rowFault 25 = .ok (.iload_n 1, 1) := by decide +kernel
theorem dX7_rowFault_26 : decode cX7_rowFault 26 = .ok (.ireturn, 1) := by decide +kernel
theorem dX7_rowFault_27 : decode cX7_rowFault 27 = .ok (.iinc 1 1, 3) := by decide +kernel
theorem dX7_rowFault_30 : decode cX7_rowFault 30 = .ok (.goto (-28), 3) := by decide +kernel
theorem dX7_rowFault_33 : decode cX7_rowFault 33 = .ok (.aload_n 0, 1) := by decide +kernel
theorem dX7_rowFault_34 : decode cX7_rowFault 34 = .ok (.getfield 52, 3) := by decide +kernel
theorem dX7_rowFault_37 : decode cX7_rowFault 37 = .ok (.iconst 3, 1) := by decide +kernel
theorem dX7_rowFault_38 : decode cX7_rowFault 38 = .ok (.irem, 1) := by decide +kernel
theorem dX7_rowFault_39 : decode cX7_rowFault 39 = .ok (.iconst 2, 1) := by decide +kernel
theorem dX7_rowFault_40 : decode cX7_rowFault 40 = .ok (.if_icmp .ne 7, 3) := by decide +kernel
theorem dX7_rowFault_43 : decode cX7_rowFault 43 = .ok (.iconst (-1), 1) := by decide +kernel
theorem dX7_rowFault_44 : decode cX7_rowFault 44 = .ok (.goto 7, 3) := by decide +kernel
theorem dX7_rowFault_47 : decode cX7_rowFault 47 = .ok (.aload_n 0, 1) := by decide +kernel
theorem dX7_rowFault_48 : decode cX7_rowFault 48 = .ok (.getfield 52, 3) := by decide +kernel
theorem dX7_rowFault_51 : decode cX7_rowFault 51 = .ok (.ireturn, 1) := by decide +kernel
theorem dX7_isAllowedInRow_0 : decode cX7_isAllowedInRow 0 = .ok (.iload_n 1, 1) := by decide +kernel
theorem dX7_isAllowedInRow_1 : decode cX7_isAllowedInRow 1 = .ok (.lookupswitch 50 #[(0, 27), (1, 32)], 27) := by decide +kernel
theorem dX7_isAllowedInRow_28 : decode cX7_isAllowedInRow 28 = .ok (.iload_n 0, 1) := by decide +kernel
theorem dX7_isAllowedInRow_29 : decode cX7_isAllowedInRow 29 = .ok (.invokestatic 55, 3) := by decide +kernel
theorem dX7_isAllowedInRow_32 : decode cX7_isAllowedInRow 32 = .ok (.ireturn, 1) := by decide +kernel
theorem dX7_isAllowedInRow_33 : decode cX7_isAllowedInRow 33 = .ok (.iload_n 0, 1) := by decide +kernel
theorem dX7_isAllowedInRow_34 : decode cX7_isAllowedInRow 34 = .ok (.bipush 49, 2) := by decide +kernel
theorem dX7_isAllowedInRow_36 : decode cX7_isAllowedInRow 36 = .ok (.if_icmp .lt 13, 3) := by decide +kernel
theorem dX7_isAllowedInRow_39 : decode cX7_isAllowedInRow 39 = .ok (.iload_n 0, 1) := by decide +kernel
theorem dX7_isAllowedInRow_40 : decode cX7_isAllowedInRow 40 = .ok (.bipush 57, 2) := by decide +kernel
theorem dX7_isAllowedInRow_42 : decode cX7_isAllowedInRow 42 = .ok (.if_icmp .gt 7, 3) := by decide +kernel
theorem dX7_isAllowedInRow_45 : decode cX7_isAllowedInRow 45 = .ok (.iconst 1, 1) := by decide +kernel
theorem dX7_isAllowedInRow_46 : decode cX7_isAllowedInRow 46 = .ok (.goto 4, 3) := by decide +kernel
theorem dX7_isAllowedInRow_49 : decode cX7_isAllowedInRow 49 = .ok (.iconst 0, 1) := by decide +kernel
theorem dX7_isAllowedInRow_50 : decode cX7_isAllowedInRow 50 = .ok (.ireturn, 1) := by decide +kernel
theorem dX7_isAllowedInRow_51 : decode cX7_isAllowedInRow 51 = .ok (.iload_n 0, 1) := by decide +kernel
theorem dX7_isAllowedInRow_52 : decode cX7_isAllowedInRow 52 = .ok (.bipush 44, 2) := by decide +kernel
theorem dX7_isAllowedInRow_54 : decode cX7_isAllowedInRow 54 = .ok (.if_icmp .ne 7, 3) := by decide +kernel
theorem dX7_isAllowedInRow_57 : decode cX7_isAllowedInRow 57 = .ok (.iconst 1, 1) := by decide +kernel
theorem dX7_isAllowedInRow_58 : decode cX7_isAllowedInRow 58 = .ok (.goto 4, 3) := by decide +kernel
theorem dX7_isAllowedInRow_61 : decode cX7_isAllowedInRow 61 = .ok (.iconst 0, 1) := by decide +kernel
theorem dX7_isAllowedInRow_62 : decode cX7_isAllowedInRow 62 = .ok (.ireturn, 1) := by decide +kernel
theorem dX7_wordFault_0 : decode cX7_wordFault 0 = .ok (.iconst 0, 1) := by decide +kernel
theorem dX7_wordFault_1 : decode cX7_wordFault 1 = .ok (.istore_n 1, 1) := by decide +kernel
theorem dX7_wordFault_2 : decode cX7_wordFault 2 = .ok (.iload_n 1, 1) := by decide +kernel
theorem dX7_wordFault_3 : decode cX7_wordFault 3 = .ok (.aload_n 0, 1) := by decide +kernel
theorem dX7_wordFault_4 : decode cX7_wordFault 4 = .ok (.getfield 52, 3) := by decide +kernel
theorem dX7_wordFault_7 : decode cX7_wordFault 7 = .ok (.if_icmp .ge 29, 3) := by decide +kernel
theorem dX7_wordFault_10 : decode cX7_wordFault 10 = .ok (.iload_n 1, 1) := by decide +kernel
theorem dX7_wordFault_11 : decode cX7_wordFault 11 = .ok (.bipush 12, 2) := by decide +kernel
theorem dX7_wordFault_13 : decode cX7_wordFault 13 = .ok (.if_icmp .ge 15, 3) := by decide +kernel
theorem dX7_wordFault_16 : decode cX7_wordFault 16 = .ok (.aload_n 0, 1) := by decide +kernel
theorem dX7_wordFault_17 : decode cX7_wordFault 17 = .ok (.getfield 26, 3) := by decide +kernel
theorem dX7_wordFault_20 : decode cX7_wordFault 20 = .ok (.iload_n 1, 1) := by decide +kernel
theorem dX7_wordFault_21 : decode cX7_wordFault 21 = .ok (.caload, 1) := by decide +kernel
theorem dX7_wordFault_22 : decode cX7_wordFault 22 = .ok (.invokestatic 55, 3) := by decide +kernel
theorem dX7_wordFault_25 : decode cX7_wordFault 25 = .ok (.ifCond .ne 5, 3) := by decide +kernel
theorem dX7_wordFault_28 : decode cX7_wordFault 28 = .ok (.iload_n 1, 1) := by decide +kernel
theorem dX7_wordFault_29 : decode cX7_wordFault 29 = .ok (.ireturn, 1) := by decide +kernel
theorem dX7_wordFault_30 : decode cX7_wordFault 30 = .ok (.iinc 1 1, 3) := by decide +kernel
theorem dX7_wordFault_33 : decode cX7_wordFault 33 = .ok (.goto (-31), 3) := by decide +kernel
theorem dX7_wordFault_36 : decode cX7_wordFault 36 = .ok (.aload_n 0, 1) := by decide +kernel
theorem dX7_wordFault_37 : decode cX7_wordFault 37 = .ok (.getfield 52, 3) := by decide +kernel
theorem dX7_wordFault_40 : decode cX7_wordFault 40 = .ok (.ifCond .le 7, 3) := by decide +kernel
theorem dX7_wordFault_43 : decode cX7_wordFault 43 = .ok (.iconst (-1), 1) := by decide +kernel
theorem dX7_wordFault_44 : decode cX7_wordFault 44 = .ok (.goto 4, 3) := by decide +kernel
theorem dX7_wordFault_47 : decode cX7_wordFault 47 = .ok (.iconst 0, 1) := by decide +kernel
theorem dX7_wordFault_48 : decode cX7_wordFault 48 = .ok (.ireturn, 1) := by decide +kernel
theorem dX7_isLetter_0 : decode cX7_isLetter 0 = .ok (.iload_n 0, 1) := by decide +kernel
theorem dX7_isLetter_1 : decode cX7_isLetter 1 = .ok (.bipush 97, 2) := by decide +kernel
theorem dX7_isLetter_3 : decode cX7_isLetter 3 = .ok (.if_icmp .lt 13, 3) := by decide +kernel
theorem dX7_isLetter_6 : decode cX7_isLetter 6 = .ok (.iload_n 0, 1) := by decide +kernel
theorem dX7_isLetter_7 : decode cX7_isLetter 7 = .ok (.bipush 122, 2) := by decide +kernel
theorem dX7_isLetter_9 : decode cX7_isLetter 9 = .ok (.if_icmp .gt 7, 3) := by decide +kernel
theorem dX7_isLetter_12 : decode cX7_isLetter 12 = .ok (.iconst 1, 1) := by decide +kernel
theorem dX7_isLetter_13 : decode cX7_isLetter 13 = .ok (.goto 4, 3) := by decide +kernel
theorem dX7_isLetter_16 : decode cX7_isLetter 16 = .ok (.iconst 0, 1) := by decide +kernel
theorem dX7_isLetter_17 : decode cX7_isLetter 17 = .ok (.ireturn, 1) := by decide +kernel
theorem dX7_isWind_0 : decode cX7_isWind 0 = .ok (.iload_n 0, 1) := by decide +kernel
theorem dX7_isWind_1 : decode cX7_isWind 1 = .ok (.iconst 0, 1) := by decide +kernel
theorem dX7_isWind_2 : decode cX7_isWind 2 = .ok (.iconst 3, 1) := by decide +kernel
theorem dX7_isWind_3 : decode cX7_isWind 3 = .ok (.invokestatic 59, 3) := by decide +kernel
theorem dX7_isWind_6 : decode cX7_isWind 6 = .ok (.ifCond .eq 16, 3) := by decide +kernel
theorem dX7_isWind_9 : decode cX7_isWind 9 = .ok (.iload_n 1, 1) := by decide +kernel
theorem dX7_isWind_10 : decode cX7_isWind 10 = .ok (.iconst 0, 1) := by decide +kernel
theorem dX7_isWind_11 : decode cX7_isWind 11 = .ok (.iconst 5, 1) := by decide +kernel
theorem dX7_isWind_12 : decode cX7_isWind 12 = .ok (.invokestatic 59, 3) := by decide +kernel
theorem dX7_isWind_15 : decode cX7_isWind 15 = .ok (.ifCond .eq 7, 3) := by decide +kernel
theorem dX7_isWind_18 : decode cX7_isWind 18 = .ok (.iconst 1, 1) := by decide +kernel
theorem dX7_isWind_19 : decode cX7_isWind 19 = .ok (.goto 4, 3) := by decide +kernel
theorem dX7_isWind_22 : decode cX7_isWind 22 = .ok (.iconst 0, 1) := by decide +kernel
theorem dX7_isWind_23 : decode cX7_isWind 23 = .ok (.ireturn, 1) := by decide +kernel
theorem dX7_isWithin_0 : decode cX7_isWithin 0 = .ok (.iload_n 0, 1) := by decide +kernel
theorem dX7_isWithin_1 : decode cX7_isWithin 1 = .ok (.iload_n 1, 1) := by decide +kernel
theorem dX7_isWithin_2 : decode cX7_isWithin 2 = .ok (.if_icmp .lt 12, 3) := by decide +kernel
theorem dX7_isWithin_5 : decode cX7_isWithin 5 = .ok (.iload_n 0, 1) := by decide +kernel
theorem dX7_isWithin_6 : decode cX7_isWithin 6 = .ok (.iload_n 2, 1) := by decide +kernel
theorem dX7_isWithin_7 : decode cX7_isWithin 7 = .ok (.if_icmp .gt 7, 3) := by decide +kernel
theorem dX7_isWithin_10 : decode cX7_isWithin 10 = .ok (.iconst 1, 1) := by decide +kernel
theorem dX7_isWithin_11 : decode cX7_isWithin 11 = .ok (.goto 4, 3) := by decide +kernel
theorem dX7_isWithin_14 : decode cX7_isWithin 14 = .ok (.iconst 0, 1) := by decide +kernel
theorem dX7_isWithin_15 : decode cX7_isWithin 15 = .ok (.ireturn, 1) := by decide +kernel
theorem dX7_asNumber_0 : decode cX7_asNumber 0 = .ok (.iload_n 0, 1) := by decide +kernel
theorem dX7_asNumber_1 : decode cX7_asNumber 1 = .ok (.ifCond .eq 7, 3) := by decide +kernel
theorem dX7_asNumber_4 : decode cX7_asNumber 4 = .ok (.iconst 1, 1) := by decide +kernel
theorem dX7_asNumber_5 : decode cX7_asNumber 5 = .ok (.goto 4, 3) := by decide +kernel
theorem dX7_asNumber_8 : decode cX7_asNumber 8 = .ok (.iconst 0, 1) := by decide +kernel
theorem dX7_asNumber_9 : decode cX7_asNumber 9 = .ok (.ireturn, 1) := by decide +kernel
theorem dX7_sideOf_0 : decode cX7_sideOf 0 = .ok (.iload_n 0, 1) := by decide +kernel
theorem dX7_sideOf_1 : decode cX7_sideOf 1 = .ok (.iload_n 1, 1) := by decide +kernel
theorem dX7_sideOf_2 : decode cX7_sideOf 2 = .ok (.if_icmp .ne 5, 3) := by decide +kernel
theorem dX7_sideOf_5 : decode cX7_sideOf 5 = .ok (.iconst 0, 1) := by decide +kernel
theorem dX7_sideOf_6 : decode cX7_sideOf 6 = .ok (.ireturn, 1) := by decide +kernel
theorem dX7_sideOf_7 : decode cX7_sideOf 7 = .ok (.iload_n 0, 1) := by decide +kernel
theorem dX7_sideOf_8 : decode cX7_sideOf 8 = .ok (.iload_n 1, 1) := by decide +kernel
theorem dX7_sideOf_9 : decode cX7_sideOf 9 = .ok (.if_icmp .ge 7, 3) := by decide +kernel
theorem dX7_sideOf_12 : decode cX7_sideOf 12 = .ok (.iconst (-1), 1) := by decide +kernel
theorem dX7_sideOf_13 : decode cX7_sideOf 13 = .ok (.goto 4, 3) := by decide +kernel
theorem dX7_sideOf_16 : decode cX7_sideOf 16 = .ok (.iconst 1, 1) := by decide +kernel
theorem dX7_sideOf_17 : decode cX7_sideOf 17 = .ok (.ireturn, 1) := by decide +kernel
theorem dX8_init_0 : decode cX8_init 0 = .ok (.aload_n 0, 1) := by decide +kernel
theorem dX8_init_1 : decode cX8_init 1 = .ok (.invokespecial 1, 3) := by decide +kernel
theorem dX8_init_4 : decode cX8_init 4 = .ok (.aload_n 0, 1) := by decide +kernel
theorem dX8_init_5 : decode cX8_init 5 = .ok (.sipush 152, 3) := by decide +kernel
theorem dX8_init_8 : decode cX8_init 8 = .ok (.newarray .int, 2) := by decide +kernel
theorem dX8_init_10 : decode cX8_init 10 = .ok (.putfield 7, 3) := by decide +kernel
theorem dX8_init_13 : decode cX8_init 13 = .ok (.aload_n 0, 1) := by decide +kernel
theorem dX8_init_14 : decode cX8_init 14 = .ok (.sipush 152, 3) := by decide +kernel
theorem dX8_init_17 : decode cX8_init 17 = .ok (.newarray .int, 2) := by decide +kernel
theorem dX8_init_19 : decode cX8_init 19 = .ok (.putfield 13, 3) := by decide +kernel
theorem dX8_init_22 : decode cX8_init 22 = .ok (.aload_n 0, 1) := by decide +kernel
theorem dX8_init_23 : decode cX8_init 23 = .ok (.sipush 608, 3) := by decide +kernel
theorem dX8_init_26 : decode cX8_init 26 = .ok (.newarray .int, 2) := by decide +kernel
theorem dX8_init_28 : decode cX8_init 28 = .ok (.putfield 16, 3) := by decide +kernel
theorem dX8_init_31 : decode cX8_init 31 = .ok (.aload_n 0, 1) := by decide +kernel
theorem dX8_init_32 : decode cX8_init 32 = .ok (.sipush 152, 3) := by decide +kernel
theorem dX8_init_35 : decode cX8_init 35 = .ok (.newarray .int, 2) := by decide +kernel
theorem dX8_init_37 : decode cX8_init 37 = .ok (.putfield 19, 3) := by decide +kernel
theorem dX8_init_40 : decode cX8_init 40 = .ok (.aload_n 0, 1) := by decide +kernel
theorem dX8_init_41 : decode cX8_init 41 = .ok (.bipush 60, 2) := by decide +kernel
theorem dX8_init_43 : decode cX8_init 43 = .ok (.newarray .char, 2) := by decide +kernel
theorem dX8_init_45 : decode cX8_init 45 = .ok (.putfield 22, 3) := by decide +kernel
theorem dX8_init_48 : decode cX8_init 48 = .ok (.aload_n 0, 1) := by decide +kernel
theorem dX8_init_49 : decode cX8_init 49 = .ok (.bipush 12, 2) := by decide +kernel
theorem dX8_init_51 : decode cX8_init 51 = .ok (.newarray .boolean, 2) := by decide +kernel
theorem dX8_init_53 : decode cX8_init 53 = .ok (.putfield 26, 3) := by decide +kernel
theorem dX8_init_56 : decode cX8_init 56 = .ok (.aload_n 0, 1) := by decide +kernel
theorem dX8_init_57 : decode cX8_init 57 = .ok (.bipush 12, 2) := by decide +kernel
theorem dX8_init_59 : decode cX8_init 59 = .ok (.newarray .int, 2) := by decide +kernel
theorem dX8_init_61 : decode cX8_init 61 = .ok (.putfield 30, 3) := by decide +kernel
theorem dX8_init_64 : decode cX8_init 64 = .ok (.aload_n 0, 1) := by decide +kernel
theorem dX8_init_65 : decode cX8_init 65 = .ok (.bipush 12, 2) := by decide +kernel
theorem dX8_init_67 : decode cX8_init 67 = .ok (.newarray .int, 2) := by decide +kernel
theorem dX8_init_69 : decode cX8_init 69 = .ok (.putfield 33, 3) := by decide +kernel
theorem dX8_init_72 : decode cX8_init 72 = .ok (.aload_n 0, 1) := by decide +kernel
theorem dX8_init_73 : decode cX8_init 73 = .ok (.sipush 152, 3) := by decide +kernel
theorem dX8_init_76 : decode cX8_init 76 = .ok (.newarray .int, 2) := by decide +kernel
theorem dX8_init_78 : decode cX8_init 78 = .ok (.putfield 36, 3) := by decide +kernel
theorem dX8_init_81 : decode cX8_init 81 = .ok (.aload_n 0, 1) := by decide +kernel
theorem dX8_init_82 : decode cX8_init 82 = .ok (.getfield 7, 3) := by decide +kernel
theorem dX8_init_85 : decode cX8_init 85 = .ok (.iconst 3, 1) := by decide +kernel
theorem dX8_init_86 : decode cX8_init 86 = .ok (.iconst 1, 1) := by decide +kernel
theorem dX8_init_87 : decode cX8_init 87 = .ok (.iastore, 1) := by decide +kernel
theorem dX8_init_88 : decode cX8_init 88 = .ok (.aload_n 0, 1) := by decide +kernel
theorem dX8_init_89 : decode cX8_init 89 = .ok (.getfield 7, 3) := by decide +kernel
theorem dX8_init_92 : decode cX8_init 92 = .ok (.iconst 5, 1) := by decide +kernel
theorem dX8_init_93 : decode cX8_init 93 = .ok (.iconst 3, 1) := by decide +kernel
theorem dX8_init_94 : decode cX8_init 94 = .ok (.iastore, 1) := by decide +kernel
theorem dX8_init_95 : decode cX8_init 95 = .ok (.return_, 1) := by decide +kernel
theorem dX8_in_0 : decode cX8_in 0 = .ok (.iload_n 0, 1) := by decide +kernel
theorem dX8_in_1 : decode cX8_in 1 = .ok (.iload_n 1, 1) := by decide +kernel
theorem dX8_in_2 : decode cX8_in 2 = .ok (.if_icmp .lt 12, 3) := by decide +kernel
theorem dX8_in_5 : decode cX8_in 5 = .ok (.iload_n 0, 1) := by decide +kernel
theorem dX8_in_6 : decode cX8_in 6 = .ok (.iload_n 2, 1) := by decide +kernel
theorem dX8_in_7 : decode cX8_in 7 = .ok (.if_icmp .gt 7, 3) := by decide +kernel
theorem dX8_in_10 : decode cX8_in 10 = .ok (.iconst 1, 1) := by decide +kernel
theorem dX8_in_11 : decode cX8_in 11 = .ok (.goto 4, 3) := by decide +kernel
theorem dX8_in_14 : decode cX8_in 14 = .ok (.iconst 0, 1) := by decide +kernel
theorem dX8_in_15 : decode cX8_in 15 = .ok (.ireturn, 1) := by decide +kernel
theorem dX8_lays_0 : decode cX8_lays 0 = .ok (.iconst 0, 1) := by decide +kernel
theorem dX8_lays_1 : decode cX8_lays 1 = .ok (.istore 4, 2) := by decide +kernel
theorem dX8_lays_3 : decode cX8_lays 3 = .ok (.iload 4, 2) := by decide +kernel
theorem dX8_lays_5 : decode cX8_lays 5 = .ok (.sipush 152, 3) := by decide +kernel
theorem dX8_lays_8 : decode cX8_lays 8 = .ok (.if_icmp .ge 21, 3) := by decide +kernel
theorem dX8_lays_11 : decode cX8_lays 11 = .ok (.aload_n 2, 1) := by decide +kernel
theorem dX8_lays_12 : decode cX8_lays 12 = .ok (.iload_n 3, 1) := by decide +kernel
theorem dX8_lays_13 : decode cX8_lays 13 = .ok (.iload 4, 2) := by decide +kernel
theorem dX8_lays_15 : decode cX8_lays 15 = .ok (.iadd, 1) := by decide +kernel
theorem dX8_lays_16 : decode cX8_lays 16 = .ok (.aload_n 0, 1) := by decide +kernel
theorem dX8_lays_17 : decode cX8_lays 17 = .ok (.iload_n 1, 1) := by decide +kernel
theorem dX8_lays_18 : decode cX8_lays 18 = .ok (.iload 4, 2) := by decide +kernel
theorem dX8_lays_20 : decode cX8_lays 20 = .ok (.iadd, 1) := by decide +kernel
theorem dX8_lays_21 : decode cX8_lays 21 = .ok (.iaload, 1) := by decide +kernel
theorem dX8_lays_22 : decode cX8_lays 22 = .ok (.iastore, 1) := by decide +kernel
theorem dX8_lays_23 : decode cX8_lays 23 = .ok (.iinc 4 1, 3) := by decide +kernel
theorem dX8_lays_26 : decode cX8_lays 26 = .ok (.goto (-23), 3) := by decide +kernel
theorem dX8_lays_29 : decode cX8_lays 29 = .ok (.return_, 1) := by decide +kernel
theorem dX8_records_0 : decode cX8_records 0 = .ok (.aload_n 0, 1) := by decide +kernel
theorem dX8_records_1 : decode cX8_records 1 = .ok (.getfield 39, 3) := by decide +kernel
theorem dX8_records_4 : decode cX8_records 4 = .ok (.iconst 4, 1) := by decide +kernel
theorem dX8_records_5 : decode cX8_records 5 = .ok (.if_icmp .ne 44, 3) := by decide +kernel
theorem dX8_records_8 : decode cX8_records 8 = .ok (.iconst 0, 1) := by decide +kernel
theorem dX8_records_9 : decode cX8_records 9 = .ok (.istore_n 1, 1) := by decide +kernel
theorem dX8_records_10 : decode cX8_records 10 = .ok (.iload_n 1, 1) := by decide +kernel
theorem dX8_records_11 : decode cX8_records 11 = .ok (.sipush 456, 3) := by decide +kernel
theorem dX8_records_14 : decode cX8_records 14 = .ok (.if_icmp .ge 25, 3) := by decide +kernel
theorem dX8_records_17 : decode cX8_records 17 = .ok (.aload_n 0, 1) := by decide +kernel
theorem dX8_records_18 : decode cX8_records 18 = .ok (.getfield 16, 3) := by decide +kernel
theorem dX8_records_21 : decode cX8_records 21 = .ok (.iload_n 1, 1) := by decide +kernel
theorem dX8_records_22 : decode cX8_records 22 = .ok (.aload_n 0, 1) := by decide +kernel
theorem dX8_records_23 : decode cX8_records 23 = .ok (.getfield 16, 3) := by decide +kernel
theorem dX8_records_26 : decode cX8_records 26 = .ok (.iload_n 1, 1) := by decide +kernel
theorem dX8_records_27 : decode cX8_records 27 = .ok (.sipush 152, 3) := by decide +kernel
theorem dX8_records_30 : decode cX8_records 30 = .ok (.iadd, 1) := by decide +kernel
theorem dX8_records_31 : decode cX8_records 31 = .ok (.iaload, 1) := by decide +kernel
theorem dX8_records_32 : decode cX8_records 32 = .ok (.iastore, 1) := by decide +kernel
theorem dX8_records_33 : decode cX8_records 33 = .ok (.iinc 1 1, 3) := by decide +kernel
theorem dX8_records_36 : decode cX8_records 36 = .ok (.goto (-26), 3) := by decide +kernel
theorem dX8_records_39 : decode cX8_records 39 = .ok (.aload_n 0, 1) := by decide +kernel
theorem dX8_records_40 : decode cX8_records 40 = .ok (.dup, 1) := by decide +kernel
theorem dX8_records_41 : decode cX8_records 41 = .ok (.getfield 39, 3) := by decide +kernel
theorem dX8_records_44 : decode cX8_records 44 = .ok (.iconst 1, 1) := by decide +kernel
theorem dX8_records_45 : decode cX8_records 45 = .ok (.isub, 1) := by decide +kernel
theorem dX8_records_46 : decode cX8_records 46 = .ok (.putfield 39, 3) := by decide +kernel
theorem dX8_records_49 : decode cX8_records 49 = .ok (.aload_n 0, 1) := by decide +kernel
theorem dX8_records_50 : decode cX8_records 50 = .ok (.getfield 7, 3) := by decide +kernel
theorem dX8_records_53 : decode cX8_records 53 = .ok (.iconst 0, 1) := by decide +kernel
theorem dX8_records_54 : decode cX8_records 54 = .ok (.aload_n 0, 1) := by decide +kernel
theorem dX8_records_55 : decode cX8_records 55 = .ok (.getfield 16, 3) := by decide +kernel
theorem dX8_records_58 : decode cX8_records 58 = .ok (.sipush 152, 3) := by decide +kernel
theorem dX8_records_61 : decode cX8_records 61 = .ok (.aload_n 0, 1) := by decide +kernel
theorem dX8_records_62 : decode cX8_records 62 = .ok (.getfield 39, 3) := by decide +kernel
theorem dX8_records_65 : decode cX8_records 65 = .ok (.imul, 1) := by decide +kernel
theorem dX8_records_66 : decode cX8_records 66 = .ok (.invokestatic 43, 3) := by decide +kernel
theorem dX8_records_69 : decode cX8_records 69 = .ok (.aload_n 0, 1) := by decide +kernel
theorem dX8_records_70 : decode cX8_records 70 = .ok (.dup, 1) := by decide +kernel
theorem dX8_records_71 : decode cX8_records 71 = .ok (.getfield 39, 3) := by decide +kernel
theorem dX8_records_74 : decode cX8_records 74 = .ok (.iconst 1, 1) := by decide +kernel
theorem dX8_records_75 : decode cX8_records 75 = .ok (.iadd, 1) := by decide +kernel
theorem dX8_records_76 : decode cX8_records 76 = .ok (.putfield 39, 3) := by decide +kernel
theorem dX8_records_79 : decode cX8_records 79 = .ok (.return_, 1) := by decide +kernel
theorem dX8_of_0 : decode cX8_of 0 = .ok (.aload_n 0, 1) := by decide +kernel
theorem dX8_of_1 : decode cX8_of 1 = .ok (.bipush 12, 2) := by decide +kernel
theorem dX8_of_3 : decode cX8_of 3 = .ok (.bipush 6, 2) := by decide +kernel
theorem dX8_of_5 : decode cX8_of 5 = .ok (.iload_n 1, 1) := by decide +kernel
theorem dX8_of_6 : decode cX8_of 6 = .ok (.imul, 1) := by decide +kernel
theorem dX8_of_7 : decode cX8_of 7 = .ok (.iadd, 1) := by decide +kernel
theorem dX8_of_8 : decode cX8_of 8 = .ok (.iload_n 2, 1) := by decide +kernel
theorem dX8_of_9 : decode cX8_of 9 = .ok (.iadd, 1) := by decide +kernel
theorem dX8_of_10 : decode cX8_of 10 = .ok (.iaload, 1) := by decide +kernel
theorem dX8_of_11 : decode cX8_of 11 = .ok (.ireturn, 1) := by decide +kernel
theorem dX8_puts_0 : decode cX8_puts 0 = .ok (.aload_n 0, 1) := by decide +kernel
theorem dX8_puts_1 : decode cX8_puts 1 = .ok (.bipush 12, 2) := by decide +kernel
theorem dX8_puts_3 : decode cX8_puts 3 = .ok (.bipush 6, 2) := by decide +kernel
theorem dX8_puts_5 : decode cX8_puts 5 = .ok (.iload_n 1, 1) := by decide +kernel
theorem dX8_puts_6 : decode cX8_puts 6 = .ok (.imul, 1) := by decide +kernel
theorem dX8_puts_7 : decode cX8_puts 7 = .ok (.iadd, 1) := by decide +kernel
theorem dX8_puts_8 : decode cX8_puts 8 = .ok (.iload_n 2, 1) := by decide +kernel
theorem dX8_puts_9 : decode cX8_puts 9 = .ok (.iadd, 1) := by decide +kernel
theorem dX8_puts_10 : decode cX8_puts 10 = .ok (.iload_n 3, 1) := by decide +kernel
theorem dX8_puts_11 : decode cX8_puts 11 = .ok (.iastore, 1) := by decide +kernel
theorem dX8_puts_12 : decode cX8_puts 12 = .ok (.return_, 1) := by decide +kernel
theorem dX8_isPlace_0 : decode cX8_isPlace 0 = .ok (.iload_n 1, 1) := by decide +kernel
theorem dX8_isPlace_1 : decode cX8_isPlace 1 = .ok (.iconst 0, 1) := by decide +kernel
theorem dX8_isPlace_2 : decode cX8_isPlace 2 = .ok (.aload_n 0, 1) := by decide +kernel
theorem dX8_isPlace_3 : decode cX8_isPlace 3 = .ok (.getfield 7, 3) := by decide +kernel
theorem dX8_isPlace_6 : decode cX8_isPlace 6 = .ok (.iconst 0, 1) := by decide +kernel
theorem dX8_isPlace_7 : decode cX8_isPlace 7 = .ok (.iaload, 1) := by decide +kernel
theorem dX8_isPlace_8 : decode cX8_isPlace 8 = .ok (.iconst 1, 1) := by decide +kernel
theorem dX8_isPlace_9 : decode cX8_isPlace 9 = .ok (.isub, 1) := by decide +kernel
theorem dX8_isPlace_10 : decode cX8_isPlace 10 = .ok (.invokestatic 47, 3) := by decide +kernel
theorem dX8_isPlace_13 : decode cX8_isPlace 13 = .ok (.ireturn, 1) := by decide +kernel
theorem dX8_aside_0 : decode cX8_aside 0 = .ok (.aload_n 0, 1) := by decide +kernel
theorem dX8_aside_1 : decode cX8_aside 1 = .ok (.iconst 3, 1) := by decide +kernel
theorem dX8_aside_2 : decode cX8_aside 2 = .ok (.iaload, 1) := by decide +kernel
theorem dX8_aside_3 : decode cX8_aside 3 = .ok (.aload_n 0, 1) := by decide +kernel
theorem dX8_aside_4 : decode cX8_aside 4 = .ok (.iload_n 1, 1) := by decide +kernel
theorem dX8_aside_5 : decode cX8_aside 5 = .ok (.iconst 2, 1) := by decide +kernel
theorem dX8_aside_6 : decode cX8_aside 6 = .ok (.invokestatic 51, 3) := by decide +kernel
theorem dX8_aside_9 : decode cX8_aside 9 = .ok (.imul, 1) := by decide +kernel
theorem dX8_aside_10 : decode cX8_aside 10 = .ok (.istore_n 2, 1) := by decide +kernel
theorem dX8_aside_11 : decode cX8_aside 11 = .ok (.aload_n 0, 1) := by decide +kernel
theorem dX8_aside_12 : decode cX8_aside 12 = .ok (.iconst 2, 1) := by decide +kernel
theorem dX8_aside_13 : decode cX8_aside 13 = .ok (.iaload, 1) := by decide +kernel
theorem dX8_aside_14 : decode cX8_aside 14 = .ok (.iconst 1, 1) := by decide +kernel
theorem dX8_aside_15 : decode cX8_aside 15 = .ok (.if_icmp .ne 7, 3) := by decide +kernel
theorem dX8_aside_18 : decode cX8_aside 18 = .ok (.iload_n 2, 1) := by decide +kernel
theorem dX8_aside_19 : decode cX8_aside 19 = .ok (.goto 16, 3) := by decide +kernel
theorem dX8_aside_22 : decode cX8_aside 22 = .ok (.aload_n 0, 1) := by decide +kernel
theorem dX8_aside_23 : decode cX8_aside 23 = .ok (.iconst 2, 1) := by decide +kernel
theorem dX8_aside_24 : decode cX8_aside 24 = .ok (.iaload, 1) := by decide +kernel
theorem dX8_aside_25 : decode cX8_aside 25 = .ok (.iconst 3, 1) := by decide +kernel
theorem dX8_aside_26 : decode cX8_aside 26 = .ok (.if_icmp .ne 8, 3) := by decide +kernel
theorem dX8_aside_29 : decode cX8_aside 29 = .ok (.iload_n 2, 1) := by decide +kernel
theorem dX8_aside_30 : decode cX8_aside 30 = .ok (.ineg, 1) := by decide +kernel
theorem dX8_aside_31 : decode cX8_aside 31 = .ok (.goto 4, 3) := by decide +kernel
theorem dX8_aside_34 : decode cX8_aside 34 = .ok (.iconst 0, 1) := by decide +kernel
theorem dX8_aside_35 : decode cX8_aside 35 = .ok (.ireturn, 1) := by decide +kernel
theorem dX8_shown_0 : decode cX8_shown 0 = .ok (.bipush 10, 2) := by decide +kernel
theorem dX8_shown_2 : decode cX8_shown 2 = .ok (.iload_n 1, 1) := by decide +kernel
theorem dX8_shown_3 : decode cX8_shown 3 = .ok (.imul, 1) := by decide +kernel
theorem dX8_shown_4 : decode cX8_shown 4 = .ok (.aload_n 0, 1) := by decide +kernel
theorem dX8_shown_5 : decode cX8_shown 5 = .ok (.iload_n 1, 1) := by decide +kernel
theorem dX8_shown_6 : decode cX8_shown 6 = .ok (.invokestatic 55, 3) := by decide +kernel
theorem dX8_shown_9 : decode cX8_shown 9 = .ok (.iadd, 1) := by decide +kernel
theorem dX8_shown_10 : decode cX8_shown 10 = .ok (.ireturn, 1) := by decide +kernel
theorem dX8_isTangled_0 : decode cX8_isTangled 0 = .ok (.aload_n 0, 1) := by decide +kernel
end
section
theorem dX8_isTangled_1 : decode cX8_isTangled 1 = .ok (.iload_n 1, 1) := by decide +kernel
theorem dX8_isTangled_2 : decode cX8_isTangled 2 = .ok (.iconst 4, 1) := by decide +kernel
theorem dX8_isTangled_3 : decode cX8_isTangled 3 = .ok (.invokestatic 51, 3) := by decide +kernel
theorem dX8_isTangled_6 : decode cX8_isTangled 6 = .ok (.ifCond .le 7, 3) := by decide +kernel
theorem dX8_isTangled_9 : decode cX8_isTangled 9 = .ok (.iconst 1, 1) := by decide +kernel
theorem dX8_isTangled_10 : decode cX8_isTangled 10 = .ok (.goto 4, 3) := by decide +kernel
theorem dX8_isTangled_13 : decode cX8_isTangled 13 = .ok (.iconst 0, 1) := by decide +kernel
theorem dX8_isTangled_14 : decode cX8_isTangled 14 = .ok (.ireturn, 1) := by decide +kernel
theorem dX8_isRead_0 : decode cX8_isRead 0 = .ok (.aload_n 0, 1) := by decide +kernel
theorem dX8_isRead_1 : decode cX8_isRead 1 = .ok (.iload_n 1, 1) := by decide +kernel
theorem dX8_isRead_2 : decode cX8_isRead 2 = .ok (.invokestatic 59, 3) := by decide +kernel
theorem dX8_isRead_5 : decode cX8_isRead 5 = .ok (.ifCond .ne 7, 3) := by decide +kernel
theorem dX8_isRead_8 : decode cX8_isRead 8 = .ok (.iconst 1, 1) := by decide +kernel
theorem dX8_isRead_9 : decode cX8_isRead 9 = .ok (.goto 4, 3) := by decide +kernel
theorem dX8_isRead_12 : decode cX8_isRead 12 = .ok (.iconst 0, 1) := by decide +kernel
theorem dX8_isRead_13 : decode cX8_isRead 13 = .ok (.istore_n 2, 1) := by decide +kernel
theorem dX8_isRead_14 : decode cX8_isRead 14 = .ok (.iconst 0, 1) := by decide +kernel
theorem dX8_isRead_15 : decode cX8_isRead 15 = .ok (.istore_n 3, 1) := by decide +kernel
theorem dX8_isRead_16 : decode cX8_isRead 16 = .ok (.iload_n 3, 1) := by decide +kernel
theorem dX8_isRead_17 : decode cX8_isRead 17 = .ok (.aload_n 0, 1) := by decide +kernel
theorem dX8_isRead_18 : decode cX8_isRead 18 = .ok (.iconst 0, 1) := by decide +kernel
theorem dX8_isRead_19 : decode cX8_isRead 19 = .ok (.iaload, 1) := by decide +kernel
theorem dX8_isRead_20 : decode cX8_isRead 20 = .ok (.if_icmp .ge 37, 3) := by decide +kernel
theorem dX8_isRead_23 : decode cX8_isRead 23 = .ok (.iload_n 2, 1) := by decide +kernel
theorem dX8_isRead_24 : decode cX8_isRead 24 = .ok (.ifCond .eq 25, 3) := by decide +kernel
theorem dX8_isRead_27 : decode cX8_isRead 27 = .ok (.iload_n 3, 1) := by decide +kernel
theorem dX8_isRead_28 : decode cX8_isRead 28 = .ok (.iload_n 1, 1) := by decide +kernel
theorem dX8_isRead_29 : decode cX8_isRead 29 = .ok (.if_icmp .eq 16, 3) := by decide +kernel
theorem dX8_isRead_32 : decode cX8_isRead 32 = .ok (.aload_n 0, 1) := by decide +kernel
theorem dX8_isRead_33 : decode cX8_isRead 33 = .ok (.iload_n 3, 1) := by decide +kernel
theorem dX8_isRead_34 : decode cX8_isRead 34 = .ok (.invokestatic 63, 3) := by decide +kernel
theorem dX8_isRead_37 : decode cX8_isRead 37 = .ok (.aload_n 0, 1) := by decide +kernel
theorem dX8_isRead_38 : decode cX8_isRead 38 = .ok (.iload_n 1, 1) := by decide +kernel
theorem dX8_isRead_39 : decode cX8_isRead 39 = .ok (.invokestatic 63, 3) := by decide +kernel
theorem dX8_isRead_42 : decode cX8_isRead 42 = .ok (.if_icmp .eq 7, 3) := by decide +kernel
theorem dX8_isRead_45 : decode cX8_isRead 45 = .ok (.iconst 1, 1) := by decide +kernel
theorem dX8_isRead_46 : decode cX8_isRead 46 = .ok (.goto 4, 3) := by decide +kernel
theorem dX8_isRead_49 : decode cX8_isRead 49 = .ok (.iconst 0, 1) := by decide +kernel
theorem dX8_isRead_50 : decode cX8_isRead 50 = .ok (.istore_n 2, 1) := by decide +kernel
theorem dX8_isRead_51 : decode cX8_isRead 51 = .ok (.iinc 3 1, 3) := by decide +kernel
theorem dX8_isRead_54 : decode cX8_isRead 54 = .ok (.goto (-38), 3) := by decide +kernel
theorem dX8_isRead_57 : decode cX8_isRead 57 = .ok (.iload_n 2, 1) := by decide +kernel
theorem dX8_isRead_58 : decode cX8_isRead 58 = .ok (.ireturn, 1) := by decide +kernel
theorem dX8_readable_0 : decode cX8_readable 0 = .ok (.iconst 0, 1) := by decide +kernel
theorem dX8_readable_1 : decode cX8_readable 1 = .ok (.istore_n 1, 1) := by decide +kernel
theorem dX8_readable_2 : decode cX8_readable 2 = .ok (.iconst 0, 1) := by decide +kernel
theorem dX8_readable_3 : decode cX8_readable 3 = .ok (.istore_n 2, 1) := by decide +kernel
theorem dX8_readable_4 : decode cX8_readable 4 = .ok (.iload_n 2, 1) := by decide +kernel
theorem dX8_readable_5 : decode cX8_readable 5 = .ok (.aload_n 0, 1) := by decide +kernel
theorem dX8_readable_6 : decode cX8_readable 6 = .ok (.iconst 0, 1) := by decide +kernel
theorem dX8_readable_7 : decode cX8_readable 7 = .ok (.iaload, 1) := by decide +kernel
theorem dX8_readable_8 : decode cX8_readable 8 = .ok (.if_icmp .ge 25, 3) := by decide +kernel
theorem dX8_readable_11 : decode cX8_readable 11 = .ok (.iload_n 1, 1) := by decide +kernel
theorem dX8_readable_12 : decode cX8_readable 12 = .ok (.aload_n 0, 1) := by decide +kernel
theorem dX8_readable_13 : decode cX8_readable 13 = .ok (.iload_n 2, 1) := by decide +kernel
theorem dX8_readable_14 : decode cX8_readable 14 = .ok (.invokestatic 66, 3) := by decide +kernel
theorem dX8_readable_17 : decode cX8_readable 17 = .ok (.ifCond .eq 7, 3) := by decide +kernel
theorem dX8_readable_20 : decode cX8_readable 20 = .ok (.iconst 1, 1) := by decide +kernel
theorem dX8_readable_21 : decode cX8_readable 21 = .ok (.goto 4, 3) := by decide +kernel
theorem dX8_readable_24 : decode cX8_readable 24 = .ok (.iconst 0, 1) := by decide +kernel
theorem dX8_readable_25 : decode cX8_readable 25 = .ok (.iadd, 1) := by decide +kernel
theorem dX8_readable_26 : decode cX8_readable 26 = .ok (.istore_n 1, 1) := by decide +kernel
theorem dX8_readable_27 : decode cX8_readable 27 = .ok (.iinc 2 1, 3) := by decide +kernel
theorem dX8_readable_30 : decode cX8_readable 30 = .ok (.goto (-26), 3) := by decide +kernel
theorem dX8_readable_33 : decode cX8_readable 33 = .ok (.iload_n 1, 1) := by decide +kernel
theorem dX8_readable_34 : decode cX8_readable 34 = .ok (.ireturn, 1) := by decide +kernel
theorem dX8_ranked_0 : decode cX8_ranked 0 = .ok (.iconst 0, 1) := by decide +kernel
theorem dX8_ranked_1 : decode cX8_ranked 1 = .ok (.istore_n 2, 1) := by decide +kernel
theorem dX8_ranked_2 : decode cX8_ranked 2 = .ok (.iload_n 2, 1) := by decide +kernel
theorem dX8_ranked_3 : decode cX8_ranked 3 = .ok (.aload_n 0, 1) := by decide +kernel
theorem dX8_ranked_4 : decode cX8_ranked 4 = .ok (.iconst 0, 1) := by decide +kernel
theorem dX8_ranked_5 : decode cX8_ranked 5 = .ok (.iaload, 1) := by decide +kernel
theorem dX8_ranked_6 : decode cX8_ranked 6 = .ok (.if_icmp .ge 115, 3) := by decide +kernel
theorem dX8_ranked_9 : decode cX8_ranked 9 = .ok (.iconst 0, 1) := by decide +kernel
theorem dX8_ranked_10 : decode cX8_ranked 10 = .ok (.istore_n 3, 1) := by decide +kernel
theorem dX8_ranked_11 : decode cX8_ranked 11 = .ok (.iconst 0, 1) := by decide +kernel
theorem dX8_ranked_12 : decode cX8_ranked 12 = .ok (.istore 4, 2) := by decide +kernel
theorem dX8_ranked_14 : decode cX8_ranked 14 = .ok (.iload 4, 2) := by decide +kernel
theorem dX8_ranked_16 : decode cX8_ranked 16 = .ok (.aload_n 0, 1) := by decide +kernel
theorem dX8_ranked_17 : decode cX8_ranked 17 = .ok (.iconst 0, 1) := by decide +kernel
theorem dX8_ranked_18 : decode cX8_ranked 18 = .ok (.iaload, 1) := by decide +kernel
theorem dX8_ranked_19 : decode cX8_ranked 19 = .ok (.if_icmp .ge 81, 3) := by decide +kernel
theorem dX8_ranked_22 : decode cX8_ranked 22 = .ok (.aload_n 0, 1) := by decide +kernel
theorem dX8_ranked_23 : decode cX8_ranked 23 = .ok (.iconst 4, 1) := by decide +kernel
theorem dX8_ranked_24 : decode cX8_ranked 24 = .ok (.iaload, 1) := by decide +kernel
theorem dX8_ranked_25 : decode cX8_ranked 25 = .ok (.iconst 1, 1) := by decide +kernel
theorem dX8_ranked_26 : decode cX8_ranked 26 = .ok (.if_icmp .ne 25, 3) := by decide +kernel
theorem dX8_ranked_29 : decode cX8_ranked 29 = .ok (.aload_n 0, 1) := by decide +kernel
theorem dX8_ranked_30 : decode cX8_ranked 30 = .ok (.iload 4, 2) := by decide +kernel
theorem dX8_ranked_32 : decode cX8_ranked 32 = .ok (.invokestatic 63, 3) := by decide +kernel
theorem dX8_ranked_35 : decode cX8_ranked 35 = .ok (.aload_n 0, 1) := by decide +kernel
theorem dX8_ranked_36 : decode cX8_ranked 36 = .ok (.iload_n 2, 1) := by decide +kernel
theorem dX8_ranked_37 : decode cX8_ranked 37 = .ok (.invokestatic 63, 3) := by decide +kernel
theorem dX8_ranked_40 : decode cX8_ranked 40 = .ok (.if_icmp .le 7, 3) := by decide +kernel
theorem dX8_ranked_43 : decode cX8_ranked 43 = .ok (.iconst 1, 1) := by decide +kernel
theorem dX8_ranked_44 : decode cX8_ranked 44 = .ok (.goto 26, 3) := by decide +kernel
theorem dX8_ranked_47 : decode cX8_ranked 47 = .ok (.iconst 0, 1) := by decide +kernel
theorem dX8_ranked_48 : decode cX8_ranked 48 = .ok (.goto 22, 3) := by decide +kernel
theorem dX8_ranked_51 : decode cX8_ranked 51 = .ok (.aload_n 0, 1) := by decide +kernel
theorem dX8_ranked_52 : decode cX8_ranked 52 = .ok (.iload 4, 2) := by decide +kernel
theorem dX8_ranked_54 : decode cX8_ranked 54 = .ok (.invokestatic 63, 3) := by decide +kernel
theorem dX8_ranked_57 : decode cX8_ranked 57 = .ok (.aload_n 0, 1) := by decide +kernel
theorem dX8_ranked_58 : decode cX8_ranked 58 = .ok (.iload_n 2, 1) := by decide +kernel
theorem dX8_ranked_59 : decode cX8_ranked 59 = .ok (.invokestatic 63, 3) := by decide +kernel
theorem dX8_ranked_62 : decode cX8_ranked 62 = .ok (.if_icmp .ge 7, 3) := by decide +kernel
theorem dX8_ranked_65 : decode cX8_ranked 65 = .ok (.iconst 1, 1) := by decide +kernel
theorem dX8_ranked_66 : decode cX8_ranked 66 = .ok (.goto 4, 3) := by decide +kernel
theorem dX8_ranked_69 : decode cX8_ranked 69 = .ok (.iconst 0, 1) := by decide +kernel
theorem dX8_ranked_70 : decode cX8_ranked 70 = .ok (.istore 5, 2) := by decide +kernel
theorem dX8_ranked_72 : decode cX8_ranked 72 = .ok (.iload_n 3, 1) := by decide +kernel
theorem dX8_ranked_73 : decode cX8_ranked 73 = .ok (.iload 5, 2) := by decide +kernel
theorem dX8_ranked_75 : decode cX8_ranked 75 = .ok (.ifCond .eq 16, 3) := by decide +kernel
theorem dX8_ranked_78 : decode cX8_ranked 78 = .ok (.aload_n 0, 1) := by decide +kernel
theorem dX8_ranked_79 : decode cX8_ranked 79 = .ok (.iload 4, 2) := by decide +kernel
theorem dX8_ranked_81 : decode cX8_ranked 81 = .ok (.invokestatic 66, 3) := by decide +kernel
theorem dX8_ranked_84 : decode cX8_ranked 84 = .ok (.ifCond .eq 7, 3) := by decide +kernel
theorem dX8_ranked_87 : decode cX8_ranked 87 = .ok (.iconst 1, 1) := by decide +kernel
theorem dX8_ranked_88 : decode cX8_ranked 88 = .ok (.goto 4, 3) := by decide +kernel
theorem dX8_ranked_91 : decode cX8_ranked 91 = .ok (.iconst 0, 1) := by decide +kernel
theorem dX8_ranked_92 : decode cX8_ranked 92 = .ok (.iadd, 1) := by decide +kernel
theorem dX8_ranked_93 : decode cX8_ranked 93 = .ok (.istore_n 3, 1) := by decide +kernel
theorem dX8_ranked_94 : decode cX8_ranked 94 = .ok (.iinc 4 1, 3) := by decide +kernel
theorem dX8_ranked_97 : decode cX8_ranked 97 = .ok (.goto (-83), 3) := by decide +kernel
theorem dX8_ranked_100 : decode cX8_ranked 100 = .ok (.aload_n 0, 1) := by decide +kernel
theorem dX8_ranked_101 : decode cX8_ranked 101 = .ok (.iload_n 2, 1) := by decide +kernel
theorem dX8_ranked_102 : decode cX8_ranked 102 = .ok (.invokestatic 66, 3) := by decide +kernel
theorem dX8_ranked_105 : decode cX8_ranked 105 = .ok (.ifCond .eq 10, 3) := by decide +kernel
theorem dX8_ranked_108 : decode cX8_ranked 108 = .ok (.iload_n 3, 1) := by decide +kernel
theorem dX8_ranked_109 : decode cX8_ranked 109 = .ok (.iload_n 1, 1) := by decide +kernel
theorem dX8_ranked_110 : decode cX8_ranked 110 = .ok (.if_icmp .ne 5, 3) := by decide +kernel
theorem dX8_ranked_113 : decode cX8_ranked 113 = .ok (.iload_n 2, 1) := by decide +kernel
theorem dX8_ranked_114 : decode cX8_ranked 114 = .ok (.ireturn, 1) := by decide +kernel
theorem dX8_ranked_115 : decode cX8_ranked 115 = .ok (.iinc 2 1, 3) := by decide +kernel
theorem dX8_ranked_118 : decode cX8_ranked 118 = .ok (.goto (-116), 3) := by decide +kernel
theorem dX8_ranked_121 : decode cX8_ranked 121 = .ok (.ldc 69, 2) := by decide +kernel
theorem dX8_ranked_123 : decode cX8_ranked 123 = .ok (.ireturn, 1) := by decide +kernel
theorem dX8_isSpelled_0 : decode cX8_isSpelled 0 = .ok (.aload_n 0, 1) := by decide +kernel
theorem dX8_isSpelled_1 : decode cX8_isSpelled 1 = .ok (.bipush 7, 2) := by decide +kernel
theorem dX8_isSpelled_3 : decode cX8_isSpelled 3 = .ok (.iaload, 1) := by decide +kernel
theorem dX8_isSpelled_4 : decode cX8_isSpelled 4 = .ok (.ifCond .le 27, 3) := by decide +kernel
theorem dX8_isSpelled_7 : decode cX8_isSpelled 7 = .ok (.aload_n 0, 1) := by decide +kernel
theorem dX8_isSpelled_8 : decode cX8_isSpelled 8 = .ok (.iconst 0, 1) := by decide +kernel
theorem dX8_isSpelled_9 : decode cX8_isSpelled 9 = .ok (.iaload, 1) := by decide +kernel
theorem dX8_isSpelled_10 : decode cX8_isSpelled 10 = .ok (.aload_n 0, 1) := by decide +kernel
theorem dX8_isSpelled_11 : decode cX8_isSpelled 11 = .ok (.bipush 7, 2) := by decide +kernel
theorem dX8_isSpelled_13 : decode cX8_isSpelled 13 = .ok (.iaload, 1) := by decide +kernel
theorem dX8_isSpelled_14 : decode cX8_isSpelled 14 = .ok (.if_icmp .ne 17, 3) := by decide +kernel
theorem dX8_isSpelled_17 : decode cX8_isSpelled 17 = .ok (.aload_n 0, 1) := by decide +kernel
theorem dX8_isSpelled_18 : decode cX8_isSpelled 18 = .ok (.invokestatic 70, 3) := by decide +kernel
theorem dX8_isSpelled_21 : decode cX8_isSpelled 21 = .ok (.aload_n 0, 1) := by decide +kernel
theorem dX8_isSpelled_22 : decode cX8_isSpelled 22 = .ok (.iconst 0, 1) := by decide +kernel
theorem dX8_isSpelled_23 : decode cX8_isSpelled 23 = .ok (.iaload, 1) := by decide +kernel
theorem dX8_isSpelled_24 : decode cX8_isSpelled 24 = .ok (.if_icmp .ne 7, 3) := by decide +kernel
theorem dX8_isSpelled_27 : decode cX8_isSpelled 27 = .ok (.iconst 1, 1) := by decide +kernel
theorem dX8_isSpelled_28 : decode cX8_isSpelled 28 = .ok (.goto 4, 3) := by decide +kernel
theorem dX8_isSpelled_31 : decode cX8_isSpelled 31 = .ok (.iconst 0, 1) := by decide +kernel
theorem dX8_isSpelled_32 : decode cX8_isSpelled 32 = .ok (.istore_n 1, 1) := by decide +kernel
theorem dX8_isSpelled_33 : decode cX8_isSpelled 33 = .ok (.iconst 0, 1) := by decide +kernel
theorem dX8_isSpelled_34 : decode cX8_isSpelled 34 = .ok (.istore_n 2, 1) := by decide +kernel
theorem dX8_isSpelled_35 : decode cX8_isSpelled 35 = .ok (.iload_n 2, 1) := by decide +kernel
theorem dX8_isSpelled_36 : decode cX8_isSpelled 36 = .ok (.aload_n 0, 1) := by decide +kernel
theorem dX8_isSpelled_37 : decode cX8_isSpelled 37 = .ok (.bipush 7, 2) := by decide +kernel
theorem dX8_isSpelled_39 : decode cX8_isSpelled 39 = .ok (.iaload, 1) := by decide +kernel
theorem dX8_isSpelled_40 : decode cX8_isSpelled 40 = .ok (.if_icmp .ge 38, 3) := by decide +kernel
theorem dX8_isSpelled_43 : decode cX8_isSpelled 43 = .ok (.iload_n 1, 1) := by decide +kernel
theorem dX8_isSpelled_44 : decode cX8_isSpelled 44 = .ok (.ifCond .eq 34, 3) := by decide +kernel
theorem dX8_isSpelled_47 : decode cX8_isSpelled 47 = .ok (.aload_n 0, 1) := by decide +kernel
theorem dX8_isSpelled_48 : decode cX8_isSpelled 48 = .ok (.aload_n 0, 1) := by decide +kernel
theorem dX8_isSpelled_49 : decode cX8_isSpelled 49 = .ok (.iload_n 2, 1) := by decide +kernel
theorem dX8_isSpelled_50 : decode cX8_isSpelled 50 = .ok (.invokestatic 74, 3) := by decide +kernel
theorem dX8_isSpelled_53 : decode cX8_isSpelled 53 = .ok (.iconst 1, 1) := by decide +kernel
theorem dX8_isSpelled_54 : decode cX8_isSpelled 54 = .ok (.invokestatic 51, 3) := by decide +kernel
theorem dX8_isSpelled_57 : decode cX8_isSpelled 57 = .ok (.aload_n 0, 1) := by decide +kernel
theorem dX8_isSpelled_58 : decode cX8_isSpelled 58 = .ok (.bipush 108, 2) := by decide +kernel
theorem dX8_isSpelled_60 : decode cX8_isSpelled 60 = .ok (.iload_n 2, 1) := by decide +kernel
theorem dX8_isSpelled_61 : decode cX8_isSpelled 61 = .ok (.iadd, 1) := by decide +kernel
theorem dX8_isSpelled_62 : decode cX8_isSpelled 62 = .ok (.iaload, 1) := by decide +kernel
theorem dX8_isSpelled_63 : decode cX8_isSpelled 63 = .ok (.if_icmp .ne 7, 3) := by decide +kernel
theorem dX8_isSpelled_66 : decode cX8_isSpelled 66 = .ok (.iconst 1, 1) := by decide +kernel
theorem dX8_isSpelled_67 : decode cX8_isSpelled 67 = .ok (.goto 4, 3) := by decide +kernel
theorem dX8_isSpelled_70 : decode cX8_isSpelled 70 = .ok (.iconst 0, 1) := by decide +kernel
theorem dX8_isSpelled_71 : decode cX8_isSpelled 71 = .ok (.istore_n 1, 1) := by decide +kernel
theorem dX8_isSpelled_72 : decode cX8_isSpelled 72 = .ok (.iinc 2 1, 3) := by decide +kernel
theorem dX8_isSpelled_75 : decode cX8_isSpelled 75 = .ok (.goto (-40), 3) := by decide +kernel
theorem dX8_isSpelled_78 : decode cX8_isSpelled 78 = .ok (.iload_n 1, 1) := by decide +kernel
theorem dX8_isSpelled_79 : decode cX8_isSpelled 79 = .ok (.ireturn, 1) := by decide +kernel
theorem dX8_letterAt_0 : decode cX8_letterAt 0 = .ok (.aload_n 0, 1) := by decide +kernel
theorem dX8_letterAt_1 : decode cX8_letterAt 1 = .ok (.aload_n 0, 1) := by decide +kernel
theorem dX8_letterAt_2 : decode cX8_letterAt 2 = .ok (.iconst 4, 1) := by decide +kernel
theorem dX8_letterAt_3 : decode cX8_letterAt 3 = .ok (.iaload, 1) := by decide +kernel
theorem dX8_letterAt_4 : decode cX8_letterAt 4 = .ok (.iconst 1, 1) := by decide +kernel
theorem dX8_letterAt_5 : decode cX8_letterAt 5 = .ok (.if_icmp .ne 13, 3) := by decide +kernel
theorem dX8_letterAt_8 : decode cX8_letterAt 8 = .ok (.aload_n 0, 1) := by decide +kernel
theorem dX8_letterAt_9 : decode cX8_letterAt 9 = .ok (.iconst 0, 1) := by decide +kernel
theorem dX8_letterAt_10 : decode cX8_letterAt 10 = .ok (.iaload, 1) := by decide +kernel
theorem dX8_letterAt_11 : decode cX8_letterAt 11 = .ok (.iconst 1, 1) := by decide +kernel
theorem dX8_letterAt_12 : decode cX8_letterAt 12 = .ok (.isub, 1) := by decide +kernel
theorem dX8_letterAt_13 : decode cX8_letterAt 13 = .ok (.iload_n 1, 1) := by decide +kernel
theorem dX8_letterAt_14 : decode cX8_letterAt 14 = .ok (.isub, 1) := by decide +kernel
theorem dX8_letterAt_15 : decode cX8_letterAt 15 = .ok (.goto 4, 3) := by decide +kernel
theorem dX8_letterAt_18 : decode cX8_letterAt 18 = .ok (.iload_n 1, 1) := by decide +kernel
theorem dX8_letterAt_19 : decode cX8_letterAt 19 = .ok (.iconst 1, 1) := by decide +kernel
theorem dX8_letterAt_20 : decode cX8_letterAt 20 = .ok (.invokestatic 51, 3) := by decide +kernel
theorem dX8_letterAt_23 : decode cX8_letterAt 23 = .ok (.ireturn, 1) := by decide +kernel
theorem dX8_laysGoal_0 : decode cX8_laysGoal 0 = .ok (.iconst 0, 1) := by decide +kernel
theorem dX8_laysGoal_1 : decode cX8_laysGoal 1 = .ok (.istore_n 2, 1) := by decide +kernel
theorem dX8_laysGoal_2 : decode cX8_laysGoal 2 = .ok (.iload_n 2, 1) := by decide +kernel
theorem dX8_laysGoal_3 : decode cX8_laysGoal 3 = .ok (.bipush 12, 2) := by decide +kernel
theorem dX8_laysGoal_5 : decode cX8_laysGoal 5 = .ok (.if_icmp .ge 23, 3) := by decide +kernel
theorem dX8_laysGoal_8 : decode cX8_laysGoal 8 = .ok (.aload_n 0, 1) := by decide +kernel
theorem dX8_laysGoal_9 : decode cX8_laysGoal 9 = .ok (.getfield 26, 3) := by decide +kernel
theorem dX8_laysGoal_12 : decode cX8_laysGoal 12 = .ok (.iload_n 2, 1) := by decide +kernel
theorem dX8_laysGoal_13 : decode cX8_laysGoal 13 = .ok (.iconst 0, 1) := by decide +kernel
theorem dX8_laysGoal_14 : decode cX8_laysGoal 14 = .ok (.bastore, 1) := by decide +kernel
theorem dX8_laysGoal_15 : decode cX8_laysGoal 15 = .ok (.aload_n 0, 1) := by decide +kernel
theorem dX8_laysGoal_16 : decode cX8_laysGoal 16 = .ok (.getfield 30, 3) := by decide +kernel
theorem dX8_laysGoal_19 : decode cX8_laysGoal 19 = .ok (.iload_n 2, 1) := by decide +kernel
theorem dX8_laysGoal_20 : decode cX8_laysGoal 20 = .ok (.iconst 0, 1) := by decide +kernel
theorem dX8_laysGoal_21 : decode cX8_laysGoal 21 = .ok (.iastore, 1) := by decide +kernel
theorem dX8_laysGoal_22 : decode cX8_laysGoal 22 = .ok (.iinc 2 1, 3) := by decide +kernel
theorem dX8_laysGoal_25 : decode cX8_laysGoal 25 = .ok (.goto (-23), 3) := by decide +kernel
theorem dX8_laysGoal_28 : decode cX8_laysGoal 28 = .ok (.aload_n 1, 1) := by decide +kernel
theorem dX8_laysGoal_29 : decode cX8_laysGoal 29 = .ok (.bipush 7, 2) := by decide +kernel
theorem dX8_laysGoal_31 : decode cX8_laysGoal 31 = .ok (.iaload, 1) := by decide +kernel
theorem dX8_laysGoal_32 : decode cX8_laysGoal 32 = .ok (.ifCond .le 17, 3) := by decide +kernel
theorem dX8_laysGoal_35 : decode cX8_laysGoal 35 = .ok (.aload_n 1, 1) := by decide +kernel
theorem dX8_laysGoal_36 : decode cX8_laysGoal 36 = .ok (.iconst 0, 1) := by decide +kernel
theorem dX8_laysGoal_37 : decode cX8_laysGoal 37 = .ok (.iaload, 1) := by decide +kernel
theorem dX8_laysGoal_38 : decode cX8_laysGoal 38 = .ok (.aload_n 1, 1) := by decide +kernel
theorem dX8_laysGoal_39 : decode cX8_laysGoal 39 = .ok (.bipush 7, 2) := by decide +kernel
theorem dX8_laysGoal_41 : decode cX8_laysGoal 41 = .ok (.iaload, 1) := by decide +kernel
theorem dX8_laysGoal_42 : decode cX8_laysGoal 42 = .ok (.if_icmp .ne 7, 3) := by decide +kernel
theorem dX8_laysGoal_45 : decode cX8_laysGoal 45 = .ok (.iconst 1, 1) := by decide +kernel
theorem dX8_laysGoal_46 : decode cX8_laysGoal 46 = .ok (.goto 4, 3) := by decide +kernel
theorem dX8_laysGoal_49 : decode cX8_laysGoal 49 = .ok (.iconst 0, 1) := by decide +kernel
theorem dX8_laysGoal_50 : decode cX8_laysGoal 50 = .ok (.istore_n 2, 1) := by decide +kernel
theorem dX8_laysGoal_51 : decode cX8_laysGoal 51 = .ok (.iconst 0, 1) := by decide +kernel
theorem dX8_laysGoal_52 : decode cX8_laysGoal 52 = .ok (.istore_n 3, 1) := by decide +kernel
theorem dX8_laysGoal_53 : decode cX8_laysGoal 53 = .ok (.iload_n 3, 1) := by decide +kernel
theorem dX8_laysGoal_54 : decode cX8_laysGoal 54 = .ok (.aload_n 1, 1) := by decide +kernel
theorem dX8_laysGoal_55 : decode cX8_laysGoal 55 = .ok (.bipush 7, 2) := by decide +kernel
theorem dX8_laysGoal_57 : decode cX8_laysGoal 57 = .ok (.iaload, 1) := by decide +kernel
theorem dX8_laysGoal_58 : decode cX8_laysGoal 58 = .ok (.if_icmp .ge 89, 3) := by decide +kernel
theorem dX8_laysGoal_61 : decode cX8_laysGoal 61 = .ok (.iload_n 2, 1) := by decide +kernel
theorem dX8_laysGoal_62 : decode cX8_laysGoal 62 = .ok (.ifCond .eq 85, 3) := by decide +kernel
theorem dX8_laysGoal_65 : decode cX8_laysGoal 65 = .ok (.iconst 0, 1) := by decide +kernel
theorem dX8_laysGoal_66 : decode cX8_laysGoal 66 = .ok (.istore 4, 2) := by decide +kernel
theorem dX8_laysGoal_68 : decode cX8_laysGoal 68 = .ok (.iload 4, 2) := by decide +kernel
theorem dX8_laysGoal_70 : decode cX8_laysGoal 70 = .ok (.aload_n 1, 1) := by decide +kernel
theorem dX8_laysGoal_71 : decode cX8_laysGoal 71 = .ok (.iconst 0, 1) := by decide +kernel
theorem dX8_laysGoal_72 : decode cX8_laysGoal 72 = .ok (.iaload, 1) := by decide +kernel
theorem dX8_laysGoal_73 : decode cX8_laysGoal 73 = .ok (.if_icmp .ge 34, 3) := by decide +kernel
theorem dX8_laysGoal_76 : decode cX8_laysGoal 76 = .ok (.aload_n 0, 1) := by decide +kernel
theorem dX8_laysGoal_77 : decode cX8_laysGoal 77 = .ok (.getfield 26, 3) := by decide +kernel
theorem dX8_laysGoal_80 : decode cX8_laysGoal 80 = .ok (.iload 4, 2) := by decide +kernel
theorem dX8_laysGoal_82 : decode cX8_laysGoal 82 = .ok (.baload, 1) := by decide +kernel
theorem dX8_laysGoal_83 : decode cX8_laysGoal 83 = .ok (.ifCond .ne 18, 3) := by decide +kernel
theorem dX8_laysGoal_86 : decode cX8_laysGoal 86 = .ok (.aload_n 1, 1) := by decide +kernel
theorem dX8_laysGoal_87 : decode cX8_laysGoal 87 = .ok (.iload 4, 2) := by decide +kernel
theorem dX8_laysGoal_89 : decode cX8_laysGoal 89 = .ok (.invokestatic 77, 3) := by decide +kernel
theorem dX8_laysGoal_92 : decode cX8_laysGoal 92 = .ok (.aload_n 1, 1) := by decide +kernel
theorem dX8_laysGoal_93 : decode cX8_laysGoal 93 = .ok (.bipush 108, 2) := by decide +kernel
theorem dX8_laysGoal_95 : decode cX8_laysGoal 95 = .ok (.iload_n 3, 1) := by decide +kernel
theorem dX8_laysGoal_96 : decode cX8_laysGoal 96 = .ok (.iadd, 1) := by decide +kernel
theorem dX8_laysGoal_97 : decode cX8_laysGoal 97 = .ok (.iaload, 1) := by decide +kernel
theorem dX8_laysGoal_98 : decode cX8_laysGoal 98 = .ok (.if_icmp .eq 9, 3) := by decide +kernel
theorem dX8_laysGoal_101 : decode cX8_laysGoal 101 = .ok (.iinc 4 1, 3) := by decide +kernel
theorem dX8_laysGoal_104 : decode cX8_laysGoal 104 = .ok (.goto (-36), 3) := by decide +kernel
theorem dX8_laysGoal_107 : decode cX8_laysGoal 107 = .ok (.iload 4, 2) := by decide +kernel
theorem dX8_laysGoal_109 : decode cX8_laysGoal 109 = .ok (.aload_n 1, 1) := by decide +kernel
theorem dX8_laysGoal_110 : decode cX8_laysGoal 110 = .ok (.iconst 0, 1) := by decide +kernel
theorem dX8_laysGoal_111 : decode cX8_laysGoal 111 = .ok (.iaload, 1) := by decide +kernel
theorem dX8_laysGoal_112 : decode cX8_laysGoal 112 = .ok (.if_icmp .ge 7, 3) := by decide +kernel
theorem dX8_laysGoal_115 : decode cX8_laysGoal 115 = .ok (.iconst 1, 1) := by decide +kernel
theorem dX8_laysGoal_116 : decode cX8_laysGoal 116 = .ok (.goto 4, 3) := by decide +kernel
theorem dX8_laysGoal_119 : decode cX8_laysGoal 119 = .ok (.iconst 0, 1) := by decide +kernel
theorem dX8_laysGoal_120 : decode cX8_laysGoal 120 = .ok (.istore_n 2, 1) := by decide +kernel
theorem dX8_laysGoal_121 : decode cX8_laysGoal 121 = .ok (.iload_n 2, 1) := by decide +kernel
theorem dX8_laysGoal_122 : decode cX8_laysGoal 122 = .ok (.ifCond .eq 19, 3) := by decide +kernel
theorem dX8_laysGoal_125 : decode cX8_laysGoal 125 = .ok (.aload_n 0, 1) := by decide +kernel
theorem dX8_laysGoal_126 : decode cX8_laysGoal 126 = .ok (.getfield 26, 3) := by decide +kernel
theorem dX8_laysGoal_129 : decode cX8_laysGoal 129 = .ok (.iload 4, 2) := by decide +kernel
theorem dX8_laysGoal_131 : decode cX8_laysGoal 131 = .ok (.iconst 1, 1) := by decide +kernel
theorem dX8_laysGoal_132 : decode cX8_laysGoal 132 = .ok (.bastore, 1) := by decide +kernel
theorem dX8_laysGoal_133 : decode cX8_laysGoal 133 = .ok (.aload_n 0, 1) := by decide +kernel
theorem dX8_laysGoal_134 : decode cX8_laysGoal 134 = .ok (.getfield 30, 3) := by decide +kernel
theorem dX8_laysGoal_137 : decode cX8_laysGoal 137 = .ok (.iload_n 3, 1) := by decide +kernel
theorem dX8_laysGoal_138 : decode cX8_laysGoal 138 = .ok (.iload 4, 2) := by decide +kernel
theorem dX8_laysGoal_140 : decode cX8_laysGoal 140 = .ok (.iastore, 1) := by decide +kernel
theorem dX8_laysGoal_141 : decode cX8_laysGoal 141 = .ok (.iinc 3 1, 3) := by decide +kernel
theorem dX8_laysGoal_144 : decode cX8_laysGoal 144 = .ok (.goto (-91), 3) := by decide +kernel
theorem dX8_laysGoal_147 : decode cX8_laysGoal 147 = .ok (.iload_n 2, 1) := by decide +kernel
theorem dX8_laysGoal_148 : decode cX8_laysGoal 148 = .ok (.ireturn, 1) := by decide +kernel
theorem dX8_fewest_0 : decode cX8_fewest 0 = .ok (.aload_n 0, 1) := by decide +kernel
theorem dX8_fewest_1 : decode cX8_fewest 1 = .ok (.aload_n 1, 1) := by decide +kernel
theorem dX8_fewest_2 : decode cX8_fewest 2 = .ok (.invokevirtual 80, 3) := by decide +kernel
theorem dX8_fewest_5 : decode cX8_fewest 5 = .ok (.ifCond .ne 6, 3) := by decide +kernel
theorem dX8_fewest_8 : decode cX8_fewest 8 = .ok (.ldc 69, 2) := by decide +kernel
theorem dX8_fewest_10 : decode cX8_fewest 10 = .ok (.ireturn, 1) := by decide +kernel
theorem dX8_fewest_11 : decode cX8_fewest 11 = .ok (.iconst 0, 1) := by decide +kernel
theorem dX8_fewest_12 : decode cX8_fewest 12 = .ok (.istore_n 2, 1) := by decide +kernel
theorem dX8_fewest_13 : decode cX8_fewest 13 = .ok (.iconst 0, 1) := by decide +kernel
theorem dX8_fewest_14 : decode cX8_fewest 14 = .ok (.istore_n 3, 1) := by decide +kernel
theorem dX8_fewest_15 : decode cX8_fewest 15 = .ok (.iload_n 3, 1) := by decide +kernel
theorem dX8_fewest_16 : decode cX8_fewest 16 = .ok (.aload_n 1, 1) := by decide +kernel
theorem dX8_fewest_17 : decode cX8_fewest 17 = .ok (.bipush 7, 2) := by decide +kernel
theorem dX8_fewest_19 : decode cX8_fewest 19 = .ok (.iaload, 1) := by decide +kernel
theorem dX8_fewest_20 : decode cX8_fewest 20 = .ok (.if_icmp .ge 48, 3) := by decide +kernel
theorem dX8_fewest_23 : decode cX8_fewest 23 = .ok (.iconst 0, 1) := by decide +kernel
theorem dX8_fewest_24 : decode cX8_fewest 24 = .ok (.istore 4, 2) := by decide +kernel
theorem dX8_fewest_26 : decode cX8_fewest 26 = .ok (.iload 4, 2) := by decide +kernel
theorem dX8_fewest_28 : decode cX8_fewest 28 = .ok (.iload_n 3, 1) := by decide +kernel
theorem dX8_fewest_29 : decode cX8_fewest 29 = .ok (.if_icmp .ge 33, 3) := by decide +kernel
theorem dX8_fewest_32 : decode cX8_fewest 32 = .ok (.iload_n 2, 1) := by decide +kernel
theorem dX8_fewest_33 : decode cX8_fewest 33 = .ok (.aload_n 0, 1) := by decide +kernel
theorem dX8_fewest_34 : decode cX8_fewest 34 = .ok (.getfield 30, 3) := by decide +kernel
theorem dX8_fewest_37 : decode cX8_fewest 37 = .ok (.iload 4, 2) := by decide +kernel
theorem dX8_fewest_39 : decode cX8_fewest 39 = .ok (.iaload, 1) := by decide +kernel
theorem dX8_fewest_40 : decode cX8_fewest 40 = .ok (.aload_n 0, 1) := by decide +kernel
theorem dX8_fewest_41 : decode cX8_fewest 41 = .ok (.getfield 30, 3) := by decide +kernel
theorem dX8_fewest_44 : decode cX8_fewest 44 = .ok (.iload_n 3, 1) := by decide +kernel
theorem dX8_fewest_45 : decode cX8_fewest 45 = .ok (.iaload, 1) := by decide +kernel
theorem dX8_fewest_46 : decode cX8_fewest 46 = .ok (.if_icmp .le 7, 3) := by decide +kernel
theorem dX8_fewest_49 : decode cX8_fewest 49 = .ok (.iconst 1, 1) := by decide +kernel
theorem dX8_fewest_50 : decode cX8_fewest 50 = .ok (.goto 4, 3) := by decide +kernel
theorem dX8_fewest_53 : decode cX8_fewest 53 = .ok (.iconst 0, 1) := by decide +kernel
theorem dX8_fewest_54 : decode cX8_fewest 54 = .ok (.iadd, 1) := by decide +kernel
theorem dX8_fewest_55 : decode cX8_fewest 55 = .ok (.istore_n 2, 1) := by decide +kernel
theorem dX8_fewest_56 : decode cX8_fewest 56 = .ok (.iinc 4 1, 3) := by decide +kernel
theorem dX8_fewest_59 : decode cX8_fewest 59 = .ok (.goto (-33), 3) := by decide +kernel
theorem dX8_fewest_62 : decode cX8_fewest 62 = .ok (.iinc 3 1, 3) := by decide +kernel
theorem dX8_fewest_65 : decode cX8_fewest 65 = .ok (.goto (-50), 3) := by decide +kernel
theorem dX8_fewest_68 : decode cX8_fewest 68 = .ok (.iload_n 2, 1) := by decide +kernel
theorem dX8_fewest_69 : decode cX8_fewest 69 = .ok (.ireturn, 1) := by decide +kernel
theorem dX8_logs_0 : decode cX8_logs 0 = .ok (.bipush 31, 2) := by decide +kernel
theorem dX8_logs_2 : decode cX8_logs 2 = .ok (.istore_n 3, 1) := by decide +kernel
theorem dX8_logs_3 : decode cX8_logs 3 = .ok (.iload_n 3, 1) := by decide +kernel
theorem dX8_logs_4 : decode cX8_logs 4 = .ok (.iconst 3, 1) := by decide +kernel
theorem dX8_logs_5 : decode cX8_logs 5 = .ok (.if_icmp .le 23, 3) := by decide +kernel
theorem dX8_logs_8 : decode cX8_logs 8 = .ok (.aload_n 0, 1) := by decide +kernel
theorem dX8_logs_9 : decode cX8_logs 9 = .ok (.bipush 120, 2) := by decide +kernel
theorem dX8_logs_11 : decode cX8_logs 11 = .ok (.iload_n 3, 1) := by decide +kernel
theorem dX8_logs_12 : decode cX8_logs 12 = .ok (.iadd, 1) := by decide +kernel
theorem dX8_logs_13 : decode cX8_logs 13 = .ok (.aload_n 0, 1) := by decide +kernel
theorem dX8_logs_14 : decode cX8_logs 14 = .ok (.bipush 120, 2) := by decide +kernel
theorem dX8_logs_16 : decode cX8_logs 16 = .ok (.iload_n 3, 1) := by decide +kernel
theorem dX8_logs_17 : decode cX8_logs 17 = .ok (.iadd, 1) := by decide +kernel
theorem dX8_logs_18 : decode cX8_logs 18 = .ok (.iconst 4, 1) := by decide +kernel
theorem dX8_logs_19 : decode cX8_logs 19 = .ok (.isub, 1) := by decide +kernel
theorem dX8_logs_20 : decode cX8_logs 20 = .ok (.iaload, 1) := by decide +kernel
theorem dX8_logs_21 : decode cX8_logs 21 = .ok (.iastore, 1) := by decide +kernel
theorem dX8_logs_22 : decode cX8_logs 22 = .ok (.iinc 3 (-1), 3) := by decide +kernel
theorem dX8_logs_25 : decode cX8_logs 25 = .ok (.goto (-22), 3) := by decide +kernel
theorem dX8_logs_28 : decode cX8_logs 28 = .ok (.aload_n 0, 1) := by decide +kernel
theorem dX8_logs_29 : decode cX8_logs 29 = .ok (.bipush 120, 2) := by decide +kernel
theorem dX8_logs_31 : decode cX8_logs 31 = .ok (.aload_n 0, 1) := by decide +kernel
theorem dX8_logs_32 : decode cX8_logs 32 = .ok (.iconst 1, 1) := by decide +kernel
theorem dX8_logs_33 : decode cX8_logs 33 = .ok (.iaload, 1) := by decide +kernel
theorem dX8_logs_34 : decode cX8_logs 34 = .ok (.iastore, 1) := by decide +kernel
theorem dX8_logs_35 : decode cX8_logs 35 = .ok (.aload_n 0, 1) := by decide +kernel
theorem dX8_logs_36 : decode cX8_logs 36 = .ok (.bipush 121, 2) := by decide +kernel
theorem dX8_logs_38 : decode cX8_logs 38 = .ok (.aload_n 0, 1) := by decide +kernel
theorem dX8_logs_39 : decode cX8_logs 39 = .ok (.iload_n 1, 1) := by decide +kernel
theorem dX8_logs_40 : decode cX8_logs 40 = .ok (.iconst 0, 1) := by decide +kernel
theorem dX8_logs_41 : decode cX8_logs 41 = .ok (.invokestatic 51, 3) := by decide +kernel
theorem dX8_logs_44 : decode cX8_logs 44 = .ok (.iastore, 1) := by decide +kernel
theorem dX8_logs_45 : decode cX8_logs 45 = .ok (.aload_n 0, 1) := by decide +kernel
theorem dX8_logs_46 : decode cX8_logs 46 = .ok (.bipush 122, 2) := by decide +kernel
theorem dX8_logs_48 : decode cX8_logs 48 = .ok (.aload_n 0, 1) := by decide +kernel
theorem dX8_logs_49 : decode cX8_logs 49 = .ok (.iload_n 1, 1) := by decide +kernel
theorem dX8_logs_50 : decode cX8_logs 50 = .ok (.iconst 1, 1) := by decide +kernel
theorem dX8_logs_51 : decode cX8_logs 51 = .ok (.iadd, 1) := by decide +kernel
theorem dX8_logs_52 : decode cX8_logs 52 = .ok (.iconst 0, 1) := by decide +kernel
theorem dX8_logs_53 : decode cX8_logs 53 = .ok (.invokestatic 51, 3) := by decide +kernel
theorem dX8_logs_56 : decode cX8_logs 56 = .ok (.iastore, 1) := by decide +kernel
theorem dX8_logs_57 : decode cX8_logs 57 = .ok (.aload_n 0, 1) := by decide +kernel
theorem dX8_logs_58 : decode cX8_logs 58 = .ok (.bipush 123, 2) := by decide +kernel
theorem dX8_logs_60 : decode cX8_logs 60 = .ok (.iload_n 2, 1) := by decide +kernel
theorem dX8_logs_61 : decode cX8_logs 61 = .ok (.iastore, 1) := by decide +kernel
theorem dX8_logs_62 : decode cX8_logs 62 = .ok (.aload_n 0, 1) := by decide +kernel
theorem dX8_logs_63 : decode cX8_logs 63 = .ok (.bipush 11, 2) := by decide +kernel
theorem dX8_logs_65 : decode cX8_logs 65 = .ok (.dup2, 1) := by decide +kernel
theorem dX8_logs_66 : decode cX8_logs 66 = .ok (.iaload, 1) := by decide +kernel
theorem dX8_logs_67 : decode cX8_logs 67 = .ok (.aload_n 0, 1) := by decide +kernel
theorem dX8_logs_68 : decode cX8_logs 68 = .ok (.bipush 11, 2) := by decide +kernel
theorem dX8_logs_70 : decode cX8_logs 70 = .ok (.iaload, 1) := by decide +kernel
theorem dX8_logs_71 : decode cX8_logs 71 = .ok (.bipush 8, 2) := by decide +kernel
theorem dX8_logs_73 : decode cX8_logs 73 = .ok (.if_icmp .ge 7, 3) := by decide +kernel
theorem dX8_logs_76 : decode cX8_logs 76 = .ok (.iconst 1, 1) := by decide +kernel
theorem dX8_logs_77 : decode cX8_logs 77 = .ok (.goto 4, 3) := by decide +kernel
theorem dX8_logs_80 : decode cX8_logs 80 = .ok (.iconst 0, 1) := by decide +kernel
theorem dX8_logs_81 : decode cX8_logs 81 = .ok (.iadd, 1) := by decide +kernel
theorem dX8_logs_82 : decode cX8_logs 82 = .ok (.iastore, 1) := by decide +kernel
theorem dX8_logs_83 : decode cX8_logs 83 = .ok (.return_, 1) := by decide +kernel
theorem dX8_tangles_0 : decode cX8_tangles 0 = .ok (.aload_n 0, 1) := by decide +kernel
theorem dX8_tangles_1 : decode cX8_tangles 1 = .ok (.iload_n 1, 1) := by decide +kernel
theorem dX8_tangles_2 : decode cX8_tangles 2 = .ok (.iconst 3, 1) := by decide +kernel
theorem dX8_tangles_3 : decode cX8_tangles 3 = .ok (.aload_n 0, 1) := by decide +kernel
theorem dX8_tangles_4 : decode cX8_tangles 4 = .ok (.iload_n 1, 1) := by decide +kernel
theorem dX8_tangles_5 : decode cX8_tangles 5 = .ok (.iconst 1, 1) := by decide +kernel
theorem dX8_tangles_6 : decode cX8_tangles 6 = .ok (.iadd, 1) := by decide +kernel
theorem dX8_tangles_7 : decode cX8_tangles 7 = .ok (.iconst 0, 1) := by decide +kernel
theorem dX8_tangles_8 : decode cX8_tangles 8 = .ok (.invokestatic 51, 3) := by decide +kernel
theorem dX8_tangles_11 : decode cX8_tangles 11 = .ok (.invokestatic 84, 3) := by decide +kernel
theorem dX8_tangles_14 : decode cX8_tangles 14 = .ok (.aload_n 0, 1) := by decide +kernel
theorem dX8_tangles_15 : decode cX8_tangles 15 = .ok (.iload_n 1, 1) := by decide +kernel
theorem dX8_tangles_16 : decode cX8_tangles 16 = .ok (.iconst 1, 1) := by decide +kernel
theorem dX8_tangles_17 : decode cX8_tangles 17 = .ok (.iadd, 1) := by decide +kernel
theorem dX8_tangles_18 : decode cX8_tangles 18 = .ok (.iconst 3, 1) := by decide +kernel
theorem dX8_tangles_19 : decode cX8_tangles 19 = .ok (.aload_n 0, 1) := by decide +kernel
theorem dX8_tangles_20 : decode cX8_tangles 20 = .ok (.iload_n 1, 1) := by decide +kernel
theorem dX8_tangles_21 : decode cX8_tangles 21 = .ok (.iconst 0, 1) := by decide +kernel
theorem dX8_tangles_22 : decode cX8_tangles 22 = .ok (.invokestatic 51, 3) := by decide +kernel
theorem dX8_tangles_25 : decode cX8_tangles 25 = .ok (.invokestatic 84, 3) := by decide +kernel
theorem dX8_tangles_28 : decode cX8_tangles 28 = .ok (.aload_n 0, 1) := by decide +kernel
theorem dX8_tangles_29 : decode cX8_tangles 29 = .ok (.iload_n 1, 1) := by decide +kernel
theorem dX8_tangles_30 : decode cX8_tangles 30 = .ok (.iconst 4, 1) := by decide +kernel
theorem dX8_tangles_31 : decode cX8_tangles 31 = .ok (.aload_n 0, 1) := by decide +kernel
theorem dX8_tangles_32 : decode cX8_tangles 32 = .ok (.iconst 5, 1) := by decide +kernel
theorem dX8_tangles_33 : decode cX8_tangles 33 = .ok (.iaload, 1) := by decide +kernel
theorem dX8_tangles_34 : decode cX8_tangles 34 = .ok (.invokestatic 84, 3) := by decide +kernel
theorem dX8_tangles_37 : decode cX8_tangles 37 = .ok (.aload_n 0, 1) := by decide +kernel
theorem dX8_tangles_38 : decode cX8_tangles 38 = .ok (.iload_n 1, 1) := by decide +kernel
theorem dX8_tangles_39 : decode cX8_tangles 39 = .ok (.iconst 1, 1) := by decide +kernel
theorem dX8_tangles_40 : decode cX8_tangles 40 = .ok (.iadd, 1) := by decide +kernel
theorem dX8_tangles_41 : decode cX8_tangles 41 = .ok (.iconst 4, 1) := by decide +kernel
theorem dX8_tangles_42 : decode cX8_tangles 42 = .ok (.aload_n 0, 1) := by decide +kernel
theorem dX8_tangles_43 : decode cX8_tangles 43 = .ok (.iconst 5, 1) := by decide +kernel
theorem dX8_tangles_44 : decode cX8_tangles 44 = .ok (.iaload, 1) := by decide +kernel
theorem dX8_tangles_45 : decode cX8_tangles 45 = .ok (.invokestatic 84, 3) := by decide +kernel
theorem dX8_tangles_48 : decode cX8_tangles 48 = .ok (.aload_n 0, 1) := by decide +kernel
theorem dX8_tangles_49 : decode cX8_tangles 49 = .ok (.bipush 9, 2) := by decide +kernel
theorem dX8_tangles_51 : decode cX8_tangles 51 = .ok (.dup2, 1) := by decide +kernel
theorem dX8_tangles_52 : decode cX8_tangles 52 = .ok (.iaload, 1) := by decide +kernel
theorem dX8_tangles_53 : decode cX8_tangles 53 = .ok (.iconst 1, 1) := by decide +kernel
theorem dX8_tangles_54 : decode cX8_tangles 54 = .ok (.iadd, 1) := by decide +kernel
theorem dX8_tangles_55 : decode cX8_tangles 55 = .ok (.iastore, 1) := by decide +kernel
theorem dX8_tangles_56 : decode cX8_tangles 56 = .ok (.aload_n 0, 1) := by decide +kernel
theorem dX8_tangles_57 : decode cX8_tangles 57 = .ok (.iload_n 1, 1) := by decide +kernel
theorem dX8_tangles_58 : decode cX8_tangles 58 = .ok (.iload_n 2, 1) := by decide +kernel
theorem dX8_tangles_59 : decode cX8_tangles 59 = .ok (.invokestatic 88, 3) := by decide +kernel
theorem dX8_tangles_62 : decode cX8_tangles 62 = .ok (.return_, 1) := by decide +kernel
theorem dX8_wouldTangle_0 : decode cX8_wouldTangle 0 = .ok (.aload_n 0, 1) := by decide +kernel
theorem dX8_wouldTangle_1 : decode cX8_wouldTangle 1 = .ok (.iload_n 1, 1) := by decide +kernel
theorem dX8_wouldTangle_2 : decode cX8_wouldTangle 2 = .ok (.invokestatic 55, 3) := by decide +kernel
theorem dX8_wouldTangle_5 : decode cX8_wouldTangle 5 = .ok (.istore_n 2, 1) := by decide +kernel
theorem dX8_wouldTangle_6 : decode cX8_wouldTangle 6 = .ok (.bipush 10, 2) := by decide +kernel
theorem dX8_wouldTangle_8 : decode cX8_wouldTangle 8 = .ok (.aload_n 0, 1) := by decide +kernel
theorem dX8_wouldTangle_9 : decode cX8_wouldTangle 9 = .ok (.iload_n 1, 1) := by decide +kernel
theorem dX8_wouldTangle_10 : decode cX8_wouldTangle 10 = .ok (.iconst 1, 1) := by decide +kernel
theorem dX8_wouldTangle_11 : decode cX8_wouldTangle 11 = .ok (.iadd, 1) := by decide +kernel
theorem dX8_wouldTangle_12 : decode cX8_wouldTangle 12 = .ok (.invokestatic 55, 3) := by decide +kernel
theorem dX8_wouldTangle_15 : decode cX8_wouldTangle 15 = .ok (.iadd, 1) := by decide +kernel
theorem dX8_wouldTangle_16 : decode cX8_wouldTangle 16 = .ok (.istore_n 3, 1) := by decide +kernel
theorem dX8_wouldTangle_17 : decode cX8_wouldTangle 17 = .ok (.bipush 10, 2) := by decide +kernel
theorem dX8_wouldTangle_19 : decode cX8_wouldTangle 19 = .ok (.aload_n 0, 1) := by decide +kernel
theorem dX8_wouldTangle_20 : decode cX8_wouldTangle 20 = .ok (.iload_n 1, 1) := by decide +kernel
theorem dX8_wouldTangle_21 : decode cX8_wouldTangle 21 = .ok (.invokestatic 55, 3) := by decide +kernel
theorem dX8_wouldTangle_24 : decode cX8_wouldTangle 24 = .ok (.iadd, 1) := by decide +kernel
theorem dX8_wouldTangle_25 : decode cX8_wouldTangle 25 = .ok (.istore 4, 2) := by decide +kernel
theorem dX8_wouldTangle_27 : decode cX8_wouldTangle 27 = .ok (.aload_n 0, 1) := by decide +kernel
theorem dX8_wouldTangle_28 : decode cX8_wouldTangle 28 = .ok (.iload_n 1, 1) := by decide +kernel
theorem dX8_wouldTangle_29 : decode cX8_wouldTangle 29 = .ok (.iconst 1, 1) := by decide +kernel
theorem dX8_wouldTangle_30 : decode cX8_wouldTangle 30 = .ok (.iadd, 1) := by decide +kernel
theorem dX8_wouldTangle_31 : decode cX8_wouldTangle 31 = .ok (.invokestatic 55, 3) := by decide +kernel
theorem dX8_wouldTangle_34 : decode cX8_wouldTangle 34 = .ok (.istore 5, 2) := by decide +kernel
theorem dX8_wouldTangle_36 : decode cX8_wouldTangle 36 = .ok (.iload_n 2, 1) := by decide +kernel
theorem dX8_wouldTangle_37 : decode cX8_wouldTangle 37 = .ok (.iload_n 3, 1) := by decide +kernel
theorem dX8_wouldTangle_38 : decode cX8_wouldTangle 38 = .ok (.if_icmp .gt 10, 3) := by decide +kernel
theorem dX8_wouldTangle_41 : decode cX8_wouldTangle 41 = .ok (.iload 4, 2) := by decide +kernel
theorem dX8_wouldTangle_43 : decode cX8_wouldTangle 43 = .ok (.iload 5, 2) := by decide +kernel
theorem dX8_wouldTangle_45 : decode cX8_wouldTangle 45 = .ok (.if_icmp .le 15, 3) := by decide +kernel
theorem dX8_wouldTangle_48 : decode cX8_wouldTangle 48 = .ok (.iload_n 3, 1) := by decide +kernel
theorem dX8_wouldTangle_49 : decode cX8_wouldTangle 49 = .ok (.iload_n 2, 1) := by decide +kernel
theorem dX8_wouldTangle_50 : decode cX8_wouldTangle 50 = .ok (.if_icmp .gt 14, 3) := by decide +kernel
theorem dX8_wouldTangle_53 : decode cX8_wouldTangle 53 = .ok (.iload 5, 2) := by decide +kernel
theorem dX8_wouldTangle_55 : decode cX8_wouldTangle 55 = .ok (.iload 4, 2) := by decide +kernel
theorem dX8_wouldTangle_57 : decode cX8_wouldTangle 57 = .ok (.if_icmp .gt 7, 3) := by decide +kernel
theorem dX8_wouldTangle_60 : decode cX8_wouldTangle 60 = .ok (.iconst 1, 1) := by decide +kernel
theorem dX8_wouldTangle_61 : decode cX8_wouldTangle 61 = .ok (.goto 4, 3) := by decide +kernel
theorem dX8_wouldTangle_64 : decode cX8_wouldTangle 64 = .ok (.iconst 0, 1) := by decide +kernel
theorem dX8_wouldTangle_65 : decode cX8_wouldTangle 65 = .ok (.ireturn, 1) := by decide +kernel
theorem dX8_swaps_0 : decode cX8_swaps 0 = .ok (.iconst 0, 1) := by decide +kernel
theorem dX8_swaps_1 : decode cX8_swaps 1 = .ok (.istore_n 2, 1) := by decide +kernel
theorem dX8_swaps_2 : decode cX8_swaps 2 = .ok (.iload_n 2, 1) := by decide +kernel
theorem dX8_swaps_3 : decode cX8_swaps 3 = .ok (.bipush 6, 2) := by decide +kernel
theorem dX8_swaps_5 : decode cX8_swaps 5 = .ok (.if_icmp .ge 39, 3) := by decide +kernel
theorem dX8_swaps_8 : decode cX8_swaps 8 = .ok (.aload_n 0, 1) := by decide +kernel
theorem dX8_swaps_9 : decode cX8_swaps 9 = .ok (.iload_n 1, 1) := by decide +kernel
theorem dX8_swaps_10 : decode cX8_swaps 10 = .ok (.iload_n 2, 1) := by decide +kernel
theorem dX8_swaps_11 : decode cX8_swaps 11 = .ok (.invokestatic 51, 3) := by decide +kernel
theorem dX8_swaps_14 : decode cX8_swaps 14 = .ok (.istore_n 3, 1) := by decide +kernel
theorem dX8_swaps_15 : decode cX8_swaps 15 = .ok (.aload_n 0, 1) := by decide +kernel
theorem dX8_swaps_16 : decode cX8_swaps 16 = .ok (.iload_n 1, 1) := by decide +kernel
theorem dX8_swaps_17 : decode cX8_swaps 17 = .ok (.iload_n 2, 1) := by decide +kernel
theorem dX8_swaps_18 : decode cX8_swaps 18 = .ok (.aload_n 0, 1) := by decide +kernel
theorem dX8_swaps_19 : decode cX8_swaps 19 = .ok (.iload_n 1, 1) := by decide +kernel
theorem dX8_swaps_20 : decode cX8_swaps 20 = .ok (.iconst 1, 1) := by decide +kernel
theorem dX8_swaps_21 : decode cX8_swaps 21 = .ok (.iadd, 1) := by decide +kernel
theorem dX8_swaps_22 : decode cX8_swaps 22 = .ok (.iload_n 2, 1) := by decide +kernel
theorem dX8_swaps_23 : decode cX8_swaps 23 = .ok (.invokestatic 51, 3) := by decide +kernel
theorem dX8_swaps_26 : decode cX8_swaps 26 = .ok (.invokestatic 84, 3) := by decide +kernel
theorem dX8_swaps_29 : decode cX8_swaps 29 = .ok (.aload_n 0, 1) := by decide +kernel
theorem dX8_swaps_30 : decode cX8_swaps 30 = .ok (.iload_n 1, 1) := by decide +kernel
theorem dX8_swaps_31 : decode cX8_swaps 31 = .ok (.iconst 1, 1) := by decide +kernel
theorem dX8_swaps_32 : decode cX8_swaps 32 = .ok (.iadd, 1) := by decide +kernel
theorem dX8_swaps_33 : decode cX8_swaps 33 = .ok (.iload_n 2, 1) := by decide +kernel
theorem dX8_swaps_34 : decode cX8_swaps 34 = .ok (.iload_n 3, 1) := by decide +kernel
theorem dX8_swaps_35 : decode cX8_swaps 35 = .ok (.invokestatic 84, 3) := by decide +kernel
theorem dX8_swaps_38 : decode cX8_swaps 38 = .ok (.iinc 2 1, 3) := by decide +kernel
theorem dX8_swaps_41 : decode cX8_swaps 41 = .ok (.goto (-39), 3) := by decide +kernel
theorem dX8_swaps_44 : decode cX8_swaps 44 = .ok (.return_, 1) := by decide +kernel
theorem dX8_relation_0 : decode cX8_relation 0 = .ok (.aload_n 0, 1) := by decide +kernel
theorem dX8_relation_1 : decode cX8_relation 1 = .ok (.iload_n 1, 1) := by decide +kernel
theorem dX8_relation_2 : decode cX8_relation 2 = .ok (.invokestatic 63, 3) := by decide +kernel
theorem dX8_relation_5 : decode cX8_relation 5 = .ok (.aload_n 0, 1) := by decide +kernel
theorem dX8_relation_6 : decode cX8_relation 6 = .ok (.iload_n 1, 1) := by decide +kernel
theorem dX8_relation_7 : decode cX8_relation 7 = .ok (.iconst 1, 1) := by decide +kernel
theorem dX8_relation_8 : decode cX8_relation 8 = .ok (.iadd, 1) := by decide +kernel
theorem dX8_relation_9 : decode cX8_relation 9 = .ok (.invokestatic 63, 3) := by decide +kernel
theorem dX8_relation_12 : decode cX8_relation 12 = .ok (.isub, 1) := by decide +kernel
theorem dX8_relation_13 : decode cX8_relation 13 = .ok (.istore_n 2, 1) := by decide +kernel
theorem dX8_relation_14 : decode cX8_relation 14 = .ok (.iload_n 2, 1) := by decide +kernel
theorem dX8_relation_15 : decode cX8_relation 15 = .ok (.ifCond .ge 7, 3) := by decide +kernel
theorem dX8_relation_18 : decode cX8_relation 18 = .ok (.iconst (-1), 1) := by decide +kernel
theorem dX8_relation_19 : decode cX8_relation 19 = .ok (.goto 12, 3) := by decide +kernel
theorem dX8_relation_22 : decode cX8_relation 22 = .ok (.iload_n 2, 1) := by decide +kernel
theorem dX8_relation_23 : decode cX8_relation 23 = .ok (.ifCond .le 7, 3) := by decide +kernel
theorem dX8_relation_26 : decode cX8_relation 26 = .ok (.iconst 1, 1) := by decide +kernel
theorem dX8_relation_27 : decode cX8_relation 27 = .ok (.goto 4, 3) := by decide +kernel
theorem dX8_relation_30 : decode cX8_relation 30 = .ok (.iconst 0, 1) := by decide +kernel
theorem dX8_relation_31 : decode cX8_relation 31 = .ok (.ireturn, 1) := by decide +kernel
theorem dX8_blows_0 : decode cX8_blows 0 = .ok (.iconst 0, 1) := by decide +kernel
theorem dX8_blows_1 : decode cX8_blows 1 = .ok (.istore 4, 2) := by decide +kernel
theorem dX8_blows_3 : decode cX8_blows 3 = .ok (.iload 4, 2) := by decide +kernel
theorem dX8_blows_5 : decode cX8_blows 5 = .ok (.aload_n 1, 1) := by decide +kernel
theorem dX8_blows_6 : decode cX8_blows 6 = .ok (.iconst 0, 1) := by decide +kernel
theorem dX8_blows_7 : decode cX8_blows 7 = .ok (.iaload, 1) := by decide +kernel
theorem dX8_blows_8 : decode cX8_blows 8 = .ok (.iconst 1, 1) := by decide +kernel
theorem dX8_blows_9 : decode cX8_blows 9 = .ok (.isub, 1) := by decide +kernel
theorem dX8_blows_10 : decode cX8_blows 10 = .ok (.if_icmp .ge 22, 3) := by decide +kernel
theorem dX8_blows_13 : decode cX8_blows 13 = .ok (.aload_n 0, 1) := by decide +kernel
theorem dX8_blows_14 : decode cX8_blows 14 = .ok (.getfield 33, 3) := by decide +kernel
theorem dX8_blows_17 : decode cX8_blows 17 = .ok (.iload 4, 2) := by decide +kernel
theorem dX8_blows_19 : decode cX8_blows 19 = .ok (.aload_n 1, 1) := by decide +kernel
theorem dX8_blows_20 : decode cX8_blows 20 = .ok (.iload 4, 2) := by decide +kernel
theorem dX8_blows_22 : decode cX8_blows 22 = .ok (.invokestatic 92, 3) := by decide +kernel
theorem dX8_blows_25 : decode cX8_blows 25 = .ok (.iastore, 1) := by decide +kernel
theorem dX8_blows_26 : decode cX8_blows 26 = .ok (.iinc 4 1, 3) := by decide +kernel
theorem dX8_blows_29 : decode cX8_blows 29 = .ok (.goto (-26), 3) := by decide +kernel
theorem dX8_blows_32 : decode cX8_blows 32 = .ok (.aload_n 1, 1) := by decide +kernel
theorem dX8_blows_33 : decode cX8_blows 33 = .ok (.iconst 2, 1) := by decide +kernel
theorem dX8_blows_34 : decode cX8_blows 34 = .ok (.iload_n 2, 1) := by decide +kernel
theorem dX8_blows_35 : decode cX8_blows 35 = .ok (.iastore, 1) := by decide +kernel
theorem dX8_blows_36 : decode cX8_blows 36 = .ok (.aload_n 1, 1) := by decide +kernel
theorem dX8_blows_37 : decode cX8_blows 37 = .ok (.iconst 3, 1) := by decide +kernel
theorem dX8_blows_38 : decode cX8_blows 38 = .ok (.iload_n 3, 1) := by decide +kernel
theorem dX8_blows_39 : decode cX8_blows 39 = .ok (.iastore, 1) := by decide +kernel
theorem dX8_blows_40 : decode cX8_blows 40 = .ok (.iconst 0, 1) := by decide +kernel
theorem dX8_blows_41 : decode cX8_blows 41 = .ok (.istore 4, 2) := by decide +kernel
theorem dX8_blows_43 : decode cX8_blows 43 = .ok (.iconst 0, 1) := by decide +kernel
theorem dX8_blows_44 : decode cX8_blows 44 = .ok (.istore 5, 2) := by decide +kernel
theorem dX8_blows_46 : decode cX8_blows 46 = .ok (.iload 5, 2) := by decide +kernel
theorem dX8_blows_48 : decode cX8_blows 48 = .ok (.aload_n 1, 1) := by decide +kernel
theorem dX8_blows_49 : decode cX8_blows 49 = .ok (.iconst 0, 1) := by decide +kernel
theorem dX8_blows_50 : decode cX8_blows 50 = .ok (.iaload, 1) := by decide +kernel
theorem dX8_blows_51 : decode cX8_blows 51 = .ok (.iconst 1, 1) := by decide +kernel
theorem dX8_blows_52 : decode cX8_blows 52 = .ok (.isub, 1) := by decide +kernel
theorem dX8_blows_53 : decode cX8_blows 53 = .ok (.if_icmp .ge 55, 3) := by decide +kernel
theorem dX8_blows_56 : decode cX8_blows 56 = .ok (.aload_n 1, 1) := by decide +kernel
theorem dX8_blows_57 : decode cX8_blows 57 = .ok (.iload 5, 2) := by decide +kernel
theorem dX8_blows_59 : decode cX8_blows 59 = .ok (.invokestatic 59, 3) := by decide +kernel
theorem dX8_blows_62 : decode cX8_blows 62 = .ok (.ifCond .ne 40, 3) := by decide +kernel
theorem dX8_blows_65 : decode cX8_blows 65 = .ok (.aload_n 1, 1) := by decide +kernel
theorem dX8_blows_66 : decode cX8_blows 66 = .ok (.iload 5, 2) := by decide +kernel
theorem dX8_blows_68 : decode cX8_blows 68 = .ok (.iconst 1, 1) := by decide +kernel
theorem dX8_blows_69 : decode cX8_blows 69 = .ok (.iadd, 1) := by decide +kernel
theorem dX8_blows_70 : decode cX8_blows 70 = .ok (.invokestatic 59, 3) := by decide +kernel
theorem dX8_blows_73 : decode cX8_blows 73 = .ok (.ifCond .ne 29, 3) := by decide +kernel
theorem dX8_blows_76 : decode cX8_blows 76 = .ok (.aload_n 1, 1) := by decide +kernel
theorem dX8_blows_77 : decode cX8_blows 77 = .ok (.iload 5, 2) := by decide +kernel
theorem dX8_blows_79 : decode cX8_blows 79 = .ok (.invokestatic 92, 3) := by decide +kernel
theorem dX8_blows_82 : decode cX8_blows 82 = .ok (.aload_n 0, 1) := by decide +kernel
theorem dX8_blows_83 : decode cX8_blows 83 = .ok (.getfield 33, 3) := by decide +kernel
theorem dX8_blows_86 : decode cX8_blows 86 = .ok (.iload 5, 2) := by decide +kernel
theorem dX8_blows_88 : decode cX8_blows 88 = .ok (.iaload, 1) := by decide +kernel
theorem dX8_blows_89 : decode cX8_blows 89 = .ok (.if_icmp .eq 13, 3) := by decide +kernel
theorem dX8_blows_92 : decode cX8_blows 92 = .ok (.aload_n 1, 1) := by decide +kernel
theorem dX8_blows_93 : decode cX8_blows 93 = .ok (.iload 5, 2) := by decide +kernel
theorem dX8_blows_95 : decode cX8_blows 95 = .ok (.iconst 0, 1) := by decide +kernel
theorem dX8_blows_96 : decode cX8_blows 96 = .ok (.invokestatic 95, 3) := by decide +kernel
theorem dX8_blows_99 : decode cX8_blows 99 = .ok (.iinc 4 1, 3) := by decide +kernel
theorem dX8_blows_102 : decode cX8_blows 102 = .ok (.iinc 5 1, 3) := by decide +kernel
theorem dX8_blows_105 : decode cX8_blows 105 = .ok (.goto (-59), 3) := by decide +kernel
theorem dX8_blows_108 : decode cX8_blows 108 = .ok (.iload 4, 2) := by decide +kernel
theorem dX8_blows_110 : decode cX8_blows 110 = .ok (.ireturn, 1) := by decide +kernel
theorem dX8_dropsTurn_0 : decode cX8_dropsTurn 0 = .ok (.aload_n 0, 1) := by decide +kernel
theorem dX8_dropsTurn_1 : decode cX8_dropsTurn 1 = .ok (.bipush 6, 2) := by decide +kernel
theorem dX8_dropsTurn_3 : decode cX8_dropsTurn 3 = .ok (.dup2, 1) := by decide +kernel
theorem dX8_dropsTurn_4 : decode cX8_dropsTurn 4 = .ok (.iaload, 1) := by decide +kernel
theorem dX8_dropsTurn_5 : decode cX8_dropsTurn 5 = .ok (.iconst 1, 1) := by decide +kernel
theorem dX8_dropsTurn_6 : decode cX8_dropsTurn 6 = .ok (.isub, 1) := by decide +kernel
theorem dX8_dropsTurn_7 : decode cX8_dropsTurn 7 = .ok (.iastore, 1) := by decide +kernel
theorem dX8_dropsTurn_8 : decode cX8_dropsTurn 8 = .ok (.bipush 84, 2) := by decide +kernel
theorem dX8_dropsTurn_10 : decode cX8_dropsTurn 10 = .ok (.iconst 3, 1) := by decide +kernel
theorem dX8_dropsTurn_11 : decode cX8_dropsTurn 11 = .ok (.iload_n 1, 1) := by decide +kernel
theorem dX8_dropsTurn_12 : decode cX8_dropsTurn 12 = .ok (.imul, 1) := by decide +kernel
theorem dX8_dropsTurn_13 : decode cX8_dropsTurn 13 = .ok (.iadd, 1) := by decide +kernel
theorem dX8_dropsTurn_14 : decode cX8_dropsTurn 14 = .ok (.istore_n 2, 1) := by decide +kernel
theorem dX8_dropsTurn_15 : decode cX8_dropsTurn 15 = .ok (.iload_n 2, 1) := by decide +kernel
theorem dX8_dropsTurn_16 : decode cX8_dropsTurn 16 = .ok (.bipush 84, 2) := by decide +kernel
theorem dX8_dropsTurn_18 : decode cX8_dropsTurn 18 = .ok (.iconst 3, 1) := by decide +kernel
theorem dX8_dropsTurn_19 : decode cX8_dropsTurn 19 = .ok (.aload_n 0, 1) := by decide +kernel
theorem dX8_dropsTurn_20 : decode cX8_dropsTurn 20 = .ok (.bipush 6, 2) := by decide +kernel
theorem dX8_dropsTurn_22 : decode cX8_dropsTurn 22 = .ok (.iaload, 1) := by decide +kernel
theorem dX8_dropsTurn_23 : decode cX8_dropsTurn 23 = .ok (.imul, 1) := by decide +kernel
theorem dX8_dropsTurn_24 : decode cX8_dropsTurn 24 = .ok (.iadd, 1) := by decide +kernel
theorem dX8_dropsTurn_25 : decode cX8_dropsTurn 25 = .ok (.if_icmp .ge 17, 3) := by decide +kernel
theorem dX8_dropsTurn_28 : decode cX8_dropsTurn 28 = .ok (.aload_n 0, 1) := by decide +kernel
theorem dX8_dropsTurn_29 : decode cX8_dropsTurn 29 = .ok (.iload_n 2, 1) := by decide +kernel
theorem dX8_dropsTurn_30 : decode cX8_dropsTurn 30 = .ok (.aload_n 0, 1) := by decide +kernel
theorem dX8_dropsTurn_31 : decode cX8_dropsTurn 31 = .ok (.iload_n 2, 1) := by decide +kernel
theorem dX8_dropsTurn_32 : decode cX8_dropsTurn 32 = .ok (.iconst 3, 1) := by decide +kernel
theorem dX8_dropsTurn_33 : decode cX8_dropsTurn 33 = .ok (.iadd, 1) := by decide +kernel
theorem dX8_dropsTurn_34 : decode cX8_dropsTurn 34 = .ok (.iaload, 1) := by decide +kernel
theorem dX8_dropsTurn_35 : decode cX8_dropsTurn 35 = .ok (.iastore, 1) := by decide +kernel
theorem dX8_dropsTurn_36 : decode cX8_dropsTurn 36 = .ok (.iinc 2 1, 3) := by decide +kernel
theorem dX8_dropsTurn_39 : decode cX8_dropsTurn 39 = .ok (.goto (-24), 3) := by decide +kernel
theorem dX8_dropsTurn_42 : decode cX8_dropsTurn 42 = .ok (.iconst 0, 1) := by decide +kernel
theorem dX8_dropsTurn_43 : decode cX8_dropsTurn 43 = .ok (.istore_n 2, 1) := by decide +kernel
theorem dX8_dropsTurn_44 : decode cX8_dropsTurn 44 = .ok (.iload_n 2, 1) := by decide +kernel
theorem dX8_dropsTurn_45 : decode cX8_dropsTurn 45 = .ok (.iconst 3, 1) := by decide +kernel
theorem dX8_dropsTurn_46 : decode cX8_dropsTurn 46 = .ok (.if_icmp .ge 23, 3) := by decide +kernel
theorem dX8_dropsTurn_49 : decode cX8_dropsTurn 49 = .ok (.aload_n 0, 1) := by decide +kernel
theorem dX8_dropsTurn_50 : decode cX8_dropsTurn 50 = .ok (.bipush 84, 2) := by decide +kernel
theorem dX8_dropsTurn_52 : decode cX8_dropsTurn 52 = .ok (.iconst 3, 1) := by decide +kernel
theorem dX8_dropsTurn_53 : decode cX8_dropsTurn 53 = .ok (.aload_n 0, 1) := by decide +kernel
theorem dX8_dropsTurn_54 : decode cX8_dropsTurn 54 = .ok (.bipush 6, 2) := by decide +kernel
theorem dX8_dropsTurn_56 : decode cX8_dropsTurn 56 = .ok (.iaload, 1) := by decide +kernel
theorem dX8_dropsTurn_57 : decode cX8_dropsTurn 57 = .ok (.imul, 1) := by decide +kernel
theorem dX8_dropsTurn_58 : decode cX8_dropsTurn 58 = .ok (.iadd, 1) := by decide +kernel
theorem dX8_dropsTurn_59 : decode cX8_dropsTurn 59 = .ok (.iload_n 2, 1) := by decide +kernel
theorem dX8_dropsTurn_60 : decode cX8_dropsTurn 60 = .ok (.iadd, 1) := by decide +kernel
theorem dX8_dropsTurn_61 : decode cX8_dropsTurn 61 = .ok (.iconst 0, 1) := by decide +kernel
theorem dX8_dropsTurn_62 : decode cX8_dropsTurn 62 = .ok (.iastore, 1) := by decide +kernel
theorem dX8_dropsTurn_63 : decode cX8_dropsTurn 63 = .ok (.iinc 2 1, 3) := by decide +kernel
theorem dX8_dropsTurn_66 : decode cX8_dropsTurn 66 = .ok (.goto (-22), 3) := by decide +kernel
theorem dX8_dropsTurn_69 : decode cX8_dropsTurn 69 = .ok (.return_, 1) := by decide +kernel
theorem dX8_minute_0 : decode cX8_minute 0 = .ok (.aload_n 1, 1) := by decide +kernel
theorem dX8_minute_1 : decode cX8_minute 1 = .ok (.iconst 1, 1) := by decide +kernel
theorem dX8_minute_2 : decode cX8_minute 2 = .ok (.dup2, 1) := by decide +kernel
theorem dX8_minute_3 : decode cX8_minute 3 = .ok (.iaload, 1) := by decide +kernel
theorem dX8_minute_4 : decode cX8_minute 4 = .ok (.iconst 1, 1) := by decide +kernel
theorem dX8_minute_5 : decode cX8_minute 5 = .ok (.iadd, 1) := by decide +kernel
theorem dX8_minute_6 : decode cX8_minute 6 = .ok (.iastore, 1) := by decide +kernel
theorem dX8_minute_7 : decode cX8_minute 7 = .ok (.iconst 0, 1) := by decide +kernel
theorem dX8_minute_8 : decode cX8_minute 8 = .ok (.istore_n 2, 1) := by decide +kernel
theorem dX8_minute_9 : decode cX8_minute 9 = .ok (.iload_n 2, 1) := by decide +kernel
theorem dX8_minute_10 : decode cX8_minute 10 = .ok (.aload_n 1, 1) := by decide +kernel
theorem dX8_minute_11 : decode cX8_minute 11 = .ok (.iconst 0, 1) := by decide +kernel
theorem dX8_minute_12 : decode cX8_minute 12 = .ok (.iaload, 1) := by decide +kernel
theorem dX8_minute_13 : decode cX8_minute 13 = .ok (.if_icmp .ge 31, 3) := by decide +kernel
theorem dX8_minute_16 : decode cX8_minute 16 = .ok (.aload_n 1, 1) := by decide +kernel
theorem dX8_minute_17 : decode cX8_minute 17 = .ok (.iload_n 2, 1) := by decide +kernel
theorem dX8_minute_18 : decode cX8_minute 18 = .ok (.invokestatic 59, 3) := by decide +kernel
theorem dX8_minute_21 : decode cX8_minute 21 = .ok (.ifCond .eq 17, 3) := by decide +kernel
theorem dX8_minute_24 : decode cX8_minute 24 = .ok (.aload_n 1, 1) := by decide +kernel
theorem dX8_minute_25 : decode cX8_minute 25 = .ok (.iload_n 2, 1) := by decide +kernel
theorem dX8_minute_26 : decode cX8_minute 26 = .ok (.iconst 4, 1) := by decide +kernel
theorem dX8_minute_27 : decode cX8_minute 27 = .ok (.aload_n 1, 1) := by decide +kernel
theorem dX8_minute_28 : decode cX8_minute 28 = .ok (.iload_n 2, 1) := by decide +kernel
theorem dX8_minute_29 : decode cX8_minute 29 = .ok (.iconst 4, 1) := by decide +kernel
theorem dX8_minute_30 : decode cX8_minute 30 = .ok (.invokestatic 51, 3) := by decide +kernel
theorem dX8_minute_33 : decode cX8_minute 33 = .ok (.iconst 1, 1) := by decide +kernel
theorem dX8_minute_34 : decode cX8_minute 34 = .ok (.isub, 1) := by decide +kernel
theorem dX8_minute_35 : decode cX8_minute 35 = .ok (.invokestatic 84, 3) := by decide +kernel
theorem dX8_minute_38 : decode cX8_minute 38 = .ok (.iinc 2 1, 3) := by decide +kernel
theorem dX8_minute_41 : decode cX8_minute 41 = .ok (.goto (-32), 3) := by decide +kernel
theorem dX8_minute_44 : decode cX8_minute 44 = .ok (.aload_n 1, 1) := by decide +kernel
theorem dX8_minute_45 : decode cX8_minute 45 = .ok (.bipush 6, 2) := by decide +kernel
theorem dX8_minute_47 : decode cX8_minute 47 = .ok (.iaload, 1) := by decide +kernel
theorem dX8_minute_48 : decode cX8_minute 48 = .ok (.ifCond .eq 13, 3) := by decide +kernel
theorem dX8_minute_51 : decode cX8_minute 51 = .ok (.aload_n 1, 1) := by decide +kernel
theorem dX8_minute_52 : decode cX8_minute 52 = .ok (.bipush 84, 2) := by decide +kernel
theorem dX8_minute_54 : decode cX8_minute 54 = .ok (.iaload, 1) := by decide +kernel
theorem dX8_minute_55 : decode cX8_minute 55 = .ok (.aload_n 1, 1) := by decide +kernel
theorem dX8_minute_56 : decode cX8_minute 56 = .ok (.iconst 1, 1) := by decide +kernel
theorem dX8_minute_57 : decode cX8_minute 57 = .ok (.iaload, 1) := by decide +kernel
theorem dX8_minute_58 : decode cX8_minute 58 = .ok (.if_icmp .eq 5, 3) := by decide +kernel
theorem dX8_minute_61 : decode cX8_minute 61 = .ok (.iconst 0, 1) := by decide +kernel
theorem dX8_minute_62 : decode cX8_minute 62 = .ok (.ireturn, 1) := by decide +kernel
theorem dX8_minute_63 : decode cX8_minute 63 = .ok (.aload_n 1, 1) := by decide +kernel
theorem dX8_minute_64 : decode cX8_minute 64 = .ok (.bipush 85, 2) := by decide +kernel
theorem dX8_minute_66 : decode cX8_minute 66 = .ok (.iaload, 1) := by decide +kernel
theorem dX8_minute_67 : decode cX8_minute 67 = .ok (.istore_n 2, 1) := by decide +kernel
theorem dX8_minute_68 : decode cX8_minute 68 = .ok (.aload_n 1, 1) := by decide +kernel
theorem dX8_minute_69 : decode cX8_minute 69 = .ok (.bipush 86, 2) := by decide +kernel
theorem dX8_minute_71 : decode cX8_minute 71 = .ok (.iaload, 1) := by decide +kernel
theorem dX8_minute_72 : decode cX8_minute 72 = .ok (.istore_n 3, 1) := by decide +kernel
theorem dX8_minute_73 : decode cX8_minute 73 = .ok (.aload_n 1, 1) := by decide +kernel
theorem dX8_minute_74 : decode cX8_minute 74 = .ok (.iconst 0, 1) := by decide +kernel
theorem dX8_minute_75 : decode cX8_minute 75 = .ok (.invokestatic 98, 3) := by decide +kernel
theorem dX8_minute_78 : decode cX8_minute 78 = .ok (.aload_n 0, 1) := by decide +kernel
theorem dX8_minute_79 : decode cX8_minute 79 = .ok (.aload_n 1, 1) := by decide +kernel
theorem dX8_minute_80 : decode cX8_minute 80 = .ok (.iload_n 2, 1) := by decide +kernel
theorem dX8_minute_81 : decode cX8_minute 81 = .ok (.iload_n 3, 1) := by decide +kernel
theorem dX8_minute_82 : decode cX8_minute 82 = .ok (.invokevirtual 102, 3) := by decide +kernel
theorem dX8_minute_85 : decode cX8_minute 85 = .ok (.ireturn, 1) := by decide +kernel
theorem dX8_trades_0 : decode cX8_trades 0 = .ok (.aload_n 1, 1) := by decide +kernel
theorem dX8_trades_1 : decode cX8_trades 1 = .ok (.iload_n 2, 1) := by decide +kernel
theorem dX8_trades_2 : decode cX8_trades 2 = .ok (.invokestatic 105, 3) := by decide +kernel
theorem dX8_trades_5 : decode cX8_trades 5 = .ok (.istore_n 3, 1) := by decide +kernel
theorem dX8_trades_6 : decode cX8_trades 6 = .ok (.aload_n 1, 1) := by decide +kernel
theorem dX8_trades_7 : decode cX8_trades 7 = .ok (.iload_n 2, 1) := by decide +kernel
theorem dX8_trades_8 : decode cX8_trades 8 = .ok (.invokestatic 108, 3) := by decide +kernel
theorem dX8_trades_11 : decode cX8_trades 11 = .ok (.aload_n 1, 1) := by decide +kernel
theorem dX8_trades_12 : decode cX8_trades 12 = .ok (.iload_n 2, 1) := by decide +kernel
theorem dX8_trades_13 : decode cX8_trades 13 = .ok (.iconst 5, 1) := by decide +kernel
theorem dX8_trades_14 : decode cX8_trades 14 = .ok (.aload_n 1, 1) := by decide +kernel
theorem dX8_trades_15 : decode cX8_trades 15 = .ok (.iload_n 2, 1) := by decide +kernel
theorem dX8_trades_16 : decode cX8_trades 16 = .ok (.iconst 5, 1) := by decide +kernel
theorem dX8_trades_17 : decode cX8_trades 17 = .ok (.invokestatic 51, 3) := by decide +kernel
theorem dX8_trades_20 : decode cX8_trades 20 = .ok (.iconst 1, 1) := by decide +kernel
theorem dX8_trades_21 : decode cX8_trades 21 = .ok (.iadd, 1) := by decide +kernel
theorem dX8_trades_22 : decode cX8_trades 22 = .ok (.invokestatic 84, 3) := by decide +kernel
theorem dX8_trades_25 : decode cX8_trades 25 = .ok (.aload_n 1, 1) := by decide +kernel
theorem dX8_trades_26 : decode cX8_trades 26 = .ok (.iload_n 2, 1) := by decide +kernel
theorem dX8_trades_27 : decode cX8_trades 27 = .ok (.iconst 1, 1) := by decide +kernel
theorem dX8_trades_28 : decode cX8_trades 28 = .ok (.iadd, 1) := by decide +kernel
theorem dX8_trades_29 : decode cX8_trades 29 = .ok (.iconst 5, 1) := by decide +kernel
theorem dX8_trades_30 : decode cX8_trades 30 = .ok (.aload_n 1, 1) := by decide +kernel
theorem dX8_trades_31 : decode cX8_trades 31 = .ok (.iload_n 2, 1) := by decide +kernel
theorem dX8_trades_32 : decode cX8_trades 32 = .ok (.iconst 1, 1) := by decide +kernel
theorem dX8_trades_33 : decode cX8_trades 33 = .ok (.iadd, 1) := by decide +kernel
theorem dX8_trades_34 : decode cX8_trades 34 = .ok (.iconst 5, 1) := by decide +kernel
theorem dX8_trades_35 : decode cX8_trades 35 = .ok (.invokestatic 51, 3) := by decide +kernel
theorem dX8_trades_38 : decode cX8_trades 38 = .ok (.iconst 1, 1) := by decide +kernel
theorem dX8_trades_39 : decode cX8_trades 39 = .ok (.iadd, 1) := by decide +kernel
theorem dX8_trades_40 : decode cX8_trades 40 = .ok (.invokestatic 84, 3) := by decide +kernel
theorem dX8_trades_43 : decode cX8_trades 43 = .ok (.aload_n 1, 1) := by decide +kernel
theorem dX8_trades_44 : decode cX8_trades 44 = .ok (.bipush 8, 2) := by decide +kernel
theorem dX8_trades_46 : decode cX8_trades 46 = .ok (.dup2, 1) := by decide +kernel
theorem dX8_trades_47 : decode cX8_trades 47 = .ok (.iaload, 1) := by decide +kernel
theorem dX8_trades_48 : decode cX8_trades 48 = .ok (.iconst 1, 1) := by decide +kernel
theorem dX8_trades_49 : decode cX8_trades 49 = .ok (.iadd, 1) := by decide +kernel
theorem dX8_trades_50 : decode cX8_trades 50 = .ok (.iastore, 1) := by decide +kernel
theorem dX8_trades_51 : decode cX8_trades 51 = .ok (.iload_n 3, 1) := by decide +kernel
theorem dX8_trades_52 : decode cX8_trades 52 = .ok (.ifCond .eq 9, 3) := by decide +kernel
theorem dX8_trades_55 : decode cX8_trades 55 = .ok (.aload_n 1, 1) := by decide +kernel
theorem dX8_trades_56 : decode cX8_trades 56 = .ok (.iload_n 2, 1) := by decide +kernel
theorem dX8_trades_57 : decode cX8_trades 57 = .ok (.iconst 1, 1) := by decide +kernel
theorem dX8_trades_58 : decode cX8_trades 58 = .ok (.invokestatic 95, 3) := by decide +kernel
theorem dX8_trades_61 : decode cX8_trades 61 = .ok (.aload_n 0, 1) := by decide +kernel
theorem dX8_trades_62 : decode cX8_trades 62 = .ok (.aload_n 1, 1) := by decide +kernel
theorem dX8_trades_63 : decode cX8_trades 63 = .ok (.invokevirtual 111, 3) := by decide +kernel
theorem dX8_trades_66 : decode cX8_trades 66 = .ok (.istore 4, 2) := by decide +kernel
theorem dX8_trades_68 : decode cX8_trades 68 = .ok (.iload_n 3, 1) := by decide +kernel
theorem dX8_trades_69 : decode cX8_trades 69 = .ok (.ifCond .eq 12, 3) := by decide +kernel
theorem dX8_trades_72 : decode cX8_trades 72 = .ok (.iload 4, 2) := by decide +kernel
theorem dX8_trades_74 : decode cX8_trades 74 = .ok (.ifCond .lt 7, 3) := by decide +kernel
theorem dX8_trades_77 : decode cX8_trades 77 = .ok (.iconst 1, 1) := by decide +kernel
theorem dX8_trades_78 : decode cX8_trades 78 = .ok (.goto 4, 3) := by decide +kernel
theorem dX8_trades_81 : decode cX8_trades 81 = .ok (.iconst 0, 1) := by decide +kernel
theorem dX8_trades_82 : decode cX8_trades 82 = .ok (.ireturn, 1) := by decide +kernel
theorem dX8_isSafe_0 : decode cX8_isSafe 0 = .ok (.aload_n 0, 1) := by decide +kernel
theorem dX8_isSafe_1 : decode cX8_isSafe 1 = .ok (.iload_n 1, 1) := by decide +kernel
theorem dX8_isSafe_2 : decode cX8_isSafe 2 = .ok (.invokestatic 59, 3) := by decide +kernel
theorem dX8_isSafe_5 : decode cX8_isSafe 5 = .ok (.ifCond .ne 25, 3) := by decide +kernel
theorem dX8_isSafe_8 : decode cX8_isSafe 8 = .ok (.aload_n 0, 1) := by decide +kernel
theorem dX8_isSafe_9 : decode cX8_isSafe 9 = .ok (.iload_n 1, 1) := by decide +kernel
theorem dX8_isSafe_10 : decode cX8_isSafe 10 = .ok (.iconst 1, 1) := by decide +kernel
theorem dX8_isSafe_11 : decode cX8_isSafe 11 = .ok (.iadd, 1) := by decide +kernel
theorem dX8_isSafe_12 : decode cX8_isSafe 12 = .ok (.invokestatic 59, 3) := by decide +kernel
theorem dX8_isSafe_15 : decode cX8_isSafe 15 = .ok (.ifCond .ne 15, 3) := by decide +kernel
theorem dX8_isSafe_18 : decode cX8_isSafe 18 = .ok (.aload_n 0, 1) := by decide +kernel
theorem dX8_isSafe_19 : decode cX8_isSafe 19 = .ok (.iload_n 1, 1) := by decide +kernel
theorem dX8_isSafe_20 : decode cX8_isSafe 20 = .ok (.invokestatic 105, 3) := by decide +kernel
theorem dX8_isSafe_23 : decode cX8_isSafe 23 = .ok (.ifCond .ne 7, 3) := by decide +kernel
theorem dX8_isSafe_26 : decode cX8_isSafe 26 = .ok (.iconst 1, 1) := by decide +kernel
theorem dX8_isSafe_27 : decode cX8_isSafe 27 = .ok (.goto 4, 3) := by decide +kernel
theorem dX8_isSafe_30 : decode cX8_isSafe 30 = .ok (.iconst 0, 1) := by decide +kernel
theorem dX8_isSafe_31 : decode cX8_isSafe 31 = .ok (.ireturn, 1) := by decide +kernel
theorem dX8_behind_0 : decode cX8_behind 0 = .ok (.aload_n 1, 1) := by decide +kernel
theorem dX8_behind_1 : decode cX8_behind 1 = .ok (.iconst 0, 1) := by decide +kernel
theorem dX8_behind_2 : decode cX8_behind 2 = .ok (.aload_n 0, 1) := by decide +kernel
theorem dX8_behind_3 : decode cX8_behind 3 = .ok (.getfield 36, 3) := by decide +kernel
theorem dX8_behind_6 : decode cX8_behind 6 = .ok (.iconst 0, 1) := by decide +kernel
theorem dX8_behind_7 : decode cX8_behind 7 = .ok (.invokestatic 43, 3) := by decide +kernel
theorem dX8_behind_10 : decode cX8_behind 10 = .ok (.aload_n 0, 1) := by decide +kernel
theorem dX8_behind_11 : decode cX8_behind 11 = .ok (.getfield 36, 3) := by decide +kernel
theorem dX8_behind_14 : decode cX8_behind 14 = .ok (.iload_n 2, 1) := by decide +kernel
theorem dX8_behind_15 : decode cX8_behind 15 = .ok (.invokestatic 108, 3) := by decide +kernel
theorem dX8_behind_18 : decode cX8_behind 18 = .ok (.aload_n 0, 1) := by decide +kernel
theorem dX8_behind_19 : decode cX8_behind 19 = .ok (.aload_n 0, 1) := by decide +kernel
theorem dX8_behind_20 : decode cX8_behind 20 = .ok (.getfield 36, 3) := by decide +kernel
theorem dX8_behind_23 : decode cX8_behind 23 = .ok (.invokevirtual 114, 3) := by decide +kernel
theorem dX8_behind_26 : decode cX8_behind 26 = .ok (.ireturn, 1) := by decide +kernel
theorem dX8_next_0 : decode cX8_next 0 = .ok (.aload_n 0, 1) := by decide +kernel
theorem dX8_next_1 : decode cX8_next 1 = .ok (.aload_n 1, 1) := by decide +kernel
theorem dX8_next_2 : decode cX8_next 2 = .ok (.invokevirtual 114, 3) := by decide +kernel
theorem dX8_next_5 : decode cX8_next 5 = .ok (.istore_n 2, 1) := by decide +kernel
theorem dX8_next_6 : decode cX8_next 6 = .ok (.iconst 0, 1) := by decide +kernel
theorem dX8_next_7 : decode cX8_next 7 = .ok (.istore_n 3, 1) := by decide +kernel
theorem dX8_next_8 : decode cX8_next 8 = .ok (.iload_n 3, 1) := by decide +kernel
theorem dX8_next_9 : decode cX8_next 9 = .ok (.aload_n 1, 1) := by decide +kernel
theorem dX8_next_10 : decode cX8_next 10 = .ok (.iconst 0, 1) := by decide +kernel
theorem dX8_next_11 : decode cX8_next 11 = .ok (.iaload, 1) := by decide +kernel
theorem dX8_next_12 : decode cX8_next 12 = .ok (.iconst 1, 1) := by decide +kernel
theorem dX8_next_13 : decode cX8_next 13 = .ok (.isub, 1) := by decide +kernel
theorem dX8_next_14 : decode cX8_next 14 = .ok (.if_icmp .ge 35, 3) := by decide +kernel
theorem dX8_next_17 : decode cX8_next 17 = .ok (.iload_n 2, 1) := by decide +kernel
theorem dX8_next_18 : decode cX8_next 18 = .ok (.ldc 69, 2) := by decide +kernel
theorem dX8_next_20 : decode cX8_next 20 = .ok (.if_icmp .eq 29, 3) := by decide +kernel
theorem dX8_next_23 : decode cX8_next 23 = .ok (.aload_n 1, 1) := by decide +kernel
theorem dX8_next_24 : decode cX8_next 24 = .ok (.iload_n 3, 1) := by decide +kernel
theorem dX8_next_25 : decode cX8_next 25 = .ok (.invokestatic 117, 3) := by decide +kernel
theorem dX8_next_28 : decode cX8_next 28 = .ok (.ifCond .eq 15, 3) := by decide +kernel
theorem dX8_next_31 : decode cX8_next 31 = .ok (.aload_n 0, 1) := by decide +kernel
theorem dX8_next_32 : decode cX8_next 32 = .ok (.aload_n 1, 1) := by decide +kernel
theorem dX8_next_33 : decode cX8_next 33 = .ok (.iload_n 3, 1) := by decide +kernel
theorem dX8_next_34 : decode cX8_next 34 = .ok (.invokevirtual 120, 3) := by decide +kernel
theorem dX8_next_37 : decode cX8_next 37 = .ok (.iload_n 2, 1) := by decide +kernel
theorem dX8_next_38 : decode cX8_next 38 = .ok (.if_icmp .ge 5, 3) := by decide +kernel
theorem dX8_next_41 : decode cX8_next 41 = .ok (.iload_n 3, 1) := by decide +kernel
theorem dX8_next_42 : decode cX8_next 42 = .ok (.ireturn, 1) := by decide +kernel
theorem dX8_next_43 : decode cX8_next 43 = .ok (.iinc 3 1, 3) := by decide +kernel
theorem dX8_next_46 : decode cX8_next 46 = .ok (.goto (-38), 3) := by decide +kernel
theorem dX8_next_49 : decode cX8_next 49 = .ok (.ldc 69, 2) := by decide +kernel
theorem dX8_next_51 : decode cX8_next 51 = .ok (.ireturn, 1) := by decide +kernel
theorem dX8_isRoom_0 : decode cX8_isRoom 0 = .ok (.aload_n 0, 1) := by decide +kernel
theorem dX8_isRoom_1 : decode cX8_isRoom 1 = .ok (.getfield 7, 3) := by decide +kernel
theorem dX8_isRoom_4 : decode cX8_isRoom 4 = .ok (.iconst 0, 1) := by decide +kernel
theorem dX8_isRoom_5 : decode cX8_isRoom 5 = .ok (.iaload, 1) := by decide +kernel
theorem dX8_isRoom_6 : decode cX8_isRoom 6 = .ok (.iload_n 1, 1) := by decide +kernel
theorem dX8_isRoom_7 : decode cX8_isRoom 7 = .ok (.iadd, 1) := by decide +kernel
theorem dX8_isRoom_8 : decode cX8_isRoom 8 = .ok (.bipush 12, 2) := by decide +kernel
theorem dX8_isRoom_10 : decode cX8_isRoom 10 = .ok (.if_icmp .gt 21, 3) := by decide +kernel
theorem dX8_isRoom_13 : decode cX8_isRoom 13 = .ok (.aload_n 0, 1) := by decide +kernel
theorem dX8_isRoom_14 : decode cX8_isRoom 14 = .ok (.getfield 7, 3) := by decide +kernel
theorem dX8_isRoom_17 : decode cX8_isRoom 17 = .ok (.bipush 10, 2) := by decide +kernel
theorem dX8_isRoom_19 : decode cX8_isRoom 19 = .ok (.iaload, 1) := by decide +kernel
theorem dX8_isRoom_20 : decode cX8_isRoom 20 = .ok (.iload_n 1, 1) := by decide +kernel
theorem dX8_isRoom_21 : decode cX8_isRoom 21 = .ok (.iadd, 1) := by decide +kernel
theorem dX8_isRoom_22 : decode cX8_isRoom 22 = .ok (.bipush 99, 2) := by decide +kernel
theorem dX8_isRoom_24 : decode cX8_isRoom 24 = .ok (.if_icmp .gt 7, 3) := by decide +kernel
theorem dX8_isRoom_27 : decode cX8_isRoom 27 = .ok (.iconst 1, 1) := by decide +kernel
theorem dX8_isRoom_28 : decode cX8_isRoom 28 = .ok (.goto 4, 3) := by decide +kernel
theorem dX8_isRoom_31 : decode cX8_isRoom 31 = .ok (.iconst 0, 1) := by decide +kernel
theorem dX8_isRoom_32 : decode cX8_isRoom 32 = .ok (.ireturn, 1) := by decide +kernel
theorem dX8_comes_0 : decode cX8_comes 0 = .ok (.aload_n 0, 1) := by decide +kernel
theorem dX8_comes_1 : decode cX8_comes 1 = .ok (.getfield 7, 3) := by decide +kernel
theorem dX8_comes_4 : decode cX8_comes 4 = .ok (.iconst 0, 1) := by decide +kernel
theorem dX8_comes_5 : decode cX8_comes 5 = .ok (.iaload, 1) := by decide +kernel
theorem dX8_comes_6 : decode cX8_comes 6 = .ok (.istore_n 3, 1) := by decide +kernel
theorem dX8_comes_7 : decode cX8_comes 7 = .ok (.aload_n 0, 1) := by decide +kernel
theorem dX8_comes_8 : decode cX8_comes 8 = .ok (.getfield 7, 3) := by decide +kernel
theorem dX8_comes_11 : decode cX8_comes 11 = .ok (.iload_n 3, 1) := by decide +kernel
theorem dX8_comes_12 : decode cX8_comes 12 = .ok (.iconst 0, 1) := by decide +kernel
theorem dX8_comes_13 : decode cX8_comes 13 = .ok (.aload_n 0, 1) := by decide +kernel
theorem dX8_comes_14 : decode cX8_comes 14 = .ok (.getfield 7, 3) := by decide +kernel
theorem dX8_comes_17 : decode cX8_comes 17 = .ok (.bipush 10, 2) := by decide +kernel
theorem dX8_comes_19 : decode cX8_comes 19 = .ok (.iaload, 1) := by decide +kernel
theorem dX8_comes_20 : decode cX8_comes 20 = .ok (.invokestatic 84, 3) := by decide +kernel
theorem dX8_comes_23 : decode cX8_comes 23 = .ok (.aload_n 0, 1) := by decide +kernel
theorem dX8_comes_24 : decode cX8_comes 24 = .ok (.getfield 7, 3) := by decide +kernel
theorem dX8_comes_27 : decode cX8_comes 27 = .ok (.iload_n 3, 1) := by decide +kernel
theorem dX8_comes_28 : decode cX8_comes 28 = .ok (.iconst 1, 1) := by decide +kernel
theorem dX8_comes_29 : decode cX8_comes 29 = .ok (.iload_n 1, 1) := by decide +kernel
theorem dX8_comes_30 : decode cX8_comes 30 = .ok (.invokestatic 84, 3) := by decide +kernel
theorem dX8_comes_33 : decode cX8_comes 33 = .ok (.aload_n 0, 1) := by decide +kernel
theorem dX8_comes_34 : decode cX8_comes 34 = .ok (.getfield 7, 3) := by decide +kernel
theorem dX8_comes_37 : decode cX8_comes 37 = .ok (.iload_n 3, 1) := by decide +kernel
theorem dX8_comes_38 : decode cX8_comes 38 = .ok (.iconst 2, 1) := by decide +kernel
theorem dX8_comes_39 : decode cX8_comes 39 = .ok (.iload_n 2, 1) := by decide +kernel
theorem dX8_comes_40 : decode cX8_comes 40 = .ok (.invokestatic 84, 3) := by decide +kernel
theorem dX8_comes_43 : decode cX8_comes 43 = .ok (.aload_n 0, 1) := by decide +kernel
theorem dX8_comes_44 : decode cX8_comes 44 = .ok (.getfield 7, 3) := by decide +kernel
theorem dX8_comes_47 : decode cX8_comes 47 = .ok (.iload_n 3, 1) := by decide +kernel
theorem dX8_comes_48 : decode cX8_comes 48 = .ok (.iconst 3, 1) := by decide +kernel
theorem dX8_comes_49 : decode cX8_comes 49 = .ok (.iconst 0, 1) := by decide +kernel
theorem dX8_comes_50 : decode cX8_comes 50 = .ok (.invokestatic 84, 3) := by decide +kernel
theorem dX8_comes_53 : decode cX8_comes 53 = .ok (.aload_n 0, 1) := by decide +kernel
theorem dX8_comes_54 : decode cX8_comes 54 = .ok (.getfield 7, 3) := by decide +kernel
theorem dX8_comes_57 : decode cX8_comes 57 = .ok (.iload_n 3, 1) := by decide +kernel
theorem dX8_comes_58 : decode cX8_comes 58 = .ok (.iconst 4, 1) := by decide +kernel
theorem dX8_comes_59 : decode cX8_comes 59 = .ok (.iconst 0, 1) := by decide +kernel
theorem dX8_comes_60 : decode cX8_comes 60 = .ok (.invokestatic 84, 3) := by decide +kernel
theorem dX8_comes_63 : decode cX8_comes 63 = .ok (.aload_n 0, 1) := by decide +kernel
theorem dX8_comes_64 : decode cX8_comes 64 = .ok (.getfield 7, 3) := by decide +kernel
theorem dX8_comes_67 : decode cX8_comes 67 = .ok (.iload_n 3, 1) := by decide +kernel
theorem dX8_comes_68 : decode cX8_comes 68 = .ok (.iconst 5, 1) := by decide +kernel
theorem dX8_comes_69 : decode cX8_comes 69 = .ok (.iconst 0, 1) := by decide +kernel
theorem dX8_comes_70 : decode cX8_comes 70 = .ok (.invokestatic 84, 3) := by decide +kernel
theorem dX8_comes_73 : decode cX8_comes 73 = .ok (.aload_n 0, 1) := by decide +kernel
theorem dX8_comes_74 : decode cX8_comes 74 = .ok (.getfield 7, 3) := by decide +kernel
theorem dX8_comes_77 : decode cX8_comes 77 = .ok (.iconst 0, 1) := by decide +kernel
theorem dX8_comes_78 : decode cX8_comes 78 = .ok (.dup2, 1) := by decide +kernel
theorem dX8_comes_79 : decode cX8_comes 79 = .ok (.iaload, 1) := by decide +kernel
theorem dX8_comes_80 : decode cX8_comes 80 = .ok (.iconst 1, 1) := by decide +kernel
theorem dX8_comes_81 : decode cX8_comes 81 = .ok (.iadd, 1) := by decide +kernel
theorem dX8_comes_82 : decode cX8_comes 82 = .ok (.iastore, 1) := by decide +kernel
theorem dX8_comes_83 : decode cX8_comes 83 = .ok (.aload_n 0, 1) := by decide +kernel
theorem dX8_comes_84 : decode cX8_comes 84 = .ok (.getfield 7, 3) := by decide +kernel
theorem dX8_comes_87 : decode cX8_comes 87 = .ok (.bipush 10, 2) := by decide +kernel
theorem dX8_comes_89 : decode cX8_comes 89 = .ok (.dup2, 1) := by decide +kernel
theorem dX8_comes_90 : decode cX8_comes 90 = .ok (.iaload, 1) := by decide +kernel
theorem dX8_comes_91 : decode cX8_comes 91 = .ok (.iconst 1, 1) := by decide +kernel
theorem dX8_comes_92 : decode cX8_comes 92 = .ok (.iadd, 1) := by decide +kernel
theorem dX8_comes_93 : decode cX8_comes 93 = .ok (.iastore, 1) := by decide +kernel
theorem dX8_comes_94 : decode cX8_comes 94 = .ok (.return_, 1) := by decide +kernel
theorem dX8_come_0 : decode cX8_come 0 = .ok (.iload_n 1, 1) := by decide +kernel
theorem dX8_come_1 : decode cX8_come 1 = .ok (.bipush 97, 2) := by decide +kernel
theorem dX8_come_3 : decode cX8_come 3 = .ok (.bipush 122, 2) := by decide +kernel
theorem dX8_come_5 : decode cX8_come 5 = .ok (.invokestatic 47, 3) := by decide +kernel
theorem dX8_come_8 : decode cX8_come 8 = .ok (.ifCond .eq 13, 3) := by decide +kernel
theorem dX8_come_11 : decode cX8_come 11 = .ok (.iload_n 2, 1) := by decide +kernel
theorem dX8_come_12 : decode cX8_come 12 = .ok (.iconst 1, 1) := by decide +kernel
theorem dX8_come_13 : decode cX8_come 13 = .ok (.bipush 9, 2) := by decide +kernel
theorem dX8_come_15 : decode cX8_come 15 = .ok (.invokestatic 47, 3) := by decide +kernel
theorem dX8_come_18 : decode cX8_come 18 = .ok (.ifCond .ne 6, 3) := by decide +kernel
theorem dX8_come_21 : decode cX8_come 21 = .ok (.ldc 123, 2) := by decide +kernel
theorem dX8_come_23 : decode cX8_come 23 = .ok (.ireturn, 1) := by decide +kernel
theorem dX8_come_24 : decode cX8_come 24 = .ok (.aload_n 0, 1) := by decide +kernel
theorem dX8_come_25 : decode cX8_come 25 = .ok (.iconst 1, 1) := by decide +kernel
theorem dX8_come_26 : decode cX8_come 26 = .ok (.invokevirtual 124, 3) := by decide +kernel
theorem dX8_come_29 : decode cX8_come 29 = .ok (.ifCond .ne 6, 3) := by decide +kernel
theorem dX8_come_32 : decode cX8_come 32 = .ok (.ldc 128, 2) := by decide +kernel
theorem dX8_come_34 : decode cX8_come 34 = .ok (.ireturn, 1) := by decide +kernel
theorem dX8_come_35 : decode cX8_come 35 = .ok (.aload_n 0, 1) := by decide +kernel
theorem dX8_come_36 : decode cX8_come 36 = .ok (.invokevirtual 129, 3) := by decide +kernel
theorem dX8_come_39 : decode cX8_come 39 = .ok (.aload_n 0, 1) := by decide +kernel
theorem dX8_come_40 : decode cX8_come 40 = .ok (.iload_n 1, 1) := by decide +kernel
theorem dX8_come_41 : decode cX8_come 41 = .ok (.iload_n 2, 1) := by decide +kernel
theorem dX8_come_42 : decode cX8_come 42 = .ok (.invokevirtual 132, 3) := by decide +kernel
theorem dX8_come_45 : decode cX8_come 45 = .ok (.aload_n 0, 1) := by decide +kernel
theorem dX8_come_46 : decode cX8_come 46 = .ok (.getfield 7, 3) := by decide +kernel
theorem dX8_come_49 : decode cX8_come 49 = .ok (.iconst 0, 1) := by decide +kernel
theorem dX8_come_50 : decode cX8_come 50 = .ok (.iaload, 1) := by decide +kernel
theorem dX8_come_51 : decode cX8_come 51 = .ok (.iconst 1, 1) := by decide +kernel
theorem dX8_come_52 : decode cX8_come 52 = .ok (.isub, 1) := by decide +kernel
theorem dX8_come_53 : decode cX8_come 53 = .ok (.ireturn, 1) := by decide +kernel
theorem dX8_readRow_0 : decode cX8_readRow 0 = .ok (.aload_n 0, 1) := by decide +kernel
theorem dX8_readRow_1 : decode cX8_readRow 1 = .ok (.invokevirtual 136, 3) := by decide +kernel
theorem dX8_readRow_4 : decode cX8_readRow 4 = .ok (.istore_n 1, 1) := by decide +kernel
theorem dX8_readRow_5 : decode cX8_readRow 5 = .ok (.iload_n 1, 1) := by decide +kernel
theorem dX8_readRow_6 : decode cX8_readRow 6 = .ok (.ldc 69, 2) := by decide +kernel
theorem dX8_readRow_8 : decode cX8_readRow 8 = .ok (.if_icmp .eq 8, 3) := by decide +kernel
theorem dX8_readRow_11 : decode cX8_readRow 11 = .ok (.ldc 140, 2) := by decide +kernel
theorem dX8_readRow_13 : decode cX8_readRow 13 = .ok (.iload_n 1, 1) := by decide +kernel
theorem dX8_readRow_14 : decode cX8_readRow 14 = .ok (.isub, 1) := by decide +kernel
theorem dX8_readRow_15 : decode cX8_readRow 15 = .ok (.ireturn, 1) := by decide +kernel
theorem dX8_readRow_16 : decode cX8_readRow 16 = .ok (.aload_n 0, 1) := by decide +kernel
theorem dX8_readRow_17 : decode cX8_readRow 17 = .ok (.getfield 141, 3) := by decide +kernel
theorem dX8_readRow_20 : decode cX8_readRow 20 = .ok (.iconst 1, 1) := by decide +kernel
theorem dX8_readRow_21 : decode cX8_readRow 21 = .ok (.iadd, 1) := by decide +kernel
theorem dX8_readRow_22 : decode cX8_readRow 22 = .ok (.iconst 3, 1) := by decide +kernel
theorem dX8_readRow_23 : decode cX8_readRow 23 = .ok (.idiv, 1) := by decide +kernel
theorem dX8_readRow_24 : decode cX8_readRow 24 = .ok (.istore_n 2, 1) := by decide +kernel
theorem dX8_readRow_25 : decode cX8_readRow 25 = .ok (.aload_n 0, 1) := by decide +kernel
theorem dX8_readRow_26 : decode cX8_readRow 26 = .ok (.iload_n 2, 1) := by decide +kernel
theorem dX8_readRow_27 : decode cX8_readRow 27 = .ok (.invokevirtual 124, 3) := by decide +kernel
theorem dX8_readRow_30 : decode cX8_readRow 30 = .ok (.ifCond .ne 6, 3) := by decide +kernel
theorem dX8_readRow_33 : decode cX8_readRow 33 = .ok (.ldc 128, 2) := by decide +kernel
theorem dX8_readRow_35 : decode cX8_readRow 35 = .ok (.ireturn, 1) := by decide +kernel
theorem dX8_readRow_36 : decode cX8_readRow 36 = .ok (.aload_n 0, 1) := by decide +kernel
theorem dX8_readRow_37 : decode cX8_readRow 37 = .ok (.invokevirtual 129, 3) := by decide +kernel
theorem dX8_readRow_40 : decode cX8_readRow 40 = .ok (.iconst 0, 1) := by decide +kernel
theorem dX8_readRow_41 : decode cX8_readRow 41 = .ok (.istore_n 3, 1) := by decide +kernel
theorem dX8_readRow_42 : decode cX8_readRow 42 = .ok (.iload_n 3, 1) := by decide +kernel
theorem dX8_readRow_43 : decode cX8_readRow 43 = .ok (.iload_n 2, 1) := by decide +kernel
theorem dX8_readRow_44 : decode cX8_readRow 44 = .ok (.if_icmp .ge 34, 3) := by decide +kernel
theorem dX8_readRow_47 : decode cX8_readRow 47 = .ok (.aload_n 0, 1) := by decide +kernel
theorem dX8_readRow_48 : decode cX8_readRow 48 = .ok (.aload_n 0, 1) := by decide +kernel
theorem dX8_readRow_49 : decode cX8_readRow 49 = .ok (.getfield 22, 3) := by decide +kernel
theorem dX8_readRow_52 : decode cX8_readRow 52 = .ok (.iconst 3, 1) := by decide +kernel
theorem dX8_readRow_53 : decode cX8_readRow 53 = .ok (.iload_n 3, 1) := by decide +kernel
theorem dX8_readRow_54 : decode cX8_readRow 54 = .ok (.imul, 1) := by decide +kernel
theorem dX8_readRow_55 : decode cX8_readRow 55 = .ok (.caload, 1) := by decide +kernel
theorem dX8_readRow_56 : decode cX8_readRow 56 = .ok (.aload_n 0, 1) := by decide +kernel
theorem dX8_readRow_57 : decode cX8_readRow 57 = .ok (.getfield 22, 3) := by decide +kernel
theorem dX8_readRow_60 : decode cX8_readRow 60 = .ok (.iconst 3, 1) := by decide +kernel
theorem dX8_readRow_61 : decode cX8_readRow 61 = .ok (.iload_n 3, 1) := by decide +kernel
theorem dX8_readRow_62 : decode cX8_readRow 62 = .ok (.imul, 1) := by decide +kernel
theorem dX8_readRow_63 : decode cX8_readRow 63 = .ok (.iconst 1, 1) := by decide +kernel
theorem dX8_readRow_64 : decode cX8_readRow 64 = .ok (.iadd, 1) := by decide +kernel
theorem dX8_readRow_65 : decode cX8_readRow 65 = .ok (.caload, 1) := by decide +kernel
theorem dX8_readRow_66 : decode cX8_readRow 66 = .ok (.bipush 48, 2) := by decide +kernel
theorem dX8_readRow_68 : decode cX8_readRow 68 = .ok (.isub, 1) := by decide +kernel
theorem dX8_readRow_69 : decode cX8_readRow 69 = .ok (.invokevirtual 132, 3) := by decide +kernel
theorem dX8_readRow_72 : decode cX8_readRow 72 = .ok (.iinc 3 1, 3) := by decide +kernel
theorem dX8_readRow_75 : decode cX8_readRow 75 = .ok (.goto (-33), 3) := by decide +kernel
theorem dX8_readRow_78 : decode cX8_readRow 78 = .ok (.aload_n 0, 1) := by decide +kernel
theorem dX8_readRow_79 : decode cX8_readRow 79 = .ok (.getfield 7, 3) := by decide +kernel
theorem dX8_readRow_82 : decode cX8_readRow 82 = .ok (.iconst 0, 1) := by decide +kernel
theorem dX8_readRow_83 : decode cX8_readRow 83 = .ok (.iaload, 1) := by decide +kernel
theorem dX8_readRow_84 : decode cX8_readRow 84 = .ok (.ireturn, 1) := by decide +kernel
theorem dX8_go_0 : decode cX8_go 0 = .ok (.aload_n 0, 1) := by decide +kernel
theorem dX8_go_1 : decode cX8_go 1 = .ok (.iload_n 1, 1) := by decide +kernel
theorem dX8_go_2 : decode cX8_go 2 = .ok (.invokevirtual 144, 3) := by decide +kernel
theorem dX8_go_5 : decode cX8_go 5 = .ok (.ifCond .ne 6, 3) := by decide +kernel
theorem dX8_go_8 : decode cX8_go 8 = .ok (.ldc 147, 2) := by decide +kernel
theorem dX8_go_10 : decode cX8_go 10 = .ok (.ireturn, 1) := by decide +kernel
theorem dX8_go_11 : decode cX8_go 11 = .ok (.aload_n 0, 1) := by decide +kernel
theorem dX8_go_12 : decode cX8_go 12 = .ok (.getfield 7, 3) := by decide +kernel
theorem dX8_go_15 : decode cX8_go 15 = .ok (.iload_n 1, 1) := by decide +kernel
theorem dX8_go_16 : decode cX8_go 16 = .ok (.invokestatic 59, 3) := by decide +kernel
theorem dX8_go_19 : decode cX8_go 19 = .ok (.ifCond .eq 6, 3) := by decide +kernel
theorem dX8_go_22 : decode cX8_go 22 = .ok (.ldc 148, 2) := by decide +kernel
theorem dX8_go_24 : decode cX8_go 24 = .ok (.ireturn, 1) := by decide +kernel
theorem dX8_go_25 : decode cX8_go 25 = .ok (.aload_n 0, 1) := by decide +kernel
theorem dX8_go_26 : decode cX8_go 26 = .ok (.invokevirtual 129, 3) := by decide +kernel
theorem dX8_go_29 : decode cX8_go 29 = .ok (.aload_n 0, 1) := by decide +kernel
theorem dX8_go_30 : decode cX8_go 30 = .ok (.getfield 7, 3) := by decide +kernel
theorem dX8_go_33 : decode cX8_go 33 = .ok (.iconst 0, 1) := by decide +kernel
theorem dX8_go_34 : decode cX8_go 34 = .ok (.dup2, 1) := by decide +kernel
theorem dX8_go_35 : decode cX8_go 35 = .ok (.iaload, 1) := by decide +kernel
theorem dX8_go_36 : decode cX8_go 36 = .ok (.iconst 1, 1) := by decide +kernel
theorem dX8_go_37 : decode cX8_go 37 = .ok (.isub, 1) := by decide +kernel
theorem dX8_go_38 : decode cX8_go 38 = .ok (.iastore, 1) := by decide +kernel
theorem dX8_go_39 : decode cX8_go 39 = .ok (.bipush 12, 2) := by decide +kernel
theorem dX8_go_41 : decode cX8_go 41 = .ok (.bipush 6, 2) := by decide +kernel
theorem dX8_go_43 : decode cX8_go 43 = .ok (.iload_n 1, 1) := by decide +kernel
theorem dX8_go_44 : decode cX8_go 44 = .ok (.imul, 1) := by decide +kernel
theorem dX8_go_45 : decode cX8_go 45 = .ok (.iadd, 1) := by decide +kernel
theorem dX8_go_46 : decode cX8_go 46 = .ok (.istore_n 2, 1) := by decide +kernel
theorem dX8_go_47 : decode cX8_go 47 = .ok (.iload_n 2, 1) := by decide +kernel
theorem dX8_go_48 : decode cX8_go 48 = .ok (.bipush 12, 2) := by decide +kernel
theorem dX8_go_50 : decode cX8_go 50 = .ok (.bipush 6, 2) := by decide +kernel
theorem dX8_go_52 : decode cX8_go 52 = .ok (.aload_n 0, 1) := by decide +kernel
theorem dX8_go_53 : decode cX8_go 53 = .ok (.getfield 7, 3) := by decide +kernel
theorem dX8_go_56 : decode cX8_go 56 = .ok (.iconst 0, 1) := by decide +kernel
theorem dX8_go_57 : decode cX8_go 57 = .ok (.iaload, 1) := by decide +kernel
theorem dX8_go_58 : decode cX8_go 58 = .ok (.imul, 1) := by decide +kernel
theorem dX8_go_59 : decode cX8_go 59 = .ok (.iadd, 1) := by decide +kernel
theorem dX8_go_60 : decode cX8_go 60 = .ok (.if_icmp .ge 24, 3) := by decide +kernel
theorem dX8_go_63 : decode cX8_go 63 = .ok (.aload_n 0, 1) := by decide +kernel
theorem dX8_go_64 : decode cX8_go 64 = .ok (.getfield 7, 3) := by decide +kernel
theorem dX8_go_67 : decode cX8_go 67 = .ok (.iload_n 2, 1) := by decide +kernel
theorem dX8_go_68 : decode cX8_go 68 = .ok (.aload_n 0, 1) := by decide +kernel
theorem dX8_go_69 : decode cX8_go 69 = .ok (.getfield 7, 3) := by decide +kernel
theorem dX8_go_72 : decode cX8_go 72 = .ok (.iload_n 2, 1) := by decide +kernel
theorem dX8_go_73 : decode cX8_go 73 = .ok (.bipush 6, 2) := by decide +kernel
theorem dX8_go_75 : decode cX8_go 75 = .ok (.iadd, 1) := by decide +kernel
theorem dX8_go_76 : decode cX8_go 76 = .ok (.iaload, 1) := by decide +kernel
theorem dX8_go_77 : decode cX8_go 77 = .ok (.iastore, 1) := by decide +kernel
theorem dX8_go_78 : decode cX8_go 78 = .ok (.iinc 2 1, 3) := by decide +kernel
theorem dX8_go_81 : decode cX8_go 81 = .ok (.goto (-34), 3) := by decide +kernel
theorem dX8_go_84 : decode cX8_go 84 = .ok (.aload_n 0, 1) := by decide +kernel
theorem dX8_go_85 : decode cX8_go 85 = .ok (.getfield 7, 3) := by decide +kernel
theorem dX8_go_88 : decode cX8_go 88 = .ok (.iconst 0, 1) := by decide +kernel
theorem dX8_go_89 : decode cX8_go 89 = .ok (.iaload, 1) := by decide +kernel
theorem dX8_go_90 : decode cX8_go 90 = .ok (.ireturn, 1) := by decide +kernel
theorem dX8_pay_0 : decode cX8_pay 0 = .ok (.aload_n 0, 1) := by decide +kernel
theorem dX8_pay_1 : decode cX8_pay 1 = .ok (.iload_n 1, 1) := by decide +kernel
theorem dX8_pay_2 : decode cX8_pay 2 = .ok (.invokevirtual 144, 3) := by decide +kernel
theorem dX8_pay_5 : decode cX8_pay 5 = .ok (.ifCond .ne 6, 3) := by decide +kernel
theorem dX8_pay_8 : decode cX8_pay 8 = .ok (.ldc 147, 2) := by decide +kernel
theorem dX8_pay_10 : decode cX8_pay 10 = .ok (.ireturn, 1) := by decide +kernel
theorem dX8_pay_11 : decode cX8_pay 11 = .ok (.iload_n 2, 1) := by decide +kernel
theorem dX8_pay_12 : decode cX8_pay 12 = .ok (.iconst 1, 1) := by decide +kernel
theorem dX8_pay_13 : decode cX8_pay 13 = .ok (.bipush 9, 2) := by decide +kernel
theorem dX8_pay_15 : decode cX8_pay 15 = .ok (.invokestatic 47, 3) := by decide +kernel
theorem dX8_pay_18 : decode cX8_pay 18 = .ok (.ifCond .ne 6, 3) := by decide +kernel
theorem dX8_pay_21 : decode cX8_pay 21 = .ok (.ldc 123, 2) := by decide +kernel
theorem dX8_pay_23 : decode cX8_pay 23 = .ok (.ireturn, 1) := by decide +kernel
theorem dX8_pay_24 : decode cX8_pay 24 = .ok (.aload_n 0, 1) := by decide +kernel
theorem dX8_pay_25 : decode cX8_pay 25 = .ok (.getfield 7, 3) := by decide +kernel
theorem dX8_pay_28 : decode cX8_pay 28 = .ok (.iload_n 1, 1) := by decide +kernel
theorem dX8_pay_29 : decode cX8_pay 29 = .ok (.iconst 2, 1) := by decide +kernel
theorem dX8_pay_30 : decode cX8_pay 30 = .ok (.invokestatic 51, 3) := by decide +kernel
theorem dX8_pay_33 : decode cX8_pay 33 = .ok (.istore_n 3, 1) := by decide +kernel
theorem dX8_pay_34 : decode cX8_pay 34 = .ok (.iload_n 3, 1) := by decide +kernel
theorem dX8_pay_35 : decode cX8_pay 35 = .ok (.iload_n 2, 1) := by decide +kernel
theorem dX8_pay_36 : decode cX8_pay 36 = .ok (.if_icmp .ne 6, 3) := by decide +kernel
theorem dX8_pay_39 : decode cX8_pay 39 = .ok (.ldc 69, 2) := by decide +kernel
theorem dX8_pay_41 : decode cX8_pay 41 = .ok (.ireturn, 1) := by decide +kernel
theorem dX8_pay_42 : decode cX8_pay 42 = .ok (.aload_n 0, 1) := by decide +kernel
theorem dX8_pay_43 : decode cX8_pay 43 = .ok (.invokevirtual 129, 3) := by decide +kernel
theorem dX8_pay_46 : decode cX8_pay 46 = .ok (.aload_n 0, 1) := by decide +kernel
theorem dX8_pay_47 : decode cX8_pay 47 = .ok (.getfield 7, 3) := by decide +kernel
theorem dX8_pay_50 : decode cX8_pay 50 = .ok (.iload_n 1, 1) := by decide +kernel
theorem dX8_pay_51 : decode cX8_pay 51 = .ok (.iconst 2, 1) := by decide +kernel
theorem dX8_pay_52 : decode cX8_pay 52 = .ok (.iload_n 2, 1) := by decide +kernel
theorem dX8_pay_53 : decode cX8_pay 53 = .ok (.invokestatic 84, 3) := by decide +kernel
theorem dX8_pay_56 : decode cX8_pay 56 = .ok (.iload_n 3, 1) := by decide +kernel
theorem dX8_pay_57 : decode cX8_pay 57 = .ok (.ireturn, 1) := by decide +kernel
theorem dX8_trade_0 : decode cX8_trade 0 = .ok (.iload_n 1, 1) := by decide +kernel
theorem dX8_trade_1 : decode cX8_trade 1 = .ok (.iconst 0, 1) := by decide +kernel
theorem dX8_trade_2 : decode cX8_trade 2 = .ok (.aload_n 0, 1) := by decide +kernel
theorem dX8_trade_3 : decode cX8_trade 3 = .ok (.getfield 7, 3) := by decide +kernel
theorem dX8_trade_6 : decode cX8_trade 6 = .ok (.iconst 0, 1) := by decide +kernel
theorem dX8_trade_7 : decode cX8_trade 7 = .ok (.iaload, 1) := by decide +kernel
theorem dX8_trade_8 : decode cX8_trade 8 = .ok (.iconst 2, 1) := by decide +kernel
theorem dX8_trade_9 : decode cX8_trade 9 = .ok (.isub, 1) := by decide +kernel
theorem dX8_trade_10 : decode cX8_trade 10 = .ok (.invokestatic 47, 3) := by decide +kernel
theorem dX8_trade_13 : decode cX8_trade 13 = .ok (.ifCond .ne 6, 3) := by decide +kernel
theorem dX8_trade_16 : decode cX8_trade 16 = .ok (.ldc 147, 2) := by decide +kernel
theorem dX8_trade_18 : decode cX8_trade 18 = .ok (.ireturn, 1) := by decide +kernel
theorem dX8_trade_19 : decode cX8_trade 19 = .ok (.aload_n 0, 1) := by decide +kernel
theorem dX8_trade_20 : decode cX8_trade 20 = .ok (.getfield 7, 3) := by decide +kernel
theorem dX8_trade_23 : decode cX8_trade 23 = .ok (.iload_n 1, 1) := by decide +kernel
theorem dX8_trade_24 : decode cX8_trade 24 = .ok (.invokestatic 59, 3) := by decide +kernel
theorem dX8_trade_27 : decode cX8_trade 27 = .ok (.ifCond .ne 28, 3) := by decide +kernel
theorem dX8_trade_30 : decode cX8_trade 30 = .ok (.aload_n 0, 1) := by decide +kernel
theorem dX8_trade_31 : decode cX8_trade 31 = .ok (.getfield 7, 3) := by decide +kernel
theorem dX8_trade_34 : decode cX8_trade 34 = .ok (.iload_n 1, 1) := by decide +kernel
theorem dX8_trade_35 : decode cX8_trade 35 = .ok (.iconst 1, 1) := by decide +kernel
theorem dX8_trade_36 : decode cX8_trade 36 = .ok (.iadd, 1) := by decide +kernel
theorem dX8_trade_37 : decode cX8_trade 37 = .ok (.invokestatic 59, 3) := by decide +kernel
theorem dX8_trade_40 : decode cX8_trade 40 = .ok (.ifCond .ne 15, 3) := by decide +kernel
theorem dX8_trade_43 : decode cX8_trade 43 = .ok (.aload_n 0, 1) := by decide +kernel
theorem dX8_trade_44 : decode cX8_trade 44 = .ok (.getfield 7, 3) := by decide +kernel
theorem dX8_trade_47 : decode cX8_trade 47 = .ok (.iconst 1, 1) := by decide +kernel
theorem dX8_trade_48 : decode cX8_trade 48 = .ok (.iaload, 1) := by decide +kernel
theorem dX8_trade_49 : decode cX8_trade 49 = .ok (.sipush 9999, 3) := by decide +kernel
theorem dX8_trade_52 : decode cX8_trade 52 = .ok (.if_icmp .ne 6, 3) := by decide +kernel
theorem dX8_trade_55 : decode cX8_trade 55 = .ok (.ldc 148, 2) := by decide +kernel
theorem dX8_trade_57 : decode cX8_trade 57 = .ok (.ireturn, 1) := by decide +kernel
theorem dX8_trade_58 : decode cX8_trade 58 = .ok (.aload_n 0, 1) := by decide +kernel
theorem dX8_trade_59 : decode cX8_trade 59 = .ok (.invokevirtual 129, 3) := by decide +kernel
theorem dX8_trade_62 : decode cX8_trade 62 = .ok (.aload_n 0, 1) := by decide +kernel
theorem dX8_trade_63 : decode cX8_trade 63 = .ok (.aload_n 0, 1) := by decide +kernel
theorem dX8_trade_64 : decode cX8_trade 64 = .ok (.getfield 7, 3) := by decide +kernel
theorem dX8_trade_67 : decode cX8_trade 67 = .ok (.iload_n 1, 1) := by decide +kernel
theorem dX8_trade_68 : decode cX8_trade 68 = .ok (.invokevirtual 149, 3) := by decide +kernel
theorem dX8_trade_71 : decode cX8_trade 71 = .ok (.ifCond .eq 7, 3) := by decide +kernel
theorem dX8_trade_74 : decode cX8_trade 74 = .ok (.iconst 1, 1) := by decide +kernel
theorem dX8_trade_75 : decode cX8_trade 75 = .ok (.goto 4, 3) := by decide +kernel
theorem dX8_trade_78 : decode cX8_trade 78 = .ok (.iconst 0, 1) := by decide +kernel
theorem dX8_trade_79 : decode cX8_trade 79 = .ok (.ireturn, 1) := by decide +kernel
theorem dX8_pass_0 : decode cX8_pass 0 = .ok (.iload_n 1, 1) := by decide +kernel
theorem dX8_pass_1 : decode cX8_pass 1 = .ok (.iconst 1, 1) := by decide +kernel
theorem dX8_pass_2 : decode cX8_pass 2 = .ok (.bipush 60, 2) := by decide +kernel
theorem dX8_pass_4 : decode cX8_pass 4 = .ok (.invokestatic 47, 3) := by decide +kernel
theorem dX8_pass_7 : decode cX8_pass 7 = .ok (.ifCond .ne 6, 3) := by decide +kernel
theorem dX8_pass_10 : decode cX8_pass 10 = .ok (.ldc 123, 2) := by decide +kernel
theorem dX8_pass_12 : decode cX8_pass 12 = .ok (.ireturn, 1) := by decide +kernel
theorem dX8_pass_13 : decode cX8_pass 13 = .ok (.aload_n 0, 1) := by decide +kernel
theorem dX8_pass_14 : decode cX8_pass 14 = .ok (.getfield 7, 3) := by decide +kernel
theorem dX8_pass_17 : decode cX8_pass 17 = .ok (.iconst 1, 1) := by decide +kernel
theorem dX8_pass_18 : decode cX8_pass 18 = .ok (.iaload, 1) := by decide +kernel
theorem dX8_pass_19 : decode cX8_pass 19 = .ok (.iload_n 1, 1) := by decide +kernel
theorem dX8_pass_20 : decode cX8_pass 20 = .ok (.iadd, 1) := by decide +kernel
theorem dX8_pass_21 : decode cX8_pass 21 = .ok (.sipush 9999, 3) := by decide +kernel
theorem dX8_pass_24 : decode cX8_pass 24 = .ok (.if_icmp .le 6, 3) := by decide +kernel
theorem dX8_pass_27 : decode cX8_pass 27 = .ok (.ldc 128, 2) := by decide +kernel
theorem dX8_pass_29 : decode cX8_pass 29 = .ok (.ireturn, 1) := by decide +kernel
theorem dX8_pass_30 : decode cX8_pass 30 = .ok (.aload_n 0, 1) := by decide +kernel
theorem dX8_pass_31 : decode cX8_pass 31 = .ok (.invokevirtual 129, 3) := by decide +kernel
theorem dX8_pass_34 : decode cX8_pass 34 = .ok (.iconst 0, 1) := by decide +kernel
theorem dX8_pass_35 : decode cX8_pass 35 = .ok (.istore_n 2, 1) := by decide +kernel
theorem dX8_pass_36 : decode cX8_pass 36 = .ok (.iconst 0, 1) := by decide +kernel
theorem dX8_pass_37 : decode cX8_pass 37 = .ok (.istore_n 3, 1) := by decide +kernel
theorem dX8_pass_38 : decode cX8_pass 38 = .ok (.iload_n 3, 1) := by decide +kernel
theorem dX8_pass_39 : decode cX8_pass 39 = .ok (.iload_n 1, 1) := by decide +kernel
theorem dX8_pass_40 : decode cX8_pass 40 = .ok (.if_icmp .ge 20, 3) := by decide +kernel
theorem dX8_pass_43 : decode cX8_pass 43 = .ok (.iload_n 2, 1) := by decide +kernel
theorem dX8_pass_44 : decode cX8_pass 44 = .ok (.aload_n 0, 1) := by decide +kernel
theorem dX8_pass_45 : decode cX8_pass 45 = .ok (.aload_n 0, 1) := by decide +kernel
theorem dX8_pass_46 : decode cX8_pass 46 = .ok (.getfield 7, 3) := by decide +kernel
theorem dX8_pass_49 : decode cX8_pass 49 = .ok (.invokevirtual 111, 3) := by decide +kernel
theorem dX8_pass_52 : decode cX8_pass 52 = .ok (.iadd, 1) := by decide +kernel
theorem dX8_pass_53 : decode cX8_pass 53 = .ok (.istore_n 2, 1) := by decide +kernel
theorem dX8_pass_54 : decode cX8_pass 54 = .ok (.iinc 3 1, 3) := by decide +kernel
theorem dX8_pass_57 : decode cX8_pass 57 = .ok (.goto (-19), 3) := by decide +kernel
theorem dX8_pass_60 : decode cX8_pass 60 = .ok (.iload_n 2, 1) := by decide +kernel
theorem dX8_pass_61 : decode cX8_pass 61 = .ok (.ireturn, 1) := by decide +kernel
theorem dX8_isWind_0 : decode cX8_isWind 0 = .ok (.iload_n 0, 1) := by decide +kernel
theorem dX8_isWind_1 : decode cX8_isWind 1 = .ok (.iconst 0, 1) := by decide +kernel
theorem dX8_isWind_2 : decode cX8_isWind 2 = .ok (.iconst 3, 1) := by decide +kernel
theorem dX8_isWind_3 : decode cX8_isWind 3 = .ok (.invokestatic 47, 3) := by decide +kernel
theorem dX8_isWind_6 : decode cX8_isWind 6 = .ok (.ifCond .eq 16, 3) := by decide +kernel
theorem dX8_isWind_9 : decode cX8_isWind 9 = .ok (.iload_n 1, 1) := by decide +kernel
theorem dX8_isWind_10 : decode cX8_isWind 10 = .ok (.iconst 0, 1) := by decide +kernel
theorem dX8_isWind_11 : decode cX8_isWind 11 = .ok (.iconst 5, 1) := by decide +kernel
theorem dX8_isWind_12 : decode cX8_isWind 12 = .ok (.invokestatic 47, 3) := by decide +kernel
theorem dX8_isWind_15 : decode cX8_isWind 15 = .ok (.ifCond .eq 7, 3) := by decide +kernel
theorem dX8_isWind_18 : decode cX8_isWind 18 = .ok (.iconst 1, 1) := by decide +kernel
theorem dX8_isWind_19 : decode cX8_isWind 19 = .ok (.goto 4, 3) := by decide +kernel
theorem dX8_isWind_22 : decode cX8_isWind 22 = .ok (.iconst 0, 1) := by decide +kernel
theorem dX8_isWind_23 : decode cX8_isWind 23 = .ok (.ireturn, 1) := by decide +kernel
theorem dX8_wind_0 : decode cX8_wind 0 = .ok (.iload_n 1, 1) := by decide +kernel
theorem dX8_wind_1 : decode cX8_wind 1 = .ok (.iload_n 2, 1) := by decide +kernel
theorem dX8_wind_2 : decode cX8_wind 2 = .ok (.invokestatic 152, 3) := by decide +kernel
theorem dX8_wind_5 : decode cX8_wind 5 = .ok (.ifCond .ne 6, 3) := by decide +kernel
theorem dX8_wind_8 : decode cX8_wind 8 = .ok (.ldc 123, 2) := by decide +kernel
theorem dX8_wind_10 : decode cX8_wind 10 = .ok (.ireturn, 1) := by decide +kernel
theorem dX8_wind_11 : decode cX8_wind 11 = .ok (.aload_n 0, 1) := by decide +kernel
theorem dX8_wind_12 : decode cX8_wind 12 = .ok (.getfield 7, 3) := by decide +kernel
theorem dX8_wind_15 : decode cX8_wind 15 = .ok (.iconst 2, 1) := by decide +kernel
theorem dX8_wind_16 : decode cX8_wind 16 = .ok (.iaload, 1) := by decide +kernel
theorem dX8_wind_17 : decode cX8_wind 17 = .ok (.iload_n 1, 1) := by decide +kernel
theorem dX8_wind_18 : decode cX8_wind 18 = .ok (.if_icmp .ne 16, 3) := by decide +kernel
theorem dX8_wind_21 : decode cX8_wind 21 = .ok (.aload_n 0, 1) := by decide +kernel
theorem dX8_wind_22 : decode cX8_wind 22 = .ok (.getfield 7, 3) := by decide +kernel
theorem dX8_wind_25 : decode cX8_wind 25 = .ok (.iconst 3, 1) := by decide +kernel
theorem dX8_wind_26 : decode cX8_wind 26 = .ok (.iaload, 1) := by decide +kernel
theorem dX8_wind_27 : decode cX8_wind 27 = .ok (.iload_n 2, 1) := by decide +kernel
theorem dX8_wind_28 : decode cX8_wind 28 = .ok (.if_icmp .ne 6, 3) := by decide +kernel
theorem dX8_wind_31 : decode cX8_wind 31 = .ok (.ldc 69, 2) := by decide +kernel
theorem dX8_wind_33 : decode cX8_wind 33 = .ok (.ireturn, 1) := by decide +kernel
theorem dX8_wind_34 : decode cX8_wind 34 = .ok (.aload_n 0, 1) := by decide +kernel
theorem dX8_wind_35 : decode cX8_wind 35 = .ok (.invokevirtual 129, 3) := by decide +kernel
theorem dX8_wind_38 : decode cX8_wind 38 = .ok (.aload_n 0, 1) := by decide +kernel
theorem dX8_wind_39 : decode cX8_wind 39 = .ok (.aload_n 0, 1) := by decide +kernel
theorem dX8_wind_40 : decode cX8_wind 40 = .ok (.getfield 7, 3) := by decide +kernel
theorem dX8_wind_43 : decode cX8_wind 43 = .ok (.iload_n 1, 1) := by decide +kernel
theorem dX8_wind_44 : decode cX8_wind 44 = .ok (.iload_n 2, 1) := by decide +kernel
theorem dX8_wind_45 : decode cX8_wind 45 = .ok (.invokevirtual 102, 3) := by decide +kernel
theorem dX8_wind_48 : decode cX8_wind 48 = .ok (.ireturn, 1) := by decide +kernel
theorem dX8_turnAt_0 : decode cX8_turnAt 0 = .ok (.ldc 69, 2) := by decide +kernel
theorem dX8_turnAt_2 : decode cX8_turnAt 2 = .ok (.istore_n 2, 1) := by decide +kernel
theorem dX8_turnAt_3 : decode cX8_turnAt 3 = .ok (.iconst 0, 1) := by decide +kernel
theorem dX8_turnAt_4 : decode cX8_turnAt 4 = .ok (.istore_n 3, 1) := by decide +kernel
theorem dX8_turnAt_5 : decode cX8_turnAt 5 = .ok (.iload_n 3, 1) := by decide +kernel
theorem dX8_turnAt_6 : decode cX8_turnAt 6 = .ok (.aload_n 0, 1) := by decide +kernel
theorem dX8_turnAt_7 : decode cX8_turnAt 7 = .ok (.getfield 7, 3) := by decide +kernel
theorem dX8_turnAt_10 : decode cX8_turnAt 10 = .ok (.bipush 6, 2) := by decide +kernel
theorem dX8_turnAt_12 : decode cX8_turnAt 12 = .ok (.iaload, 1) := by decide +kernel
theorem dX8_turnAt_13 : decode cX8_turnAt 13 = .ok (.if_icmp .ge 30, 3) := by decide +kernel
theorem dX8_turnAt_16 : decode cX8_turnAt 16 = .ok (.aload_n 0, 1) := by decide +kernel
theorem dX8_turnAt_17 : decode cX8_turnAt 17 = .ok (.getfield 7, 3) := by decide +kernel
theorem dX8_turnAt_20 : decode cX8_turnAt 20 = .ok (.bipush 84, 2) := by decide +kernel
theorem dX8_turnAt_22 : decode cX8_turnAt 22 = .ok (.iconst 3, 1) := by decide +kernel
theorem dX8_turnAt_23 : decode cX8_turnAt 23 = .ok (.iload_n 3, 1) := by decide +kernel
theorem dX8_turnAt_24 : decode cX8_turnAt 24 = .ok (.imul, 1) := by decide +kernel
theorem dX8_turnAt_25 : decode cX8_turnAt 25 = .ok (.iadd, 1) := by decide +kernel
theorem dX8_turnAt_26 : decode cX8_turnAt 26 = .ok (.iaload, 1) := by decide +kernel
theorem dX8_turnAt_27 : decode cX8_turnAt 27 = .ok (.iload_n 1, 1) := by decide +kernel
theorem dX8_turnAt_28 : decode cX8_turnAt 28 = .ok (.if_icmp .ne 7, 3) := by decide +kernel
theorem dX8_turnAt_31 : decode cX8_turnAt 31 = .ok (.iload_n 3, 1) := by decide +kernel
theorem dX8_turnAt_32 : decode cX8_turnAt 32 = .ok (.goto 4, 3) := by decide +kernel
theorem dX8_turnAt_35 : decode cX8_turnAt 35 = .ok (.iload_n 2, 1) := by decide +kernel
theorem dX8_turnAt_36 : decode cX8_turnAt 36 = .ok (.istore_n 2, 1) := by decide +kernel
theorem dX8_turnAt_37 : decode cX8_turnAt 37 = .ok (.iinc 3 1, 3) := by decide +kernel
theorem dX8_turnAt_40 : decode cX8_turnAt 40 = .ok (.goto (-35), 3) := by decide +kernel
theorem dX8_turnAt_43 : decode cX8_turnAt 43 = .ok (.iload_n 2, 1) := by decide +kernel
theorem dX8_turnAt_44 : decode cX8_turnAt 44 = .ok (.ireturn, 1) := by decide +kernel
theorem dX8_planTurn_0 : decode cX8_planTurn 0 = .ok (.iload_n 1, 1) := by decide +kernel
theorem dX8_planTurn_1 : decode cX8_planTurn 1 = .ok (.iconst 1, 1) := by decide +kernel
theorem dX8_planTurn_2 : decode cX8_planTurn 2 = .ok (.sipush 9999, 3) := by decide +kernel
theorem dX8_planTurn_5 : decode cX8_planTurn 5 = .ok (.invokestatic 47, 3) := by decide +kernel
theorem dX8_planTurn_8 : decode cX8_planTurn 8 = .ok (.ifCond .eq 11, 3) := by decide +kernel
theorem dX8_planTurn_11 : decode cX8_planTurn 11 = .ok (.iload_n 2, 1) := by decide +kernel
theorem dX8_planTurn_12 : decode cX8_planTurn 12 = .ok (.iload_n 3, 1) := by decide +kernel
theorem dX8_planTurn_13 : decode cX8_planTurn 13 = .ok (.invokestatic 152, 3) := by decide +kernel
theorem dX8_planTurn_16 : decode cX8_planTurn 16 = .ok (.ifCond .ne 6, 3) := by decide +kernel
theorem dX8_planTurn_19 : decode cX8_planTurn 19 = .ok (.ldc 123, 2) := by decide +kernel
theorem dX8_planTurn_21 : decode cX8_planTurn 21 = .ok (.ireturn, 1) := by decide +kernel
theorem dX8_planTurn_22 : decode cX8_planTurn 22 = .ok (.iload_n 1, 1) := by decide +kernel
theorem dX8_planTurn_23 : decode cX8_planTurn 23 = .ok (.aload_n 0, 1) := by decide +kernel
theorem dX8_planTurn_24 : decode cX8_planTurn 24 = .ok (.getfield 7, 3) := by decide +kernel
theorem dX8_planTurn_27 : decode cX8_planTurn 27 = .ok (.iconst 1, 1) := by decide +kernel
theorem dX8_planTurn_28 : decode cX8_planTurn 28 = .ok (.iaload, 1) := by decide +kernel
theorem dX8_planTurn_29 : decode cX8_planTurn 29 = .ok (.if_icmp .le 13, 3) := by decide +kernel
theorem dX8_planTurn_32 : decode cX8_planTurn 32 = .ok (.aload_n 0, 1) := by decide +kernel
theorem dX8_planTurn_33 : decode cX8_planTurn 33 = .ok (.iload_n 1, 1) := by decide +kernel
theorem dX8_planTurn_34 : decode cX8_planTurn 34 = .ok (.invokevirtual 156, 3) := by decide +kernel
theorem dX8_planTurn_37 : decode cX8_planTurn 37 = .ok (.ldc 69, 2) := by decide +kernel
theorem dX8_planTurn_39 : decode cX8_planTurn 39 = .ok (.if_icmp .eq 6, 3) := by decide +kernel
theorem dX8_planTurn_42 : decode cX8_planTurn 42 = .ok (.ldc 148, 2) := by decide +kernel
theorem dX8_planTurn_44 : decode cX8_planTurn 44 = .ok (.ireturn, 1) := by decide +kernel
theorem dX8_planTurn_45 : decode cX8_planTurn 45 = .ok (.aload_n 0, 1) := by decide +kernel
theorem dX8_planTurn_46 : decode cX8_planTurn 46 = .ok (.getfield 7, 3) := by decide +kernel
theorem dX8_planTurn_49 : decode cX8_planTurn 49 = .ok (.bipush 6, 2) := by decide +kernel
theorem dX8_planTurn_51 : decode cX8_planTurn 51 = .ok (.iaload, 1) := by decide +kernel
theorem dX8_planTurn_52 : decode cX8_planTurn 52 = .ok (.bipush 8, 2) := by decide +kernel
theorem dX8_planTurn_54 : decode cX8_planTurn 54 = .ok (.if_icmp .ne 6, 3) := by decide +kernel
theorem dX8_planTurn_57 : decode cX8_planTurn 57 = .ok (.ldc 128, 2) := by decide +kernel
theorem dX8_planTurn_59 : decode cX8_planTurn 59 = .ok (.ireturn, 1) := by decide +kernel
theorem dX8_planTurn_60 : decode cX8_planTurn 60 = .ok (.aload_n 0, 1) := by decide +kernel
theorem dX8_planTurn_61 : decode cX8_planTurn 61 = .ok (.invokevirtual 129, 3) := by decide +kernel
theorem dX8_planTurn_64 : decode cX8_planTurn 64 = .ok (.aload_n 0, 1) := by decide +kernel
theorem dX8_planTurn_65 : decode cX8_planTurn 65 = .ok (.getfield 7, 3) := by decide +kernel
theorem dX8_planTurn_68 : decode cX8_planTurn 68 = .ok (.bipush 6, 2) := by decide +kernel
theorem dX8_planTurn_70 : decode cX8_planTurn 70 = .ok (.iaload, 1) := by decide +kernel
theorem dX8_planTurn_71 : decode cX8_planTurn 71 = .ok (.istore 4, 2) := by decide +kernel
theorem dX8_planTurn_73 : decode cX8_planTurn 73 = .ok (.iload 4, 2) := by decide +kernel
theorem dX8_planTurn_75 : decode cX8_planTurn 75 = .ok (.ifCond .le 74, 3) := by decide +kernel
theorem dX8_planTurn_78 : decode cX8_planTurn 78 = .ok (.aload_n 0, 1) := by decide +kernel
theorem dX8_planTurn_79 : decode cX8_planTurn 79 = .ok (.getfield 7, 3) := by decide +kernel
theorem dX8_planTurn_82 : decode cX8_planTurn 82 = .ok (.bipush 84, 2) := by decide +kernel
theorem dX8_planTurn_84 : decode cX8_planTurn 84 = .ok (.iconst 3, 1) := by decide +kernel
theorem dX8_planTurn_85 : decode cX8_planTurn 85 = .ok (.iload 4, 2) := by decide +kernel
theorem dX8_planTurn_87 : decode cX8_planTurn 87 = .ok (.iconst 1, 1) := by decide +kernel
theorem dX8_planTurn_88 : decode cX8_planTurn 88 = .ok (.isub, 1) := by decide +kernel
theorem dX8_planTurn_89 : decode cX8_planTurn 89 = .ok (.imul, 1) := by decide +kernel
theorem dX8_planTurn_90 : decode cX8_planTurn 90 = .ok (.iadd, 1) := by decide +kernel
theorem dX8_planTurn_91 : decode cX8_planTurn 91 = .ok (.iaload, 1) := by decide +kernel
theorem dX8_planTurn_92 : decode cX8_planTurn 92 = .ok (.iload_n 1, 1) := by decide +kernel
theorem dX8_planTurn_93 : decode cX8_planTurn 93 = .ok (.if_icmp .le 56, 3) := by decide +kernel
theorem dX8_planTurn_96 : decode cX8_planTurn 96 = .ok (.iconst 0, 1) := by decide +kernel
theorem dX8_planTurn_97 : decode cX8_planTurn 97 = .ok (.istore 5, 2) := by decide +kernel
theorem dX8_planTurn_99 : decode cX8_planTurn 99 = .ok (.iload 5, 2) := by decide +kernel
theorem dX8_planTurn_101 : decode cX8_planTurn 101 = .ok (.iconst 3, 1) := by decide +kernel
theorem dX8_planTurn_102 : decode cX8_planTurn 102 = .ok (.if_icmp .ge 41, 3) := by decide +kernel
theorem dX8_planTurn_105 : decode cX8_planTurn 105 = .ok (.aload_n 0, 1) := by decide +kernel
theorem dX8_planTurn_106 : decode cX8_planTurn 106 = .ok (.getfield 7, 3) := by decide +kernel
theorem dX8_planTurn_109 : decode cX8_planTurn 109 = .ok (.bipush 84, 2) := by decide +kernel
theorem dX8_planTurn_111 : decode cX8_planTurn 111 = .ok (.iconst 3, 1) := by decide +kernel
theorem dX8_planTurn_112 : decode cX8_planTurn 112 = .ok (.iload 4, 2) := by decide +kernel
theorem dX8_planTurn_114 : decode cX8_planTurn 114 = .ok (.imul, 1) := by decide +kernel
theorem dX8_planTurn_115 : decode cX8_planTurn 115 = .ok (.iadd, 1) := by decide +kernel
theorem dX8_planTurn_116 : decode cX8_planTurn 116 = .ok (.iload 5, 2) := by decide +kernel
theorem dX8_planTurn_118 : decode cX8_planTurn 118 = .ok (.iadd, 1) := by decide +kernel
theorem dX8_planTurn_119 : decode cX8_planTurn 119 = .ok (.aload_n 0, 1) := by decide +kernel
theorem dX8_planTurn_120 : decode cX8_planTurn 120 = .ok (.getfield 7, 3) := by decide +kernel
theorem dX8_planTurn_123 : decode cX8_planTurn 123 = .ok (.bipush 84, 2) := by decide +kernel
theorem dX8_planTurn_125 : decode cX8_planTurn 125 = .ok (.iconst 3, 1) := by decide +kernel
theorem dX8_planTurn_126 : decode cX8_planTurn 126 = .ok (.iload 4, 2) := by decide +kernel
theorem dX8_planTurn_128 : decode cX8_planTurn 128 = .ok (.iconst 1, 1) := by decide +kernel
theorem dX8_planTurn_129 : decode cX8_planTurn 129 = .ok (.isub, 1) := by decide +kernel
theorem dX8_planTurn_130 : decode cX8_planTurn 130 = .ok (.imul, 1) := by decide +kernel
theorem dX8_planTurn_131 : decode cX8_planTurn 131 = .ok (.iadd, 1) := by decide +kernel
theorem dX8_planTurn_132 : decode cX8_planTurn 132 = .ok (.iload 5, 2) := by decide +kernel
theorem dX8_planTurn_134 : decode cX8_planTurn 134 = .ok (.iadd, 1) := by decide +kernel
theorem dX8_planTurn_135 : decode cX8_planTurn 135 = .ok (.iaload, 1) := by decide +kernel
theorem dX8_planTurn_136 : decode cX8_planTurn 136 = .ok (.iastore, 1) := by decide +kernel
theorem dX8_planTurn_137 : decode cX8_planTurn 137 = .ok (.iinc 5 1, 3) := by decide +kernel
theorem dX8_planTurn_140 : decode cX8_planTurn 140 = .ok (.goto (-41), 3) := by decide +kernel
theorem dX8_planTurn_143 : decode cX8_planTurn 143 = .ok (.iinc 4 (-1), 3) := by decide +kernel
theorem dX8_planTurn_146 : decode cX8_planTurn 146 = .ok (.goto (-73), 3) := by decide +kernel
theorem dX8_planTurn_149 : decode cX8_planTurn 149 = .ok (.aload_n 0, 1) := by decide +kernel
theorem dX8_planTurn_150 : decode cX8_planTurn 150 = .ok (.getfield 7, 3) := by decide +kernel
theorem dX8_planTurn_153 : decode cX8_planTurn 153 = .ok (.bipush 84, 2) := by decide +kernel
theorem dX8_planTurn_155 : decode cX8_planTurn 155 = .ok (.iconst 3, 1) := by decide +kernel
theorem dX8_planTurn_156 : decode cX8_planTurn 156 = .ok (.iload 4, 2) := by decide +kernel
theorem dX8_planTurn_158 : decode cX8_planTurn 158 = .ok (.imul, 1) := by decide +kernel
theorem dX8_planTurn_159 : decode cX8_planTurn 159 = .ok (.iadd, 1) := by decide +kernel
theorem dX8_planTurn_160 : decode cX8_planTurn 160 = .ok (.iload_n 1, 1) := by decide +kernel
theorem dX8_planTurn_161 : decode cX8_planTurn 161 = .ok (.iastore, 1) := by decide +kernel
theorem dX8_planTurn_162 : decode cX8_planTurn 162 = .ok (.aload_n 0, 1) := by decide +kernel
theorem dX8_planTurn_163 : decode cX8_planTurn 163 = .ok (.getfield 7, 3) := by decide +kernel
theorem dX8_planTurn_166 : decode cX8_planTurn 166 = .ok (.bipush 84, 2) := by decide +kernel
theorem dX8_planTurn_168 : decode cX8_planTurn 168 = .ok (.iconst 3, 1) := by decide +kernel
theorem dX8_planTurn_169 : decode cX8_planTurn 169 = .ok (.iload 4, 2) := by decide +kernel
theorem dX8_planTurn_171 : decode cX8_planTurn 171 = .ok (.imul, 1) := by decide +kernel
theorem dX8_planTurn_172 : decode cX8_planTurn 172 = .ok (.iadd, 1) := by decide +kernel
theorem dX8_planTurn_173 : decode cX8_planTurn 173 = .ok (.iconst 1, 1) := by decide +kernel
theorem dX8_planTurn_174 : decode cX8_planTurn 174 = .ok (.iadd, 1) := by decide +kernel
theorem dX8_planTurn_175 : decode cX8_planTurn 175 = .ok (.iload_n 2, 1) := by decide +kernel
theorem dX8_planTurn_176 : decode cX8_planTurn 176 = .ok (.iastore, 1) := by decide +kernel
theorem dX8_planTurn_177 : decode cX8_planTurn 177 = .ok (.aload_n 0, 1) := by decide +kernel
theorem dX8_planTurn_178 : decode cX8_planTurn 178 = .ok (.getfield 7, 3) := by decide +kernel
theorem dX8_planTurn_181 : decode cX8_planTurn 181 = .ok (.bipush 84, 2) := by decide +kernel
theorem dX8_planTurn_183 : decode cX8_planTurn 183 = .ok (.iconst 3, 1) := by decide +kernel
theorem dX8_planTurn_184 : decode cX8_planTurn 184 = .ok (.iload 4, 2) := by decide +kernel
theorem dX8_planTurn_186 : decode cX8_planTurn 186 = .ok (.imul, 1) := by decide +kernel
theorem dX8_planTurn_187 : decode cX8_planTurn 187 = .ok (.iadd, 1) := by decide +kernel
theorem dX8_planTurn_188 : decode cX8_planTurn 188 = .ok (.iconst 2, 1) := by decide +kernel
theorem dX8_planTurn_189 : decode cX8_planTurn 189 = .ok (.iadd, 1) := by decide +kernel
theorem dX8_planTurn_190 : decode cX8_planTurn 190 = .ok (.iload_n 3, 1) := by decide +kernel
theorem dX8_planTurn_191 : decode cX8_planTurn 191 = .ok (.iastore, 1) := by decide +kernel
theorem dX8_planTurn_192 : decode cX8_planTurn 192 = .ok (.aload_n 0, 1) := by decide +kernel
theorem dX8_planTurn_193 : decode cX8_planTurn 193 = .ok (.getfield 7, 3) := by decide +kernel
theorem dX8_planTurn_196 : decode cX8_planTurn 196 = .ok (.bipush 6, 2) := by decide +kernel
theorem dX8_planTurn_198 : decode cX8_planTurn 198 = .ok (.dup2, 1) := by decide +kernel
theorem dX8_planTurn_199 : decode cX8_planTurn 199 = .ok (.iaload, 1) := by decide +kernel
theorem dX8_planTurn_200 : decode cX8_planTurn 200 = .ok (.iconst 1, 1) := by decide +kernel
theorem dX8_planTurn_201 : decode cX8_planTurn 201 = .ok (.iadd, 1) := by decide +kernel
theorem dX8_planTurn_202 : decode cX8_planTurn 202 = .ok (.iastore, 1) := by decide +kernel
theorem dX8_planTurn_203 : decode cX8_planTurn 203 = .ok (.aload_n 0, 1) := by decide +kernel
theorem dX8_planTurn_204 : decode cX8_planTurn 204 = .ok (.getfield 7, 3) := by decide +kernel
theorem dX8_planTurn_207 : decode cX8_planTurn 207 = .ok (.bipush 6, 2) := by decide +kernel
theorem dX8_planTurn_209 : decode cX8_planTurn 209 = .ok (.iaload, 1) := by decide +kernel
theorem dX8_planTurn_210 : decode cX8_planTurn 210 = .ok (.ireturn, 1) := by decide +kernel
theorem dX8_dropTurn_0 : decode cX8_dropTurn 0 = .ok (.aload_n 0, 1) := by decide +kernel
theorem dX8_dropTurn_1 : decode cX8_dropTurn 1 = .ok (.iload_n 1, 1) := by decide +kernel
theorem dX8_dropTurn_2 : decode cX8_dropTurn 2 = .ok (.invokevirtual 156, 3) := by decide +kernel
theorem dX8_dropTurn_5 : decode cX8_dropTurn 5 = .ok (.istore_n 2, 1) := by decide +kernel
theorem dX8_dropTurn_6 : decode cX8_dropTurn 6 = .ok (.iload_n 2, 1) := by decide +kernel
theorem dX8_dropTurn_7 : decode cX8_dropTurn 7 = .ok (.ldc 69, 2) := by decide +kernel
theorem dX8_dropTurn_9 : decode cX8_dropTurn 9 = .ok (.if_icmp .ne 6, 3) := by decide +kernel
theorem dX8_dropTurn_12 : decode cX8_dropTurn 12 = .ok (.ldc 147, 2) := by decide +kernel
theorem dX8_dropTurn_14 : decode cX8_dropTurn 14 = .ok (.ireturn, 1) := by decide +kernel
theorem dX8_dropTurn_15 : decode cX8_dropTurn 15 = .ok (.aload_n 0, 1) := by decide +kernel
theorem dX8_dropTurn_16 : decode cX8_dropTurn 16 = .ok (.invokevirtual 129, 3) := by decide +kernel
theorem dX8_dropTurn_19 : decode cX8_dropTurn 19 = .ok (.aload_n 0, 1) := by decide +kernel
theorem dX8_dropTurn_20 : decode cX8_dropTurn 20 = .ok (.getfield 7, 3) := by decide +kernel
theorem dX8_dropTurn_23 : decode cX8_dropTurn 23 = .ok (.iload_n 2, 1) := by decide +kernel
theorem dX8_dropTurn_24 : decode cX8_dropTurn 24 = .ok (.invokestatic 98, 3) := by decide +kernel
theorem dX8_dropTurn_27 : decode cX8_dropTurn 27 = .ok (.aload_n 0, 1) := by decide +kernel
theorem dX8_dropTurn_28 : decode cX8_dropTurn 28 = .ok (.getfield 7, 3) := by decide +kernel
theorem dX8_dropTurn_31 : decode cX8_dropTurn 31 = .ok (.bipush 6, 2) := by decide +kernel
theorem dX8_dropTurn_33 : decode cX8_dropTurn 33 = .ok (.iaload, 1) := by decide +kernel
theorem dX8_dropTurn_34 : decode cX8_dropTurn 34 = .ok (.ireturn, 1) := by decide +kernel
theorem dX8_crowd_0 : decode cX8_crowd 0 = .ok (.iload_n 1, 1) := by decide +kernel
theorem dX8_crowd_1 : decode cX8_crowd 1 = .ok (.ifCond .eq 7, 3) := by decide +kernel
theorem dX8_crowd_4 : decode cX8_crowd 4 = .ok (.iconst 1, 1) := by decide +kernel
theorem dX8_crowd_5 : decode cX8_crowd 5 = .ok (.goto 4, 3) := by decide +kernel
theorem dX8_crowd_8 : decode cX8_crowd 8 = .ok (.iconst 0, 1) := by decide +kernel
theorem dX8_crowd_9 : decode cX8_crowd 9 = .ok (.istore_n 2, 1) := by decide +kernel
theorem dX8_crowd_10 : decode cX8_crowd 10 = .ok (.aload_n 0, 1) := by decide +kernel
theorem dX8_crowd_11 : decode cX8_crowd 11 = .ok (.getfield 7, 3) := by decide +kernel
theorem dX8_crowd_14 : decode cX8_crowd 14 = .ok (.iconst 4, 1) := by decide +kernel
theorem dX8_crowd_15 : decode cX8_crowd 15 = .ok (.iaload, 1) := by decide +kernel
theorem dX8_crowd_16 : decode cX8_crowd 16 = .ok (.iload_n 2, 1) := by decide +kernel
theorem dX8_crowd_17 : decode cX8_crowd 17 = .ok (.if_icmp .ne 6, 3) := by decide +kernel
theorem dX8_crowd_20 : decode cX8_crowd 20 = .ok (.ldc 69, 2) := by decide +kernel
theorem dX8_crowd_22 : decode cX8_crowd 22 = .ok (.ireturn, 1) := by decide +kernel
end
section
theorem dX8_crowd_23 : decode cX8_crowd 23 = .ok (.aload_n 0, 1) := by decide +kernel
theorem dX8_crowd_24 : decode cX8_crowd 24 = .ok (.invokevirtual 129, 3) := by decide +kernel
theorem dX8_crowd_27 : decode cX8_crowd 27 = .ok (.aload_n 0, 1) := by decide +kernel
theorem dX8_crowd_28 : decode cX8_crowd 28 = .ok (.getfield 7, 3) := by decide +kernel
theorem dX8_crowd_31 : decode cX8_crowd 31 = .ok (.iconst 4, 1) := by decide +kernel
theorem dX8_crowd_32 : decode cX8_crowd 32 = .ok (.iload_n 2, 1) := by decide +kernel
theorem dX8_crowd_33 : decode cX8_crowd 33 = .ok (.iastore, 1) := by decide +kernel
theorem dX8_crowd_34 : decode cX8_crowd 34 = .ok (.aload_n 0, 1) := by decide +kernel
theorem dX8_crowd_35 : decode cX8_crowd 35 = .ok (.getfield 7, 3) := by decide +kernel
theorem dX8_crowd_38 : decode cX8_crowd 38 = .ok (.invokestatic 70, 3) := by decide +kernel
theorem dX8_crowd_41 : decode cX8_crowd 41 = .ok (.ireturn, 1) := by decide +kernel
theorem dX8_setTangle_0 : decode cX8_setTangle 0 = .ok (.iload_n 1, 1) := by decide +kernel
theorem dX8_setTangle_1 : decode cX8_setTangle 1 = .ok (.iconst 1, 1) := by decide +kernel
theorem dX8_setTangle_2 : decode cX8_setTangle 2 = .ok (.bipush 9, 2) := by decide +kernel
theorem dX8_setTangle_4 : decode cX8_setTangle 4 = .ok (.invokestatic 47, 3) := by decide +kernel
theorem dX8_setTangle_7 : decode cX8_setTangle 7 = .ok (.ifCond .ne 6, 3) := by decide +kernel
theorem dX8_setTangle_10 : decode cX8_setTangle 10 = .ok (.ldc 123, 2) := by decide +kernel
theorem dX8_setTangle_12 : decode cX8_setTangle 12 = .ok (.ireturn, 1) := by decide +kernel
theorem dX8_setTangle_13 : decode cX8_setTangle 13 = .ok (.aload_n 0, 1) := by decide +kernel
theorem dX8_setTangle_14 : decode cX8_setTangle 14 = .ok (.getfield 7, 3) := by decide +kernel
theorem dX8_setTangle_17 : decode cX8_setTangle 17 = .ok (.iconst 5, 1) := by decide +kernel
theorem dX8_setTangle_18 : decode cX8_setTangle 18 = .ok (.iaload, 1) := by decide +kernel
theorem dX8_setTangle_19 : decode cX8_setTangle 19 = .ok (.istore_n 2, 1) := by decide +kernel
theorem dX8_setTangle_20 : decode cX8_setTangle 20 = .ok (.iload_n 2, 1) := by decide +kernel
theorem dX8_setTangle_21 : decode cX8_setTangle 21 = .ok (.iload_n 1, 1) := by decide +kernel
theorem dX8_setTangle_22 : decode cX8_setTangle 22 = .ok (.if_icmp .ne 6, 3) := by decide +kernel
theorem dX8_setTangle_25 : decode cX8_setTangle 25 = .ok (.ldc 69, 2) := by decide +kernel
theorem dX8_setTangle_27 : decode cX8_setTangle 27 = .ok (.ireturn, 1) := by decide +kernel
theorem dX8_setTangle_28 : decode cX8_setTangle 28 = .ok (.aload_n 0, 1) := by decide +kernel
theorem dX8_setTangle_29 : decode cX8_setTangle 29 = .ok (.invokevirtual 129, 3) := by decide +kernel
theorem dX8_setTangle_32 : decode cX8_setTangle 32 = .ok (.aload_n 0, 1) := by decide +kernel
theorem dX8_setTangle_33 : decode cX8_setTangle 33 = .ok (.getfield 7, 3) := by decide +kernel
theorem dX8_setTangle_36 : decode cX8_setTangle 36 = .ok (.iconst 5, 1) := by decide +kernel
theorem dX8_setTangle_37 : decode cX8_setTangle 37 = .ok (.iload_n 1, 1) := by decide +kernel
theorem dX8_setTangle_38 : decode cX8_setTangle 38 = .ok (.iastore, 1) := by decide +kernel
theorem dX8_setTangle_39 : decode cX8_setTangle 39 = .ok (.iload_n 2, 1) := by decide +kernel
theorem dX8_setTangle_40 : decode cX8_setTangle 40 = .ok (.ireturn, 1) := by decide +kernel
theorem dX8_wordFault_0 : decode cX8_wordFault 0 = .ok (.iconst 0, 1) := by decide +kernel
theorem dX8_wordFault_1 : decode cX8_wordFault 1 = .ok (.istore_n 1, 1) := by decide +kernel
theorem dX8_wordFault_2 : decode cX8_wordFault 2 = .ok (.iload_n 1, 1) := by decide +kernel
theorem dX8_wordFault_3 : decode cX8_wordFault 3 = .ok (.aload_n 0, 1) := by decide +kernel
theorem dX8_wordFault_4 : decode cX8_wordFault 4 = .ok (.getfield 141, 3) := by decide +kernel
theorem dX8_wordFault_7 : decode cX8_wordFault 7 = .ok (.if_icmp .ge 31, 3) := by decide +kernel
theorem dX8_wordFault_10 : decode cX8_wordFault 10 = .ok (.iload_n 1, 1) := by decide +kernel
theorem dX8_wordFault_11 : decode cX8_wordFault 11 = .ok (.bipush 12, 2) := by decide +kernel
theorem dX8_wordFault_13 : decode cX8_wordFault 13 = .ok (.if_icmp .ge 25, 3) := by decide +kernel
theorem dX8_wordFault_16 : decode cX8_wordFault 16 = .ok (.aload_n 0, 1) := by decide +kernel
theorem dX8_wordFault_17 : decode cX8_wordFault 17 = .ok (.getfield 22, 3) := by decide +kernel
theorem dX8_wordFault_20 : decode cX8_wordFault 20 = .ok (.iload_n 1, 1) := by decide +kernel
theorem dX8_wordFault_21 : decode cX8_wordFault 21 = .ok (.caload, 1) := by decide +kernel
theorem dX8_wordFault_22 : decode cX8_wordFault 22 = .ok (.bipush 97, 2) := by decide +kernel
theorem dX8_wordFault_24 : decode cX8_wordFault 24 = .ok (.bipush 122, 2) := by decide +kernel
theorem dX8_wordFault_26 : decode cX8_wordFault 26 = .ok (.invokestatic 47, 3) := by decide +kernel
theorem dX8_wordFault_29 : decode cX8_wordFault 29 = .ok (.ifCond .eq 9, 3) := by decide +kernel
theorem dX8_wordFault_32 : decode cX8_wordFault 32 = .ok (.iinc 1 1, 3) := by decide +kernel
theorem dX8_wordFault_35 : decode cX8_wordFault 35 = .ok (.goto (-33), 3) := by decide +kernel
theorem dX8_wordFault_38 : decode cX8_wordFault 38 = .ok (.iload_n 1, 1) := by decide +kernel
theorem dX8_wordFault_39 : decode cX8_wordFault 39 = .ok (.aload_n 0, 1) := by decide +kernel
theorem dX8_wordFault_40 : decode cX8_wordFault 40 = .ok (.getfield 141, 3) := by decide +kernel
theorem dX8_wordFault_43 : decode cX8_wordFault 43 = .ok (.if_icmp .ne 15, 3) := by decide +kernel
theorem dX8_wordFault_46 : decode cX8_wordFault 46 = .ok (.aload_n 0, 1) := by decide +kernel
theorem dX8_wordFault_47 : decode cX8_wordFault 47 = .ok (.getfield 141, 3) := by decide +kernel
theorem dX8_wordFault_50 : decode cX8_wordFault 50 = .ok (.ifCond .le 8, 3) := by decide +kernel
theorem dX8_wordFault_53 : decode cX8_wordFault 53 = .ok (.ldc 69, 2) := by decide +kernel
theorem dX8_wordFault_55 : decode cX8_wordFault 55 = .ok (.goto 4, 3) := by decide +kernel
theorem dX8_wordFault_58 : decode cX8_wordFault 58 = .ok (.iload_n 1, 1) := by decide +kernel
theorem dX8_wordFault_59 : decode cX8_wordFault 59 = .ok (.ireturn, 1) := by decide +kernel
theorem dX8_rowFault_0 : decode cX8_rowFault 0 = .ok (.iconst 0, 1) := by decide +kernel
theorem dX8_rowFault_1 : decode cX8_rowFault 1 = .ok (.istore_n 1, 1) := by decide +kernel
theorem dX8_rowFault_2 : decode cX8_rowFault 2 = .ok (.iconst 1, 1) := by decide +kernel
theorem dX8_rowFault_3 : decode cX8_rowFault 3 = .ok (.istore_n 2, 1) := by decide +kernel
theorem dX8_rowFault_4 : decode cX8_rowFault 4 = .ok (.iload_n 1, 1) := by decide +kernel
theorem dX8_rowFault_5 : decode cX8_rowFault 5 = .ok (.aload_n 0, 1) := by decide +kernel
theorem dX8_rowFault_6 : decode cX8_rowFault 6 = .ok (.getfield 141, 3) := by decide +kernel
theorem dX8_rowFault_9 : decode cX8_rowFault 9 = .ok (.if_icmp .ge 84, 3) := by decide +kernel
theorem dX8_rowFault_12 : decode cX8_rowFault 12 = .ok (.iload_n 2, 1) := by decide +kernel
theorem dX8_rowFault_13 : decode cX8_rowFault 13 = .ok (.ifCond .eq 80, 3) := by decide +kernel
theorem dX8_rowFault_16 : decode cX8_rowFault 16 = .ok (.iload_n 1, 1) := by decide +kernel
theorem dX8_rowFault_17 : decode cX8_rowFault 17 = .ok (.iconst 3, 1) := by decide +kernel
theorem dX8_rowFault_18 : decode cX8_rowFault 18 = .ok (.irem, 1) := by decide +kernel
theorem dX8_rowFault_19 : decode cX8_rowFault 19 = .ok (.ifCond .ne 19, 3) := by decide +kernel
theorem dX8_rowFault_22 : decode cX8_rowFault 22 = .ok (.aload_n 0, 1) := by decide +kernel
theorem dX8_rowFault_23 : decode cX8_rowFault 23 = .ok (.getfield 22, 3) := by decide +kernel
theorem dX8_rowFault_26 : decode cX8_rowFault 26 = .ok (.iload_n 1, 1) := by decide +kernel
theorem dX8_rowFault_27 : decode cX8_rowFault 27 = .ok (.caload, 1) := by decide +kernel
theorem dX8_rowFault_28 : decode cX8_rowFault 28 = .ok (.bipush 97, 2) := by decide +kernel
theorem dX8_rowFault_30 : decode cX8_rowFault 30 = .ok (.bipush 122, 2) := by decide +kernel
theorem dX8_rowFault_32 : decode cX8_rowFault 32 = .ok (.invokestatic 47, 3) := by decide +kernel
theorem dX8_rowFault_35 : decode cX8_rowFault 35 = .ok (.goto 42, 3) := by decide +kernel
theorem dX8_rowFault_38 : decode cX8_rowFault 38 = .ok (.iload_n 1, 1) := by decide +kernel
theorem dX8_rowFault_39 : decode cX8_rowFault 39 = .ok (.iconst 3, 1) := by decide +kernel
theorem dX8_rowFault_40 : decode cX8_rowFault 40 = .ok (.irem, 1) := by decide +kernel
theorem dX8_rowFault_41 : decode cX8_rowFault 41 = .ok (.iconst 1, 1) := by decide +kernel
theorem dX8_rowFault_42 : decode cX8_rowFault 42 = .ok (.if_icmp .ne 19, 3) := by decide +kernel
theorem dX8_rowFault_45 : decode cX8_rowFault 45 = .ok (.aload_n 0, 1) := by decide +kernel
theorem dX8_rowFault_46 : decode cX8_rowFault 46 = .ok (.getfield 22, 3) := by decide +kernel
theorem dX8_rowFault_49 : decode cX8_rowFault 49 = .ok (.iload_n 1, 1) := by decide +kernel
theorem dX8_rowFault_50 : decode cX8_rowFault 50 = .ok (.caload, 1) := by decide +kernel
theorem dX8_rowFault_51 : decode cX8_rowFault 51 = .ok (.bipush 49, 2) := by decide +kernel
theorem dX8_rowFault_53 : decode cX8_rowFault 53 = .ok (.bipush 57, 2) := by decide +kernel
theorem dX8_rowFault_55 : decode cX8_rowFault 55 = .ok (.invokestatic 47, 3) := by decide +kernel
theorem dX8_rowFault_58 : decode cX8_rowFault 58 = .ok (.goto 19, 3) := by decide +kernel
theorem dX8_rowFault_61 : decode cX8_rowFault 61 = .ok (.aload_n 0, 1) := by decide +kernel
theorem dX8_rowFault_62 : decode cX8_rowFault 62 = .ok (.getfield 22, 3) := by decide +kernel
theorem dX8_rowFault_65 : decode cX8_rowFault 65 = .ok (.iload_n 1, 1) := by decide +kernel
theorem dX8_rowFault_66 : decode cX8_rowFault 66 = .ok (.caload, 1) := by decide +kernel
theorem dX8_rowFault_67 : decode cX8_rowFault 67 = .ok (.bipush 44, 2) := by decide +kernel
theorem dX8_rowFault_69 : decode cX8_rowFault 69 = .ok (.if_icmp .ne 7, 3) := by decide +kernel
theorem dX8_rowFault_72 : decode cX8_rowFault 72 = .ok (.iconst 1, 1) := by decide +kernel
theorem dX8_rowFault_73 : decode cX8_rowFault 73 = .ok (.goto 4, 3) := by decide +kernel
theorem dX8_rowFault_76 : decode cX8_rowFault 76 = .ok (.iconst 0, 1) := by decide +kernel
theorem dX8_rowFault_77 : decode cX8_rowFault 77 = .ok (.istore_n 2, 1) := by decide +kernel
theorem dX8_rowFault_78 : decode cX8_rowFault 78 = .ok (.iload_n 1, 1) := by decide +kernel
theorem dX8_rowFault_79 : decode cX8_rowFault 79 = .ok (.iload_n 2, 1) := by decide +kernel
theorem dX8_rowFault_80 : decode cX8_rowFault 80 = .ok (.ifCond .eq 7, 3) := by decide +kernel
theorem dX8_rowFault_83 : decode cX8_rowFault 83 = .ok (.iconst 1, 1) := by decide +kernel
theorem dX8_rowFault_84 : decode cX8_rowFault 84 = .ok (.goto 4, 3) := by decide +kernel
theorem dX8_rowFault_87 : decode cX8_rowFault 87 = .ok (.iconst 0, 1) := by decide +kernel
theorem dX8_rowFault_88 : decode cX8_rowFault 88 = .ok (.iadd, 1) := by decide +kernel
theorem dX8_rowFault_89 : decode cX8_rowFault 89 = .ok (.istore_n 1, 1) := by decide +kernel
theorem dX8_rowFault_90 : decode cX8_rowFault 90 = .ok (.goto (-86), 3) := by decide +kernel
theorem dX8_rowFault_93 : decode cX8_rowFault 93 = .ok (.iload_n 2, 1) := by decide +kernel
theorem dX8_rowFault_94 : decode cX8_rowFault 94 = .ok (.ifCond .eq 18, 3) := by decide +kernel
theorem dX8_rowFault_97 : decode cX8_rowFault 97 = .ok (.aload_n 0, 1) := by decide +kernel
theorem dX8_rowFault_98 : decode cX8_rowFault 98 = .ok (.getfield 141, 3) := by decide +kernel
theorem dX8_rowFault_101 : decode cX8_rowFault 101 = .ok (.iconst 3, 1) := by decide +kernel
theorem dX8_rowFault_102 : decode cX8_rowFault 102 = .ok (.irem, 1) := by decide +kernel
theorem dX8_rowFault_103 : decode cX8_rowFault 103 = .ok (.iconst 2, 1) := by decide +kernel
theorem dX8_rowFault_104 : decode cX8_rowFault 104 = .ok (.if_icmp .ne 8, 3) := by decide +kernel
theorem dX8_rowFault_107 : decode cX8_rowFault 107 = .ok (.ldc 69, 2) := by decide +kernel
theorem dX8_rowFault_109 : decode cX8_rowFault 109 = .ok (.goto 4, 3) := by decide +kernel
theorem dX8_rowFault_112 : decode cX8_rowFault 112 = .ok (.iload_n 1, 1) := by decide +kernel
theorem dX8_rowFault_113 : decode cX8_rowFault 113 = .ok (.ireturn, 1) := by decide +kernel
theorem dX8_isWord_0 : decode cX8_isWord 0 = .ok (.aload_n 0, 1) := by decide +kernel
theorem dX8_isWord_1 : decode cX8_isWord 1 = .ok (.getfield 7, 3) := by decide +kernel
theorem dX8_isWord_4 : decode cX8_isWord 4 = .ok (.bipush 7, 2) := by decide +kernel
theorem dX8_isWord_6 : decode cX8_isWord 6 = .ok (.iaload, 1) := by decide +kernel
theorem dX8_isWord_7 : decode cX8_isWord 7 = .ok (.aload_n 0, 1) := by decide +kernel
theorem dX8_isWord_8 : decode cX8_isWord 8 = .ok (.getfield 141, 3) := by decide +kernel
theorem dX8_isWord_11 : decode cX8_isWord 11 = .ok (.if_icmp .ne 7, 3) := by decide +kernel
theorem dX8_isWord_14 : decode cX8_isWord 14 = .ok (.iconst 1, 1) := by decide +kernel
theorem dX8_isWord_15 : decode cX8_isWord 15 = .ok (.goto 4, 3) := by decide +kernel
theorem dX8_isWord_18 : decode cX8_isWord 18 = .ok (.iconst 0, 1) := by decide +kernel
theorem dX8_isWord_19 : decode cX8_isWord 19 = .ok (.istore_n 1, 1) := by decide +kernel
theorem dX8_isWord_20 : decode cX8_isWord 20 = .ok (.iconst 0, 1) := by decide +kernel
theorem dX8_isWord_21 : decode cX8_isWord 21 = .ok (.istore_n 2, 1) := by decide +kernel
theorem dX8_isWord_22 : decode cX8_isWord 22 = .ok (.iload_n 2, 1) := by decide +kernel
theorem dX8_isWord_23 : decode cX8_isWord 23 = .ok (.aload_n 0, 1) := by decide +kernel
theorem dX8_isWord_24 : decode cX8_isWord 24 = .ok (.getfield 141, 3) := by decide +kernel
theorem dX8_isWord_27 : decode cX8_isWord 27 = .ok (.if_icmp .ge 37, 3) := by decide +kernel
theorem dX8_isWord_30 : decode cX8_isWord 30 = .ok (.iload_n 1, 1) := by decide +kernel
theorem dX8_isWord_31 : decode cX8_isWord 31 = .ok (.ifCond .eq 33, 3) := by decide +kernel
theorem dX8_isWord_34 : decode cX8_isWord 34 = .ok (.aload_n 0, 1) := by decide +kernel
theorem dX8_isWord_35 : decode cX8_isWord 35 = .ok (.getfield 7, 3) := by decide +kernel
theorem dX8_isWord_38 : decode cX8_isWord 38 = .ok (.bipush 108, 2) := by decide +kernel
theorem dX8_isWord_40 : decode cX8_isWord 40 = .ok (.iload_n 2, 1) := by decide +kernel
theorem dX8_isWord_41 : decode cX8_isWord 41 = .ok (.iadd, 1) := by decide +kernel
theorem dX8_isWord_42 : decode cX8_isWord 42 = .ok (.iaload, 1) := by decide +kernel
theorem dX8_isWord_43 : decode cX8_isWord 43 = .ok (.aload_n 0, 1) := by decide +kernel
theorem dX8_isWord_44 : decode cX8_isWord 44 = .ok (.getfield 22, 3) := by decide +kernel
theorem dX8_isWord_47 : decode cX8_isWord 47 = .ok (.iload_n 2, 1) := by decide +kernel
theorem dX8_isWord_48 : decode cX8_isWord 48 = .ok (.caload, 1) := by decide +kernel
theorem dX8_isWord_49 : decode cX8_isWord 49 = .ok (.if_icmp .ne 7, 3) := by decide +kernel
theorem dX8_isWord_52 : decode cX8_isWord 52 = .ok (.iconst 1, 1) := by decide +kernel
theorem dX8_isWord_53 : decode cX8_isWord 53 = .ok (.goto 4, 3) := by decide +kernel
theorem dX8_isWord_56 : decode cX8_isWord 56 = .ok (.iconst 0, 1) := by decide +kernel
theorem dX8_isWord_57 : decode cX8_isWord 57 = .ok (.istore_n 1, 1) := by decide +kernel
theorem dX8_isWord_58 : decode cX8_isWord 58 = .ok (.iinc 2 1, 3) := by decide +kernel
theorem dX8_isWord_61 : decode cX8_isWord 61 = .ok (.goto (-39), 3) := by decide +kernel
theorem dX8_isWord_64 : decode cX8_isWord 64 = .ok (.iload_n 1, 1) := by decide +kernel
theorem dX8_isWord_65 : decode cX8_isWord 65 = .ok (.ireturn, 1) := by decide +kernel
theorem dX8_want_0 : decode cX8_want 0 = .ok (.aload_n 0, 1) := by decide +kernel
theorem dX8_want_1 : decode cX8_want 1 = .ok (.invokevirtual 160, 3) := by decide +kernel
theorem dX8_want_4 : decode cX8_want 4 = .ok (.istore_n 1, 1) := by decide +kernel
theorem dX8_want_5 : decode cX8_want 5 = .ok (.iload_n 1, 1) := by decide +kernel
theorem dX8_want_6 : decode cX8_want 6 = .ok (.ldc 69, 2) := by decide +kernel
theorem dX8_want_8 : decode cX8_want 8 = .ok (.if_icmp .eq 8, 3) := by decide +kernel
theorem dX8_want_11 : decode cX8_want 11 = .ok (.ldc 140, 2) := by decide +kernel
theorem dX8_want_13 : decode cX8_want 13 = .ok (.iload_n 1, 1) := by decide +kernel
theorem dX8_want_14 : decode cX8_want 14 = .ok (.isub, 1) := by decide +kernel
theorem dX8_want_15 : decode cX8_want 15 = .ok (.ireturn, 1) := by decide +kernel
theorem dX8_want_16 : decode cX8_want 16 = .ok (.aload_n 0, 1) := by decide +kernel
theorem dX8_want_17 : decode cX8_want 17 = .ok (.invokevirtual 163, 3) := by decide +kernel
theorem dX8_want_20 : decode cX8_want 20 = .ok (.ifCond .eq 6, 3) := by decide +kernel
theorem dX8_want_23 : decode cX8_want 23 = .ok (.ldc 69, 2) := by decide +kernel
theorem dX8_want_25 : decode cX8_want 25 = .ok (.ireturn, 1) := by decide +kernel
theorem dX8_want_26 : decode cX8_want 26 = .ok (.aload_n 0, 1) := by decide +kernel
theorem dX8_want_27 : decode cX8_want 27 = .ok (.invokevirtual 129, 3) := by decide +kernel
theorem dX8_want_30 : decode cX8_want 30 = .ok (.iconst 0, 1) := by decide +kernel
theorem dX8_want_31 : decode cX8_want 31 = .ok (.istore_n 2, 1) := by decide +kernel
theorem dX8_want_32 : decode cX8_want 32 = .ok (.iload_n 2, 1) := by decide +kernel
theorem dX8_want_33 : decode cX8_want 33 = .ok (.bipush 12, 2) := by decide +kernel
theorem dX8_want_35 : decode cX8_want 35 = .ok (.if_icmp .ge 36, 3) := by decide +kernel
theorem dX8_want_38 : decode cX8_want 38 = .ok (.aload_n 0, 1) := by decide +kernel
theorem dX8_want_39 : decode cX8_want 39 = .ok (.getfield 7, 3) := by decide +kernel
theorem dX8_want_42 : decode cX8_want 42 = .ok (.bipush 108, 2) := by decide +kernel
theorem dX8_want_44 : decode cX8_want 44 = .ok (.iload_n 2, 1) := by decide +kernel
theorem dX8_want_45 : decode cX8_want 45 = .ok (.iadd, 1) := by decide +kernel
theorem dX8_want_46 : decode cX8_want 46 = .ok (.iload_n 2, 1) := by decide +kernel
theorem dX8_want_47 : decode cX8_want 47 = .ok (.aload_n 0, 1) := by decide +kernel
theorem dX8_want_48 : decode cX8_want 48 = .ok (.getfield 141, 3) := by decide +kernel
theorem dX8_want_51 : decode cX8_want 51 = .ok (.if_icmp .ge 12, 3) := by decide +kernel
theorem dX8_want_54 : decode cX8_want 54 = .ok (.aload_n 0, 1) := by decide +kernel
theorem dX8_want_55 : decode cX8_want 55 = .ok (.getfield 22, 3) := by decide +kernel
theorem dX8_want_58 : decode cX8_want 58 = .ok (.iload_n 2, 1) := by decide +kernel
theorem dX8_want_59 : decode cX8_want 59 = .ok (.caload, 1) := by decide +kernel
theorem dX8_want_60 : decode cX8_want 60 = .ok (.goto 4, 3) := by decide +kernel
theorem dX8_want_63 : decode cX8_want 63 = .ok (.iconst 0, 1) := by decide +kernel
theorem dX8_want_64 : decode cX8_want 64 = .ok (.iastore, 1) := by decide +kernel
theorem dX8_want_65 : decode cX8_want 65 = .ok (.iinc 2 1, 3) := by decide +kernel
theorem dX8_want_68 : decode cX8_want 68 = .ok (.goto (-36), 3) := by decide +kernel
theorem dX8_want_71 : decode cX8_want 71 = .ok (.aload_n 0, 1) := by decide +kernel
theorem dX8_want_72 : decode cX8_want 72 = .ok (.getfield 7, 3) := by decide +kernel
theorem dX8_want_75 : decode cX8_want 75 = .ok (.bipush 7, 2) := by decide +kernel
theorem dX8_want_77 : decode cX8_want 77 = .ok (.aload_n 0, 1) := by decide +kernel
theorem dX8_want_78 : decode cX8_want 78 = .ok (.getfield 141, 3) := by decide +kernel
theorem dX8_want_81 : decode cX8_want 81 = .ok (.iastore, 1) := by decide +kernel
theorem dX8_want_82 : decode cX8_want 82 = .ok (.aload_n 0, 1) := by decide +kernel
theorem dX8_want_83 : decode cX8_want 83 = .ok (.getfield 141, 3) := by decide +kernel
theorem dX8_want_86 : decode cX8_want 86 = .ok (.ireturn, 1) := by decide +kernel
theorem dX8_type_0 : decode cX8_type 0 = .ok (.aload_n 0, 1) := by decide +kernel
theorem dX8_type_1 : decode cX8_type 1 = .ok (.getfield 141, 3) := by decide +kernel
theorem dX8_type_4 : decode cX8_type 4 = .ok (.bipush 60, 2) := by decide +kernel
theorem dX8_type_6 : decode cX8_type 6 = .ok (.if_icmp .ne 6, 3) := by decide +kernel
theorem dX8_type_9 : decode cX8_type 9 = .ok (.ldc 128, 2) := by decide +kernel
theorem dX8_type_11 : decode cX8_type 11 = .ok (.ireturn, 1) := by decide +kernel
theorem dX8_type_12 : decode cX8_type 12 = .ok (.aload_n 0, 1) := by decide +kernel
theorem dX8_type_13 : decode cX8_type 13 = .ok (.getfield 22, 3) := by decide +kernel
theorem dX8_type_16 : decode cX8_type 16 = .ok (.aload_n 0, 1) := by decide +kernel
theorem dX8_type_17 : decode cX8_type 17 = .ok (.getfield 141, 3) := by decide +kernel
theorem dX8_type_20 : decode cX8_type 20 = .ok (.iload_n 1, 1) := by decide +kernel
theorem dX8_type_21 : decode cX8_type 21 = .ok (.castore, 1) := by decide +kernel
theorem dX8_type_22 : decode cX8_type 22 = .ok (.aload_n 0, 1) := by decide +kernel
theorem dX8_type_23 : decode cX8_type 23 = .ok (.dup, 1) := by decide +kernel
theorem dX8_type_24 : decode cX8_type 24 = .ok (.getfield 141, 3) := by decide +kernel
theorem dX8_type_27 : decode cX8_type 27 = .ok (.iconst 1, 1) := by decide +kernel
theorem dX8_type_28 : decode cX8_type 28 = .ok (.iadd, 1) := by decide +kernel
theorem dX8_type_29 : decode cX8_type 29 = .ok (.putfield 141, 3) := by decide +kernel
theorem dX8_type_32 : decode cX8_type 32 = .ok (.aload_n 0, 1) := by decide +kernel
theorem dX8_type_33 : decode cX8_type 33 = .ok (.getfield 141, 3) := by decide +kernel
theorem dX8_type_36 : decode cX8_type 36 = .ok (.ireturn, 1) := by decide +kernel
theorem dX8_clearText_0 : decode cX8_clearText 0 = .ok (.aload_n 0, 1) := by decide +kernel
theorem dX8_clearText_1 : decode cX8_clearText 1 = .ok (.getfield 141, 3) := by decide +kernel
theorem dX8_clearText_4 : decode cX8_clearText 4 = .ok (.istore_n 1, 1) := by decide +kernel
theorem dX8_clearText_5 : decode cX8_clearText 5 = .ok (.aload_n 0, 1) := by decide +kernel
theorem dX8_clearText_6 : decode cX8_clearText 6 = .ok (.iconst 0, 1) := by decide +kernel
theorem dX8_clearText_7 : decode cX8_clearText 7 = .ok (.putfield 141, 3) := by decide +kernel
theorem dX8_clearText_10 : decode cX8_clearText 10 = .ok (.iload_n 1, 1) := by decide +kernel
theorem dX8_clearText_11 : decode cX8_clearText 11 = .ok (.ireturn, 1) := by decide +kernel
theorem dX8_undo_0 : decode cX8_undo 0 = .ok (.aload_n 0, 1) := by decide +kernel
theorem dX8_undo_1 : decode cX8_undo 1 = .ok (.getfield 39, 3) := by decide +kernel
theorem dX8_undo_4 : decode cX8_undo 4 = .ok (.ifCond .ne 6, 3) := by decide +kernel
theorem dX8_undo_7 : decode cX8_undo 7 = .ok (.ldc 69, 2) := by decide +kernel
theorem dX8_undo_9 : decode cX8_undo 9 = .ok (.ireturn, 1) := by decide +kernel
theorem dX8_undo_10 : decode cX8_undo 10 = .ok (.aload_n 0, 1) := by decide +kernel
theorem dX8_undo_11 : decode cX8_undo 11 = .ok (.dup, 1) := by decide +kernel
theorem dX8_undo_12 : decode cX8_undo 12 = .ok (.getfield 39, 3) := by decide +kernel
theorem dX8_undo_15 : decode cX8_undo 15 = .ok (.iconst 1, 1) := by decide +kernel
theorem dX8_undo_16 : decode cX8_undo 16 = .ok (.isub, 1) := by decide +kernel
theorem dX8_undo_17 : decode cX8_undo 17 = .ok (.putfield 39, 3) := by decide +kernel
theorem dX8_undo_20 : decode cX8_undo 20 = .ok (.aload_n 0, 1) := by decide +kernel
theorem dX8_undo_21 : decode cX8_undo 21 = .ok (.getfield 16, 3) := by decide +kernel
theorem dX8_undo_24 : decode cX8_undo 24 = .ok (.sipush 152, 3) := by decide +kernel
theorem dX8_undo_27 : decode cX8_undo 27 = .ok (.aload_n 0, 1) := by decide +kernel
theorem dX8_undo_28 : decode cX8_undo 28 = .ok (.getfield 39, 3) := by decide +kernel
theorem dX8_undo_31 : decode cX8_undo 31 = .ok (.imul, 1) := by decide +kernel
theorem dX8_undo_32 : decode cX8_undo 32 = .ok (.aload_n 0, 1) := by decide +kernel
theorem dX8_undo_33 : decode cX8_undo 33 = .ok (.getfield 7, 3) := by decide +kernel
theorem dX8_undo_36 : decode cX8_undo 36 = .ok (.iconst 0, 1) := by decide +kernel
theorem dX8_undo_37 : decode cX8_undo 37 = .ok (.invokestatic 43, 3) := by decide +kernel
theorem dX8_undo_40 : decode cX8_undo 40 = .ok (.aload_n 0, 1) := by decide +kernel
theorem dX8_undo_41 : decode cX8_undo 41 = .ok (.getfield 39, 3) := by decide +kernel
theorem dX8_undo_44 : decode cX8_undo 44 = .ok (.ireturn, 1) := by decide +kernel
theorem dX8_keep_0 : decode cX8_keep 0 = .ok (.aload_n 0, 1) := by decide +kernel
theorem dX8_keep_1 : decode cX8_keep 1 = .ok (.getfield 7, 3) := by decide +kernel
theorem dX8_keep_4 : decode cX8_keep 4 = .ok (.iconst 0, 1) := by decide +kernel
theorem dX8_keep_5 : decode cX8_keep 5 = .ok (.aload_n 0, 1) := by decide +kernel
theorem dX8_keep_6 : decode cX8_keep 6 = .ok (.getfield 19, 3) := by decide +kernel
theorem dX8_keep_9 : decode cX8_keep 9 = .ok (.iconst 0, 1) := by decide +kernel
theorem dX8_keep_10 : decode cX8_keep 10 = .ok (.invokestatic 43, 3) := by decide +kernel
theorem dX8_keep_13 : decode cX8_keep 13 = .ok (.aload_n 0, 1) := by decide +kernel
theorem dX8_keep_14 : decode cX8_keep 14 = .ok (.iconst 1, 1) := by decide +kernel
theorem dX8_keep_15 : decode cX8_keep 15 = .ok (.putfield 167, 3) := by decide +kernel
theorem dX8_keep_18 : decode cX8_keep 18 = .ok (.aload_n 0, 1) := by decide +kernel
theorem dX8_keep_19 : decode cX8_keep 19 = .ok (.getfield 7, 3) := by decide +kernel
theorem dX8_keep_22 : decode cX8_keep 22 = .ok (.iconst 1, 1) := by decide +kernel
theorem dX8_keep_23 : decode cX8_keep 23 = .ok (.iaload, 1) := by decide +kernel
theorem dX8_keep_24 : decode cX8_keep 24 = .ok (.ireturn, 1) := by decide +kernel
theorem dX8_restore_0 : decode cX8_restore 0 = .ok (.aload_n 0, 1) := by decide +kernel
theorem dX8_restore_1 : decode cX8_restore 1 = .ok (.getfield 167, 3) := by decide +kernel
theorem dX8_restore_4 : decode cX8_restore 4 = .ok (.ifCond .ne 6, 3) := by decide +kernel
theorem dX8_restore_7 : decode cX8_restore 7 = .ok (.ldc 69, 2) := by decide +kernel
theorem dX8_restore_9 : decode cX8_restore 9 = .ok (.ireturn, 1) := by decide +kernel
theorem dX8_restore_10 : decode cX8_restore 10 = .ok (.aload_n 0, 1) := by decide +kernel
theorem dX8_restore_11 : decode cX8_restore 11 = .ok (.invokevirtual 129, 3) := by decide +kernel
theorem dX8_restore_14 : decode cX8_restore 14 = .ok (.aload_n 0, 1) := by decide +kernel
theorem dX8_restore_15 : decode cX8_restore 15 = .ok (.getfield 19, 3) := by decide +kernel
theorem dX8_restore_18 : decode cX8_restore 18 = .ok (.iconst 0, 1) := by decide +kernel
theorem dX8_restore_19 : decode cX8_restore 19 = .ok (.aload_n 0, 1) := by decide +kernel
theorem dX8_restore_20 : decode cX8_restore 20 = .ok (.getfield 7, 3) := by decide +kernel
theorem dX8_restore_23 : decode cX8_restore 23 = .ok (.iconst 0, 1) := by decide +kernel
theorem dX8_restore_24 : decode cX8_restore 24 = .ok (.invokestatic 43, 3) := by decide +kernel
theorem dX8_restore_27 : decode cX8_restore 27 = .ok (.aload_n 0, 1) := by decide +kernel
theorem dX8_restore_28 : decode cX8_restore 28 = .ok (.getfield 7, 3) := by decide +kernel
theorem dX8_restore_31 : decode cX8_restore 31 = .ok (.iconst 1, 1) := by decide +kernel
theorem dX8_restore_32 : decode cX8_restore 32 = .ok (.iaload, 1) := by decide +kernel
theorem dX8_restore_33 : decode cX8_restore 33 = .ok (.ireturn, 1) := by decide +kernel
theorem dX8_partner_0 : decode cX8_partner 0 = .ok (.ldc 69, 2) := by decide +kernel
theorem dX8_partner_2 : decode cX8_partner 2 = .ok (.istore_n 2, 1) := by decide +kernel
theorem dX8_partner_3 : decode cX8_partner 3 = .ok (.iconst 0, 1) := by decide +kernel
theorem dX8_partner_4 : decode cX8_partner 4 = .ok (.istore_n 3, 1) := by decide +kernel
theorem dX8_partner_5 : decode cX8_partner 5 = .ok (.iload_n 3, 1) := by decide +kernel
theorem dX8_partner_6 : decode cX8_partner 6 = .ok (.aload_n 0, 1) := by decide +kernel
theorem dX8_partner_7 : decode cX8_partner 7 = .ok (.getfield 7, 3) := by decide +kernel
theorem dX8_partner_10 : decode cX8_partner 10 = .ok (.iconst 0, 1) := by decide +kernel
theorem dX8_partner_11 : decode cX8_partner 11 = .ok (.iaload, 1) := by decide +kernel
theorem dX8_partner_12 : decode cX8_partner 12 = .ok (.if_icmp .ge 47, 3) := by decide +kernel
theorem dX8_partner_15 : decode cX8_partner 15 = .ok (.aload_n 0, 1) := by decide +kernel
theorem dX8_partner_16 : decode cX8_partner 16 = .ok (.getfield 7, 3) := by decide +kernel
theorem dX8_partner_19 : decode cX8_partner 19 = .ok (.iload_n 1, 1) := by decide +kernel
theorem dX8_partner_20 : decode cX8_partner 20 = .ok (.invokestatic 59, 3) := by decide +kernel
theorem dX8_partner_23 : decode cX8_partner 23 = .ok (.ifCond .eq 36, 3) := by decide +kernel
theorem dX8_partner_26 : decode cX8_partner 26 = .ok (.aload_n 0, 1) := by decide +kernel
theorem dX8_partner_27 : decode cX8_partner 27 = .ok (.getfield 7, 3) := by decide +kernel
theorem dX8_partner_30 : decode cX8_partner 30 = .ok (.iload_n 3, 1) := by decide +kernel
theorem dX8_partner_31 : decode cX8_partner 31 = .ok (.iconst 0, 1) := by decide +kernel
theorem dX8_partner_32 : decode cX8_partner 32 = .ok (.invokestatic 51, 3) := by decide +kernel
theorem dX8_partner_35 : decode cX8_partner 35 = .ok (.aload_n 0, 1) := by decide +kernel
theorem dX8_partner_36 : decode cX8_partner 36 = .ok (.getfield 7, 3) := by decide +kernel
theorem dX8_partner_39 : decode cX8_partner 39 = .ok (.iload_n 1, 1) := by decide +kernel
theorem dX8_partner_40 : decode cX8_partner 40 = .ok (.iconst 3, 1) := by decide +kernel
theorem dX8_partner_41 : decode cX8_partner 41 = .ok (.invokestatic 51, 3) := by decide +kernel
theorem dX8_partner_44 : decode cX8_partner 44 = .ok (.if_icmp .ne 7, 3) := by decide +kernel
theorem dX8_partner_47 : decode cX8_partner 47 = .ok (.iload_n 3, 1) := by decide +kernel
theorem dX8_partner_48 : decode cX8_partner 48 = .ok (.goto 4, 3) := by decide +kernel
theorem dX8_partner_51 : decode cX8_partner 51 = .ok (.iload_n 2, 1) := by decide +kernel
theorem dX8_partner_52 : decode cX8_partner 52 = .ok (.istore_n 2, 1) := by decide +kernel
theorem dX8_partner_53 : decode cX8_partner 53 = .ok (.iinc 3 1, 3) := by decide +kernel
theorem dX8_partner_56 : decode cX8_partner 56 = .ok (.goto (-51), 3) := by decide +kernel
theorem dX8_partner_59 : decode cX8_partner 59 = .ok (.iload_n 2, 1) := by decide +kernel
theorem dX8_partner_60 : decode cX8_partner 60 = .ok (.ireturn, 1) := by decide +kernel
theorem dX8_flier_0 : decode cX8_flier 0 = .ok (.aload_n 0, 1) := by decide +kernel
theorem dX8_flier_1 : decode cX8_flier 1 = .ok (.iload_n 1, 1) := by decide +kernel
theorem dX8_flier_2 : decode cX8_flier 2 = .ok (.invokevirtual 144, 3) := by decide +kernel
theorem dX8_flier_5 : decode cX8_flier 5 = .ok (.ifCond .ne 6, 3) := by decide +kernel
theorem dX8_flier_8 : decode cX8_flier 8 = .ok (.ldc 147, 2) := by decide +kernel
theorem dX8_flier_10 : decode cX8_flier 10 = .ok (.ireturn, 1) := by decide +kernel
theorem dX8_flier_11 : decode cX8_flier 11 = .ok (.iload_n 2, 1) := by decide +kernel
theorem dX8_flier_12 : decode cX8_flier 12 = .ok (.tableswitch 110 0 7 #[48, 48, 48, 58, 67, 73, 83, 100], 48) := by decide +kernel
theorem dX8_flier_60 : decode cX8_flier 60 = .ok (.aload_n 0, 1) := by decide +kernel
theorem dX8_flier_61 : decode cX8_flier 61 = .ok (.getfield 7, 3) := by decide +kernel
theorem dX8_flier_64 : decode cX8_flier 64 = .ok (.iload_n 1, 1) := by decide +kernel
theorem dX8_flier_65 : decode cX8_flier 65 = .ok (.iload_n 2, 1) := by decide +kernel
theorem dX8_flier_66 : decode cX8_flier 66 = .ok (.invokestatic 51, 3) := by decide +kernel
theorem dX8_flier_69 : decode cX8_flier 69 = .ok (.ireturn, 1) := by decide +kernel
theorem dX8_flier_70 : decode cX8_flier 70 = .ok (.aload_n 0, 1) := by decide +kernel
theorem dX8_flier_71 : decode cX8_flier 71 = .ok (.getfield 7, 3) := by decide +kernel
theorem dX8_flier_74 : decode cX8_flier 74 = .ok (.iload_n 1, 1) := by decide +kernel
theorem dX8_flier_75 : decode cX8_flier 75 = .ok (.invokestatic 63, 3) := by decide +kernel
theorem dX8_flier_78 : decode cX8_flier 78 = .ok (.ireturn, 1) := by decide +kernel
theorem dX8_flier_79 : decode cX8_flier 79 = .ok (.aload_n 0, 1) := by decide +kernel
theorem dX8_flier_80 : decode cX8_flier 80 = .ok (.iload_n 1, 1) := by decide +kernel
theorem dX8_flier_81 : decode cX8_flier 81 = .ok (.invokevirtual 171, 3) := by decide +kernel
theorem dX8_flier_84 : decode cX8_flier 84 = .ok (.ireturn, 1) := by decide +kernel
theorem dX8_flier_85 : decode cX8_flier 85 = .ok (.aload_n 0, 1) := by decide +kernel
theorem dX8_flier_86 : decode cX8_flier 86 = .ok (.getfield 7, 3) := by decide +kernel
theorem dX8_flier_89 : decode cX8_flier 89 = .ok (.iload_n 1, 1) := by decide +kernel
theorem dX8_flier_90 : decode cX8_flier 90 = .ok (.iconst 4, 1) := by decide +kernel
theorem dX8_flier_91 : decode cX8_flier 91 = .ok (.invokestatic 51, 3) := by decide +kernel
theorem dX8_flier_94 : decode cX8_flier 94 = .ok (.ireturn, 1) := by decide +kernel
theorem dX8_flier_95 : decode cX8_flier 95 = .ok (.aload_n 0, 1) := by decide +kernel
theorem dX8_flier_96 : decode cX8_flier 96 = .ok (.getfield 7, 3) := by decide +kernel
theorem dX8_flier_99 : decode cX8_flier 99 = .ok (.iload_n 1, 1) := by decide +kernel
theorem dX8_flier_100 : decode cX8_flier 100 = .ok (.invokestatic 66, 3) := by decide +kernel
theorem dX8_flier_103 : decode cX8_flier 103 = .ok (.ifCond .eq 7, 3) := by decide +kernel
theorem dX8_flier_106 : decode cX8_flier 106 = .ok (.iconst 1, 1) := by decide +kernel
theorem dX8_flier_107 : decode cX8_flier 107 = .ok (.goto 4, 3) := by decide +kernel
theorem dX8_flier_110 : decode cX8_flier 110 = .ok (.iconst 0, 1) := by decide +kernel
theorem dX8_flier_111 : decode cX8_flier 111 = .ok (.ireturn, 1) := by decide +kernel
theorem dX8_flier_112 : decode cX8_flier 112 = .ok (.aload_n 0, 1) := by decide +kernel
theorem dX8_flier_113 : decode cX8_flier 113 = .ok (.getfield 7, 3) := by decide +kernel
theorem dX8_flier_116 : decode cX8_flier 116 = .ok (.iload_n 1, 1) := by decide +kernel
theorem dX8_flier_117 : decode cX8_flier 117 = .ok (.iconst 5, 1) := by decide +kernel
theorem dX8_flier_118 : decode cX8_flier 118 = .ok (.invokestatic 51, 3) := by decide +kernel
theorem dX8_flier_121 : decode cX8_flier 121 = .ok (.ireturn, 1) := by decide +kernel
theorem dX8_flier_122 : decode cX8_flier 122 = .ok (.ldc 123, 2) := by decide +kernel
theorem dX8_flier_124 : decode cX8_flier 124 = .ok (.ireturn, 1) := by decide +kernel
theorem dX8_reads_0 : decode cX8_reads 0 = .ok (.iload_n 1, 1) := by decide +kernel
theorem dX8_reads_1 : decode cX8_reads 1 = .ok (.ifCond .ge 6, 3) := by decide +kernel
theorem dX8_reads_4 : decode cX8_reads 4 = .ok (.ldc 123, 2) := by decide +kernel
theorem dX8_reads_6 : decode cX8_reads 6 = .ok (.ireturn, 1) := by decide +kernel
theorem dX8_reads_7 : decode cX8_reads 7 = .ok (.aload_n 0, 1) := by decide +kernel
theorem dX8_reads_8 : decode cX8_reads 8 = .ok (.getfield 7, 3) := by decide +kernel
theorem dX8_reads_11 : decode cX8_reads 11 = .ok (.iload_n 1, 1) := by decide +kernel
theorem dX8_reads_12 : decode cX8_reads 12 = .ok (.invokestatic 74, 3) := by decide +kernel
theorem dX8_reads_15 : decode cX8_reads 15 = .ok (.istore_n 2, 1) := by decide +kernel
theorem dX8_reads_16 : decode cX8_reads 16 = .ok (.iload_n 2, 1) := by decide +kernel
theorem dX8_reads_17 : decode cX8_reads 17 = .ok (.ldc 69, 2) := by decide +kernel
theorem dX8_reads_19 : decode cX8_reads 19 = .ok (.if_icmp .ne 8, 3) := by decide +kernel
theorem dX8_reads_22 : decode cX8_reads 22 = .ok (.ldc 69, 2) := by decide +kernel
theorem dX8_reads_24 : decode cX8_reads 24 = .ok (.goto 12, 3) := by decide +kernel
theorem dX8_reads_27 : decode cX8_reads 27 = .ok (.aload_n 0, 1) := by decide +kernel
theorem dX8_reads_28 : decode cX8_reads 28 = .ok (.getfield 7, 3) := by decide +kernel
theorem dX8_reads_31 : decode cX8_reads 31 = .ok (.iload_n 2, 1) := by decide +kernel
theorem dX8_reads_32 : decode cX8_reads 32 = .ok (.iconst 1, 1) := by decide +kernel
theorem dX8_reads_33 : decode cX8_reads 33 = .ok (.invokestatic 51, 3) := by decide +kernel
theorem dX8_reads_36 : decode cX8_reads 36 = .ok (.ireturn, 1) := by decide +kernel
theorem dX8_ifTraded_0 : decode cX8_ifTraded 0 = .ok (.iload_n 1, 1) := by decide +kernel
theorem dX8_ifTraded_1 : decode cX8_ifTraded 1 = .ok (.iconst 0, 1) := by decide +kernel
theorem dX8_ifTraded_2 : decode cX8_ifTraded 2 = .ok (.aload_n 0, 1) := by decide +kernel
theorem dX8_ifTraded_3 : decode cX8_ifTraded 3 = .ok (.getfield 7, 3) := by decide +kernel
theorem dX8_ifTraded_6 : decode cX8_ifTraded 6 = .ok (.iconst 0, 1) := by decide +kernel
theorem dX8_ifTraded_7 : decode cX8_ifTraded 7 = .ok (.iaload, 1) := by decide +kernel
theorem dX8_ifTraded_8 : decode cX8_ifTraded 8 = .ok (.iconst 2, 1) := by decide +kernel
theorem dX8_ifTraded_9 : decode cX8_ifTraded 9 = .ok (.isub, 1) := by decide +kernel
theorem dX8_ifTraded_10 : decode cX8_ifTraded 10 = .ok (.invokestatic 47, 3) := by decide +kernel
theorem dX8_ifTraded_13 : decode cX8_ifTraded 13 = .ok (.ifCond .ne 6, 3) := by decide +kernel
theorem dX8_ifTraded_16 : decode cX8_ifTraded 16 = .ok (.ldc 147, 2) := by decide +kernel
theorem dX8_ifTraded_18 : decode cX8_ifTraded 18 = .ok (.ireturn, 1) := by decide +kernel
theorem dX8_ifTraded_19 : decode cX8_ifTraded 19 = .ok (.iload_n 2, 1) := by decide +kernel
theorem dX8_ifTraded_20 : decode cX8_ifTraded 20 = .ok (.iconst 0, 1) := by decide +kernel
theorem dX8_ifTraded_21 : decode cX8_ifTraded 21 = .ok (.iconst 2, 1) := by decide +kernel
theorem dX8_ifTraded_22 : decode cX8_ifTraded 22 = .ok (.invokestatic 47, 3) := by decide +kernel
theorem dX8_ifTraded_25 : decode cX8_ifTraded 25 = .ok (.ifCond .ne 6, 3) := by decide +kernel
theorem dX8_ifTraded_28 : decode cX8_ifTraded 28 = .ok (.ldc 123, 2) := by decide +kernel
theorem dX8_ifTraded_30 : decode cX8_ifTraded 30 = .ok (.ireturn, 1) := by decide +kernel
theorem dX8_ifTraded_31 : decode cX8_ifTraded 31 = .ok (.iload_n 2, 1) := by decide +kernel
theorem dX8_ifTraded_32 : decode cX8_ifTraded 32 = .ok (.iconst 1, 1) := by decide +kernel
theorem dX8_ifTraded_33 : decode cX8_ifTraded 33 = .ok (.if_icmp .ne 20, 3) := by decide +kernel
theorem dX8_ifTraded_36 : decode cX8_ifTraded 36 = .ok (.aload_n 0, 1) := by decide +kernel
theorem dX8_ifTraded_37 : decode cX8_ifTraded 37 = .ok (.getfield 7, 3) := by decide +kernel
theorem dX8_ifTraded_40 : decode cX8_ifTraded 40 = .ok (.iload_n 1, 1) := by decide +kernel
theorem dX8_ifTraded_41 : decode cX8_ifTraded 41 = .ok (.invokestatic 117, 3) := by decide +kernel
theorem dX8_ifTraded_44 : decode cX8_ifTraded 44 = .ok (.ifCond .eq 7, 3) := by decide +kernel
theorem dX8_ifTraded_47 : decode cX8_ifTraded 47 = .ok (.iconst 1, 1) := by decide +kernel
theorem dX8_ifTraded_48 : decode cX8_ifTraded 48 = .ok (.goto 4, 3) := by decide +kernel
theorem dX8_ifTraded_51 : decode cX8_ifTraded 51 = .ok (.iconst 0, 1) := by decide +kernel
theorem dX8_ifTraded_52 : decode cX8_ifTraded 52 = .ok (.ireturn, 1) := by decide +kernel
theorem dX8_ifTraded_53 : decode cX8_ifTraded 53 = .ok (.aload_n 0, 1) := by decide +kernel
theorem dX8_ifTraded_54 : decode cX8_ifTraded 54 = .ok (.aload_n 0, 1) := by decide +kernel
theorem dX8_ifTraded_55 : decode cX8_ifTraded 55 = .ok (.getfield 7, 3) := by decide +kernel
theorem dX8_ifTraded_58 : decode cX8_ifTraded 58 = .ok (.invokevirtual 114, 3) := by decide +kernel
theorem dX8_ifTraded_61 : decode cX8_ifTraded 61 = .ok (.istore_n 3, 1) := by decide +kernel
theorem dX8_ifTraded_62 : decode cX8_ifTraded 62 = .ok (.iload_n 3, 1) := by decide +kernel
theorem dX8_ifTraded_63 : decode cX8_ifTraded 63 = .ok (.ldc 69, 2) := by decide +kernel
theorem dX8_ifTraded_65 : decode cX8_ifTraded 65 = .ok (.if_icmp .ne 6, 3) := by decide +kernel
theorem dX8_ifTraded_68 : decode cX8_ifTraded 68 = .ok (.ldc 69, 2) := by decide +kernel
theorem dX8_ifTraded_70 : decode cX8_ifTraded 70 = .ok (.ireturn, 1) := by decide +kernel
theorem dX8_ifTraded_71 : decode cX8_ifTraded 71 = .ok (.aload_n 0, 1) := by decide +kernel
theorem dX8_ifTraded_72 : decode cX8_ifTraded 72 = .ok (.aload_n 0, 1) := by decide +kernel
theorem dX8_ifTraded_73 : decode cX8_ifTraded 73 = .ok (.getfield 7, 3) := by decide +kernel
theorem dX8_ifTraded_76 : decode cX8_ifTraded 76 = .ok (.iload_n 1, 1) := by decide +kernel
theorem dX8_ifTraded_77 : decode cX8_ifTraded 77 = .ok (.invokevirtual 120, 3) := by decide +kernel
theorem dX8_ifTraded_80 : decode cX8_ifTraded 80 = .ok (.istore 4, 2) := by decide +kernel
theorem dX8_ifTraded_82 : decode cX8_ifTraded 82 = .ok (.iload_n 2, 1) := by decide +kernel
theorem dX8_ifTraded_83 : decode cX8_ifTraded 83 = .ok (.iconst 2, 1) := by decide +kernel
theorem dX8_ifTraded_84 : decode cX8_ifTraded 84 = .ok (.if_icmp .ne 8, 3) := by decide +kernel
theorem dX8_ifTraded_87 : decode cX8_ifTraded 87 = .ok (.iload 4, 2) := by decide +kernel
theorem dX8_ifTraded_89 : decode cX8_ifTraded 89 = .ok (.goto 14, 3) := by decide +kernel
theorem dX8_ifTraded_92 : decode cX8_ifTraded 92 = .ok (.iload 4, 2) := by decide +kernel
theorem dX8_ifTraded_94 : decode cX8_ifTraded 94 = .ok (.iload_n 3, 1) := by decide +kernel
theorem dX8_ifTraded_95 : decode cX8_ifTraded 95 = .ok (.if_icmp .ge 7, 3) := by decide +kernel
theorem dX8_ifTraded_98 : decode cX8_ifTraded 98 = .ok (.iconst 1, 1) := by decide +kernel
theorem dX8_ifTraded_99 : decode cX8_ifTraded 99 = .ok (.goto 4, 3) := by decide +kernel
theorem dX8_ifTraded_102 : decode cX8_ifTraded 102 = .ok (.iconst 0, 1) := by decide +kernel
theorem dX8_ifTraded_103 : decode cX8_ifTraded 103 = .ok (.ireturn, 1) := by decide +kernel
theorem dX8_nextTrade_0 : decode cX8_nextTrade 0 = .ok (.aload_n 0, 1) := by decide +kernel
theorem dX8_nextTrade_1 : decode cX8_nextTrade 1 = .ok (.aload_n 0, 1) := by decide +kernel
theorem dX8_nextTrade_2 : decode cX8_nextTrade 2 = .ok (.getfield 7, 3) := by decide +kernel
theorem dX8_nextTrade_5 : decode cX8_nextTrade 5 = .ok (.invokevirtual 174, 3) := by decide +kernel
theorem dX8_nextTrade_8 : decode cX8_nextTrade 8 = .ok (.ireturn, 1) := by decide +kernel
theorem dX8_spelledIn_0 : decode cX8_spelledIn 0 = .ok (.aload_n 0, 1) := by decide +kernel
theorem dX8_spelledIn_1 : decode cX8_spelledIn 1 = .ok (.getfield 7, 3) := by decide +kernel
theorem dX8_spelledIn_4 : decode cX8_spelledIn 4 = .ok (.iconst 0, 1) := by decide +kernel
theorem dX8_spelledIn_5 : decode cX8_spelledIn 5 = .ok (.aload_n 0, 1) := by decide +kernel
theorem dX8_spelledIn_6 : decode cX8_spelledIn 6 = .ok (.getfield 13, 3) := by decide +kernel
theorem dX8_spelledIn_9 : decode cX8_spelledIn 9 = .ok (.iconst 0, 1) := by decide +kernel
theorem dX8_spelledIn_10 : decode cX8_spelledIn 10 = .ok (.invokestatic 43, 3) := by decide +kernel
theorem dX8_spelledIn_13 : decode cX8_spelledIn 13 = .ok (.iconst 0, 1) := by decide +kernel
theorem dX8_spelledIn_14 : decode cX8_spelledIn 14 = .ok (.istore_n 1, 1) := by decide +kernel
theorem dX8_spelledIn_15 : decode cX8_spelledIn 15 = .ok (.iload_n 1, 1) := by decide +kernel
theorem dX8_spelledIn_16 : decode cX8_spelledIn 16 = .ok (.sipush 200, 3) := by decide +kernel
theorem dX8_spelledIn_19 : decode cX8_spelledIn 19 = .ok (.if_icmp .gt 74, 3) := by decide +kernel
theorem dX8_spelledIn_22 : decode cX8_spelledIn 22 = .ok (.aload_n 0, 1) := by decide +kernel
theorem dX8_spelledIn_23 : decode cX8_spelledIn 23 = .ok (.getfield 13, 3) := by decide +kernel
theorem dX8_spelledIn_26 : decode cX8_spelledIn 26 = .ok (.invokestatic 177, 3) := by decide +kernel
theorem dX8_spelledIn_29 : decode cX8_spelledIn 29 = .ok (.ifCond .eq 5, 3) := by decide +kernel
theorem dX8_spelledIn_32 : decode cX8_spelledIn 32 = .ok (.iload_n 1, 1) := by decide +kernel
theorem dX8_spelledIn_33 : decode cX8_spelledIn 33 = .ok (.ireturn, 1) := by decide +kernel
theorem dX8_spelledIn_34 : decode cX8_spelledIn 34 = .ok (.aload_n 0, 1) := by decide +kernel
theorem dX8_spelledIn_35 : decode cX8_spelledIn 35 = .ok (.aload_n 0, 1) := by decide +kernel
theorem dX8_spelledIn_36 : decode cX8_spelledIn 36 = .ok (.getfield 13, 3) := by decide +kernel
theorem dX8_spelledIn_39 : decode cX8_spelledIn 39 = .ok (.invokevirtual 174, 3) := by decide +kernel
theorem dX8_spelledIn_42 : decode cX8_spelledIn 42 = .ok (.istore_n 2, 1) := by decide +kernel
theorem dX8_spelledIn_43 : decode cX8_spelledIn 43 = .ok (.iload_n 2, 1) := by decide +kernel
theorem dX8_spelledIn_44 : decode cX8_spelledIn 44 = .ok (.ldc 69, 2) := by decide +kernel
theorem dX8_spelledIn_46 : decode cX8_spelledIn 46 = .ok (.if_icmp .eq 19, 3) := by decide +kernel
theorem dX8_spelledIn_49 : decode cX8_spelledIn 49 = .ok (.aload_n 0, 1) := by decide +kernel
theorem dX8_spelledIn_50 : decode cX8_spelledIn 50 = .ok (.aload_n 0, 1) := by decide +kernel
theorem dX8_spelledIn_51 : decode cX8_spelledIn 51 = .ok (.getfield 13, 3) := by decide +kernel
theorem dX8_spelledIn_54 : decode cX8_spelledIn 54 = .ok (.iload_n 2, 1) := by decide +kernel
theorem dX8_spelledIn_55 : decode cX8_spelledIn 55 = .ok (.invokevirtual 149, 3) := by decide +kernel
theorem dX8_spelledIn_58 : decode cX8_spelledIn 58 = .ok (.ifCond .eq 7, 3) := by decide +kernel
theorem dX8_spelledIn_61 : decode cX8_spelledIn 61 = .ok (.iconst 1, 1) := by decide +kernel
theorem dX8_spelledIn_62 : decode cX8_spelledIn 62 = .ok (.goto 4, 3) := by decide +kernel
theorem dX8_spelledIn_65 : decode cX8_spelledIn 65 = .ok (.iconst 0, 1) := by decide +kernel
theorem dX8_spelledIn_66 : decode cX8_spelledIn 66 = .ok (.istore_n 3, 1) := by decide +kernel
theorem dX8_spelledIn_67 : decode cX8_spelledIn 67 = .ok (.iload_n 2, 1) := by decide +kernel
theorem dX8_spelledIn_68 : decode cX8_spelledIn 68 = .ok (.ldc 69, 2) := by decide +kernel
theorem dX8_spelledIn_70 : decode cX8_spelledIn 70 = .ok (.if_icmp .ne 14, 3) := by decide +kernel
theorem dX8_spelledIn_73 : decode cX8_spelledIn 73 = .ok (.aload_n 0, 1) := by decide +kernel
theorem dX8_spelledIn_74 : decode cX8_spelledIn 74 = .ok (.aload_n 0, 1) := by decide +kernel
theorem dX8_spelledIn_75 : decode cX8_spelledIn 75 = .ok (.getfield 13, 3) := by decide +kernel
theorem dX8_spelledIn_78 : decode cX8_spelledIn 78 = .ok (.invokevirtual 111, 3) := by decide +kernel
theorem dX8_spelledIn_81 : decode cX8_spelledIn 81 = .ok (.goto 4, 3) := by decide +kernel
theorem dX8_spelledIn_84 : decode cX8_spelledIn 84 = .ok (.iconst 0, 1) := by decide +kernel
theorem dX8_spelledIn_85 : decode cX8_spelledIn 85 = .ok (.istore 4, 2) := by decide +kernel
theorem dX8_spelledIn_87 : decode cX8_spelledIn 87 = .ok (.iinc 1 1, 3) := by decide +kernel
theorem dX8_spelledIn_90 : decode cX8_spelledIn 90 = .ok (.goto (-75), 3) := by decide +kernel
theorem dX8_spelledIn_93 : decode cX8_spelledIn 93 = .ok (.ldc 69, 2) := by decide +kernel
theorem dX8_spelledIn_95 : decode cX8_spelledIn 95 = .ok (.ireturn, 1) := by decide +kernel
theorem dX8_turnOf_0 : decode cX8_turnOf 0 = .ok (.iload_n 1, 1) := by decide +kernel
theorem dX8_turnOf_1 : decode cX8_turnOf 1 = .ok (.ifCond .lt 12, 3) := by decide +kernel
theorem dX8_turnOf_4 : decode cX8_turnOf 4 = .ok (.iload_n 2, 1) := by decide +kernel
theorem dX8_turnOf_5 : decode cX8_turnOf 5 = .ok (.iconst 0, 1) := by decide +kernel
theorem dX8_turnOf_6 : decode cX8_turnOf 6 = .ok (.iconst 2, 1) := by decide +kernel
theorem dX8_turnOf_7 : decode cX8_turnOf 7 = .ok (.invokestatic 47, 3) := by decide +kernel
theorem dX8_turnOf_10 : decode cX8_turnOf 10 = .ok (.ifCond .ne 6, 3) := by decide +kernel
theorem dX8_turnOf_13 : decode cX8_turnOf 13 = .ok (.ldc 123, 2) := by decide +kernel
theorem dX8_turnOf_15 : decode cX8_turnOf 15 = .ok (.ireturn, 1) := by decide +kernel
theorem dX8_turnOf_16 : decode cX8_turnOf 16 = .ok (.iload_n 1, 1) := by decide +kernel
theorem dX8_turnOf_17 : decode cX8_turnOf 17 = .ok (.aload_n 0, 1) := by decide +kernel
theorem dX8_turnOf_18 : decode cX8_turnOf 18 = .ok (.getfield 7, 3) := by decide +kernel
theorem dX8_turnOf_21 : decode cX8_turnOf 21 = .ok (.bipush 6, 2) := by decide +kernel
theorem dX8_turnOf_23 : decode cX8_turnOf 23 = .ok (.iaload, 1) := by decide +kernel
theorem dX8_turnOf_24 : decode cX8_turnOf 24 = .ok (.if_icmp .ge 19, 3) := by decide +kernel
theorem dX8_turnOf_27 : decode cX8_turnOf 27 = .ok (.aload_n 0, 1) := by decide +kernel
theorem dX8_turnOf_28 : decode cX8_turnOf 28 = .ok (.getfield 7, 3) := by decide +kernel
theorem dX8_turnOf_31 : decode cX8_turnOf 31 = .ok (.bipush 84, 2) := by decide +kernel
theorem dX8_turnOf_33 : decode cX8_turnOf 33 = .ok (.iconst 3, 1) := by decide +kernel
theorem dX8_turnOf_34 : decode cX8_turnOf 34 = .ok (.iload_n 1, 1) := by decide +kernel
theorem dX8_turnOf_35 : decode cX8_turnOf 35 = .ok (.imul, 1) := by decide +kernel
theorem dX8_turnOf_36 : decode cX8_turnOf 36 = .ok (.iadd, 1) := by decide +kernel
theorem dX8_turnOf_37 : decode cX8_turnOf 37 = .ok (.iload_n 2, 1) := by decide +kernel
theorem dX8_turnOf_38 : decode cX8_turnOf 38 = .ok (.iadd, 1) := by decide +kernel
theorem dX8_turnOf_39 : decode cX8_turnOf 39 = .ok (.iaload, 1) := by decide +kernel
theorem dX8_turnOf_40 : decode cX8_turnOf 40 = .ok (.goto 5, 3) := by decide +kernel
theorem dX8_turnOf_43 : decode cX8_turnOf 43 = .ok (.ldc 69, 2) := by decide +kernel
theorem dX8_turnOf_45 : decode cX8_turnOf 45 = .ok (.ireturn, 1) := by decide +kernel
theorem dX8_tangle_0 : decode cX8_tangle 0 = .ok (.iload_n 1, 1) := by decide +kernel
theorem dX8_tangle_1 : decode cX8_tangle 1 = .ok (.ifCond .lt 12, 3) := by decide +kernel
theorem dX8_tangle_4 : decode cX8_tangle 4 = .ok (.iload_n 2, 1) := by decide +kernel
theorem dX8_tangle_5 : decode cX8_tangle 5 = .ok (.iconst 0, 1) := by decide +kernel
theorem dX8_tangle_6 : decode cX8_tangle 6 = .ok (.iconst 3, 1) := by decide +kernel
theorem dX8_tangle_7 : decode cX8_tangle 7 = .ok (.invokestatic 47, 3) := by decide +kernel
theorem dX8_tangle_10 : decode cX8_tangle 10 = .ok (.ifCond .ne 6, 3) := by decide +kernel
theorem dX8_tangle_13 : decode cX8_tangle 13 = .ok (.ldc 123, 2) := by decide +kernel
theorem dX8_tangle_15 : decode cX8_tangle 15 = .ok (.ireturn, 1) := by decide +kernel
theorem dX8_tangle_16 : decode cX8_tangle 16 = .ok (.iload_n 1, 1) := by decide +kernel
theorem dX8_tangle_17 : decode cX8_tangle 17 = .ok (.aload_n 0, 1) := by decide +kernel
theorem dX8_tangle_18 : decode cX8_tangle 18 = .ok (.getfield 7, 3) := by decide +kernel
theorem dX8_tangle_21 : decode cX8_tangle 21 = .ok (.bipush 11, 2) := by decide +kernel
theorem dX8_tangle_23 : decode cX8_tangle 23 = .ok (.iaload, 1) := by decide +kernel
theorem dX8_tangle_24 : decode cX8_tangle 24 = .ok (.if_icmp .ge 19, 3) := by decide +kernel
theorem dX8_tangle_27 : decode cX8_tangle 27 = .ok (.aload_n 0, 1) := by decide +kernel
theorem dX8_tangle_28 : decode cX8_tangle 28 = .ok (.getfield 7, 3) := by decide +kernel
theorem dX8_tangle_31 : decode cX8_tangle 31 = .ok (.bipush 120, 2) := by decide +kernel
theorem dX8_tangle_33 : decode cX8_tangle 33 = .ok (.iconst 4, 1) := by decide +kernel
theorem dX8_tangle_34 : decode cX8_tangle 34 = .ok (.iload_n 1, 1) := by decide +kernel
theorem dX8_tangle_35 : decode cX8_tangle 35 = .ok (.imul, 1) := by decide +kernel
theorem dX8_tangle_36 : decode cX8_tangle 36 = .ok (.iadd, 1) := by decide +kernel
theorem dX8_tangle_37 : decode cX8_tangle 37 = .ok (.iload_n 2, 1) := by decide +kernel
theorem dX8_tangle_38 : decode cX8_tangle 38 = .ok (.iadd, 1) := by decide +kernel
theorem dX8_tangle_39 : decode cX8_tangle 39 = .ok (.iaload, 1) := by decide +kernel
theorem dX8_tangle_40 : decode cX8_tangle 40 = .ok (.goto 5, 3) := by decide +kernel
theorem dX8_tangle_43 : decode cX8_tangle 43 = .ok (.ldc 69, 2) := by decide +kernel
theorem dX8_tangle_45 : decode cX8_tangle 45 = .ok (.ireturn, 1) := by decide +kernel
theorem dX8_count_0 : decode cX8_count 0 = .ok (.iload_n 1, 1) := by decide +kernel
theorem dX8_count_1 : decode cX8_count 1 = .ok (.tableswitch 153 0 13 #[71, 71, 71, 71, 71, 78, 86, 94, 103, 119, 127, 135, 143, 148], 71) := by decide +kernel
theorem dX8_count_72 : decode cX8_count 72 = .ok (.aload_n 0, 1) := by decide +kernel
theorem dX8_count_73 : decode cX8_count 73 = .ok (.getfield 7, 3) := by decide +kernel
theorem dX8_count_76 : decode cX8_count 76 = .ok (.iload_n 1, 1) := by decide +kernel
theorem dX8_count_77 : decode cX8_count 77 = .ok (.iaload, 1) := by decide +kernel
theorem dX8_count_78 : decode cX8_count 78 = .ok (.ireturn, 1) := by decide +kernel
theorem dX8_count_79 : decode cX8_count 79 = .ok (.aload_n 0, 1) := by decide +kernel
theorem dX8_count_80 : decode cX8_count 80 = .ok (.getfield 7, 3) := by decide +kernel
theorem dX8_count_83 : decode cX8_count 83 = .ok (.invokestatic 70, 3) := by decide +kernel
theorem dX8_count_86 : decode cX8_count 86 = .ok (.ireturn, 1) := by decide +kernel
theorem dX8_count_87 : decode cX8_count 87 = .ok (.aload_n 0, 1) := by decide +kernel
theorem dX8_count_88 : decode cX8_count 88 = .ok (.getfield 7, 3) := by decide +kernel
theorem dX8_count_91 : decode cX8_count 91 = .ok (.bipush 7, 2) := by decide +kernel
theorem dX8_count_93 : decode cX8_count 93 = .ok (.iaload, 1) := by decide +kernel
theorem dX8_count_94 : decode cX8_count 94 = .ok (.ireturn, 1) := by decide +kernel
theorem dX8_count_95 : decode cX8_count 95 = .ok (.aload_n 0, 1) := by decide +kernel
theorem dX8_count_96 : decode cX8_count 96 = .ok (.aload_n 0, 1) := by decide +kernel
theorem dX8_count_97 : decode cX8_count 97 = .ok (.getfield 7, 3) := by decide +kernel
theorem dX8_count_100 : decode cX8_count 100 = .ok (.invokevirtual 114, 3) := by decide +kernel
theorem dX8_count_103 : decode cX8_count 103 = .ok (.ireturn, 1) := by decide +kernel
theorem dX8_count_104 : decode cX8_count 104 = .ok (.aload_n 0, 1) := by decide +kernel
theorem dX8_count_105 : decode cX8_count 105 = .ok (.getfield 7, 3) := by decide +kernel
theorem dX8_count_108 : decode cX8_count 108 = .ok (.invokestatic 177, 3) := by decide +kernel
theorem dX8_count_111 : decode cX8_count 111 = .ok (.ifCond .eq 7, 3) := by decide +kernel
theorem dX8_count_114 : decode cX8_count 114 = .ok (.iconst 1, 1) := by decide +kernel
theorem dX8_count_115 : decode cX8_count 115 = .ok (.goto 4, 3) := by decide +kernel
theorem dX8_count_118 : decode cX8_count 118 = .ok (.iconst 0, 1) := by decide +kernel
theorem dX8_count_119 : decode cX8_count 119 = .ok (.ireturn, 1) := by decide +kernel
theorem dX8_count_120 : decode cX8_count 120 = .ok (.aload_n 0, 1) := by decide +kernel
theorem dX8_count_121 : decode cX8_count 121 = .ok (.getfield 7, 3) := by decide +kernel
theorem dX8_count_124 : decode cX8_count 124 = .ok (.bipush 8, 2) := by decide +kernel
theorem dX8_count_126 : decode cX8_count 126 = .ok (.iaload, 1) := by decide +kernel
theorem dX8_count_127 : decode cX8_count 127 = .ok (.ireturn, 1) := by decide +kernel
theorem dX8_count_128 : decode cX8_count 128 = .ok (.aload_n 0, 1) := by decide +kernel
theorem dX8_count_129 : decode cX8_count 129 = .ok (.getfield 7, 3) := by decide +kernel
theorem dX8_count_132 : decode cX8_count 132 = .ok (.bipush 9, 2) := by decide +kernel
theorem dX8_count_134 : decode cX8_count 134 = .ok (.iaload, 1) := by decide +kernel
theorem dX8_count_135 : decode cX8_count 135 = .ok (.ireturn, 1) := by decide +kernel
theorem dX8_count_136 : decode cX8_count 136 = .ok (.aload_n 0, 1) := by decide +kernel
theorem dX8_count_137 : decode cX8_count 137 = .ok (.getfield 7, 3) := by decide +kernel
theorem dX8_count_140 : decode cX8_count 140 = .ok (.bipush 6, 2) := by decide +kernel
theorem dX8_count_142 : decode cX8_count 142 = .ok (.iaload, 1) := by decide +kernel
theorem dX8_count_143 : decode cX8_count 143 = .ok (.ireturn, 1) := by decide +kernel
theorem dX8_count_144 : decode cX8_count 144 = .ok (.aload_n 0, 1) := by decide +kernel
theorem dX8_count_145 : decode cX8_count 145 = .ok (.getfield 39, 3) := by decide +kernel
theorem dX8_count_148 : decode cX8_count 148 = .ok (.ireturn, 1) := by decide +kernel
theorem dX8_count_149 : decode cX8_count 149 = .ok (.aload_n 0, 1) := by decide +kernel
theorem dX8_count_150 : decode cX8_count 150 = .ok (.getfield 141, 3) := by decide +kernel
theorem dX8_count_153 : decode cX8_count 153 = .ok (.ireturn, 1) := by decide +kernel
theorem dX8_count_154 : decode cX8_count 154 = .ok (.ldc 123, 2) := by decide +kernel
theorem dX8_count_156 : decode cX8_count 156 = .ok (.ireturn, 1) := by decide +kernel
theorem dJ9_min_7cf53_0 : decode cJ9_min_7cf53 0 = .ok (.iload_n 0, 1) := by decide +kernel
theorem dJ9_min_7cf53_1 : decode cJ9_min_7cf53 1 = .ok (.iload_n 1, 1) := by decide +kernel
theorem dJ9_min_7cf53_2 : decode cJ9_min_7cf53 2 = .ok (.if_icmp .gt 7, 3) := by decide +kernel
theorem dJ9_min_7cf53_5 : decode cJ9_min_7cf53 5 = .ok (.iload_n 0, 1) := by decide +kernel
theorem dJ9_min_7cf53_6 : decode cJ9_min_7cf53 6 = .ok (.goto 4, 3) := by decide +kernel
theorem dJ9_min_7cf53_9 : decode cJ9_min_7cf53 9 = .ok (.iload_n 1, 1) := by decide +kernel
theorem dJ9_min_7cf53_10 : decode cJ9_min_7cf53 10 = .ok (.ireturn, 1) := by decide +kernel
theorem dL_law_0 : decode cL_law 0 = .ok (.new 7, 3) := by decide +kernel
theorem dL_law_3 : decode cL_law 3 = .ok (.dup, 1) := by decide +kernel
theorem dL_law_4 : decode cL_law 4 = .ok (.invokespecial 9, 3) := by decide +kernel
theorem dL_law_7 : decode cL_law 7 = .ok (.astore_n 1, 1) := by decide +kernel
theorem dL_law_8 : decode cL_law 8 = .ok (.new 10, 3) := by decide +kernel
theorem dL_law_11 : decode cL_law 11 = .ok (.dup, 1) := by decide +kernel
theorem dL_law_12 : decode cL_law 12 = .ok (.invokespecial 12, 3) := by decide +kernel
theorem dL_law_15 : decode cL_law 15 = .ok (.astore_n 2, 1) := by decide +kernel
theorem dL_law_16 : decode cL_law 16 = .ok (.iconst 0, 1) := by decide +kernel
theorem dL_law_17 : decode cL_law 17 = .ok (.istore_n 3, 1) := by decide +kernel
theorem dL_law_18 : decode cL_law 18 = .ok (.iload_n 3, 1) := by decide +kernel
theorem dL_law_19 : decode cL_law 19 = .ok (.aload_n 0, 1) := by decide +kernel
theorem dL_law_20 : decode cL_law 20 = .ok (.arraylength, 1) := by decide +kernel
theorem dL_law_21 : decode cL_law 21 = .ok (.iconst 4, 1) := by decide +kernel
theorem dL_law_22 : decode cL_law 22 = .ok (.isub, 1) := by decide +kernel
theorem dL_law_23 : decode cL_law 23 = .ok (.if_icmp .gt 736, 3) := by decide +kernel
theorem dL_law_26 : decode cL_law 26 = .ok (.aload_n 0, 1) := by decide +kernel
theorem dL_law_27 : decode cL_law 27 = .ok (.iload_n 3, 1) := by decide +kernel
theorem dL_law_28 : decode cL_law 28 = .ok (.iaload, 1) := by decide +kernel
theorem dL_law_29 : decode cL_law 29 = .ok (.bipush 31, 2) := by decide +kernel
theorem dL_law_31 : decode cL_law 31 = .ok (.iand, 1) := by decide +kernel
theorem dL_law_32 : decode cL_law 32 = .ok (.tableswitch 721 0 24 #[116, 151, 164, 187, 220, 243, 266, 299, 342, 365, 404, 427, 440, 465, 478, 491, 504, 517, 550, 573, 606, 619, 632, 665, 698], 116) := by decide +kernel
theorem dL_law_148 : decode cL_law 148 = .ok (.aload_n 1, 1) := by decide +kernel
theorem dL_law_149 : decode cL_law 149 = .ok (.aload_n 0, 1) := by decide +kernel
theorem dL_law_150 : decode cL_law 150 = .ok (.iload_n 3, 1) := by decide +kernel
theorem dL_law_151 : decode cL_law 151 = .ok (.iconst 1, 1) := by decide +kernel
theorem dL_law_152 : decode cL_law 152 = .ok (.iadd, 1) := by decide +kernel
theorem dL_law_153 : decode cL_law 153 = .ok (.iaload, 1) := by decide +kernel
theorem dL_law_154 : decode cL_law 154 = .ok (.i2c, 1) := by decide +kernel
theorem dL_law_155 : decode cL_law 155 = .ok (.aload_n 0, 1) := by decide +kernel
theorem dL_law_156 : decode cL_law 156 = .ok (.iload_n 3, 1) := by decide +kernel
theorem dL_law_157 : decode cL_law 157 = .ok (.iconst 2, 1) := by decide +kernel
theorem dL_law_158 : decode cL_law 158 = .ok (.iadd, 1) := by decide +kernel
theorem dL_law_159 : decode cL_law 159 = .ok (.iaload, 1) := by decide +kernel
theorem dL_law_160 : decode cL_law 160 = .ok (.invokevirtual 13, 3) := by decide +kernel
theorem dL_law_163 : decode cL_law 163 = .ok (.aload_n 2, 1) := by decide +kernel
theorem dL_law_164 : decode cL_law 164 = .ok (.aload_n 0, 1) := by decide +kernel
theorem dL_law_165 : decode cL_law 165 = .ok (.iload_n 3, 1) := by decide +kernel
theorem dL_law_166 : decode cL_law 166 = .ok (.iconst 1, 1) := by decide +kernel
theorem dL_law_167 : decode cL_law 167 = .ok (.iadd, 1) := by decide +kernel
theorem dL_law_168 : decode cL_law 168 = .ok (.iaload, 1) := by decide +kernel
theorem dL_law_169 : decode cL_law 169 = .ok (.i2c, 1) := by decide +kernel
theorem dL_law_170 : decode cL_law 170 = .ok (.aload_n 0, 1) := by decide +kernel
theorem dL_law_171 : decode cL_law 171 = .ok (.iload_n 3, 1) := by decide +kernel
theorem dL_law_172 : decode cL_law 172 = .ok (.iconst 2, 1) := by decide +kernel
theorem dL_law_173 : decode cL_law 173 = .ok (.iadd, 1) := by decide +kernel
theorem dL_law_174 : decode cL_law 174 = .ok (.iaload, 1) := by decide +kernel
theorem dL_law_175 : decode cL_law 175 = .ok (.invokevirtual 17, 3) := by decide +kernel
theorem dL_law_178 : decode cL_law 178 = .ok (.if_icmp .eq 575, 3) := by decide +kernel
theorem dL_law_181 : decode cL_law 181 = .ok (.iconst 0, 1) := by decide +kernel
theorem dL_law_182 : decode cL_law 182 = .ok (.ireturn, 1) := by decide +kernel
theorem dL_law_183 : decode cL_law 183 = .ok (.aload_n 1, 1) := by decide +kernel
theorem dL_law_184 : decode cL_law 184 = .ok (.invokevirtual 18, 3) := by decide +kernel
theorem dL_law_187 : decode cL_law 187 = .ok (.aload_n 2, 1) := by decide +kernel
theorem dL_law_188 : decode cL_law 188 = .ok (.invokevirtual 22, 3) := by decide +kernel
theorem dL_law_191 : decode cL_law 191 = .ok (.if_icmp .eq 562, 3) := by decide +kernel
theorem dL_law_194 : decode cL_law 194 = .ok (.iconst 0, 1) := by decide +kernel
theorem dL_law_195 : decode cL_law 195 = .ok (.ireturn, 1) := by decide +kernel
theorem dL_law_196 : decode cL_law 196 = .ok (.aload_n 1, 1) := by decide +kernel
theorem dL_law_197 : decode cL_law 197 = .ok (.aload_n 0, 1) := by decide +kernel
theorem dL_law_198 : decode cL_law 198 = .ok (.iload_n 3, 1) := by decide +kernel
theorem dL_law_199 : decode cL_law 199 = .ok (.iconst 1, 1) := by decide +kernel
theorem dL_law_200 : decode cL_law 200 = .ok (.iadd, 1) := by decide +kernel
theorem dL_law_201 : decode cL_law 201 = .ok (.iaload, 1) := by decide +kernel
theorem dL_law_202 : decode cL_law 202 = .ok (.invokevirtual 23, 3) := by decide +kernel
theorem dL_law_205 : decode cL_law 205 = .ok (.aload_n 2, 1) := by decide +kernel
theorem dL_law_206 : decode cL_law 206 = .ok (.aload_n 0, 1) := by decide +kernel
theorem dL_law_207 : decode cL_law 207 = .ok (.iload_n 3, 1) := by decide +kernel
theorem dL_law_208 : decode cL_law 208 = .ok (.iconst 1, 1) := by decide +kernel
theorem dL_law_209 : decode cL_law 209 = .ok (.iadd, 1) := by decide +kernel
theorem dL_law_210 : decode cL_law 210 = .ok (.iaload, 1) := by decide +kernel
theorem dL_law_211 : decode cL_law 211 = .ok (.invokevirtual 27, 3) := by decide +kernel
theorem dL_law_214 : decode cL_law 214 = .ok (.if_icmp .eq 539, 3) := by decide +kernel
theorem dL_law_217 : decode cL_law 217 = .ok (.iconst 0, 1) := by decide +kernel
theorem dL_law_218 : decode cL_law 218 = .ok (.ireturn, 1) := by decide +kernel
theorem dL_law_219 : decode cL_law 219 = .ok (.aload_n 1, 1) := by decide +kernel
theorem dL_law_220 : decode cL_law 220 = .ok (.aload_n 0, 1) := by decide +kernel
theorem dL_law_221 : decode cL_law 221 = .ok (.iload_n 3, 1) := by decide +kernel
theorem dL_law_222 : decode cL_law 222 = .ok (.iconst 1, 1) := by decide +kernel
theorem dL_law_223 : decode cL_law 223 = .ok (.iadd, 1) := by decide +kernel
theorem dL_law_224 : decode cL_law 224 = .ok (.iaload, 1) := by decide +kernel
theorem dL_law_225 : decode cL_law 225 = .ok (.aload_n 0, 1) := by decide +kernel
theorem dL_law_226 : decode cL_law 226 = .ok (.iload_n 3, 1) := by decide +kernel
theorem dL_law_227 : decode cL_law 227 = .ok (.iconst 2, 1) := by decide +kernel
theorem dL_law_228 : decode cL_law 228 = .ok (.iadd, 1) := by decide +kernel
theorem dL_law_229 : decode cL_law 229 = .ok (.iaload, 1) := by decide +kernel
theorem dL_law_230 : decode cL_law 230 = .ok (.invokevirtual 28, 3) := by decide +kernel
theorem dL_law_233 : decode cL_law 233 = .ok (.aload_n 2, 1) := by decide +kernel
theorem dL_law_234 : decode cL_law 234 = .ok (.aload_n 0, 1) := by decide +kernel
theorem dL_law_235 : decode cL_law 235 = .ok (.iload_n 3, 1) := by decide +kernel
theorem dL_law_236 : decode cL_law 236 = .ok (.iconst 1, 1) := by decide +kernel
theorem dL_law_237 : decode cL_law 237 = .ok (.iadd, 1) := by decide +kernel
theorem dL_law_238 : decode cL_law 238 = .ok (.iaload, 1) := by decide +kernel
theorem dL_law_239 : decode cL_law 239 = .ok (.aload_n 0, 1) := by decide +kernel
theorem dL_law_240 : decode cL_law 240 = .ok (.iload_n 3, 1) := by decide +kernel
theorem dL_law_241 : decode cL_law 241 = .ok (.iconst 2, 1) := by decide +kernel
theorem dL_law_242 : decode cL_law 242 = .ok (.iadd, 1) := by decide +kernel
theorem dL_law_243 : decode cL_law 243 = .ok (.iaload, 1) := by decide +kernel
theorem dL_law_244 : decode cL_law 244 = .ok (.invokevirtual 32, 3) := by decide +kernel
theorem dL_law_247 : decode cL_law 247 = .ok (.if_icmp .eq 506, 3) := by decide +kernel
theorem dL_law_250 : decode cL_law 250 = .ok (.iconst 0, 1) := by decide +kernel
theorem dL_law_251 : decode cL_law 251 = .ok (.ireturn, 1) := by decide +kernel
theorem dL_law_252 : decode cL_law 252 = .ok (.aload_n 1, 1) := by decide +kernel
theorem dL_law_253 : decode cL_law 253 = .ok (.aload_n 0, 1) := by decide +kernel
theorem dL_law_254 : decode cL_law 254 = .ok (.iload_n 3, 1) := by decide +kernel
theorem dL_law_255 : decode cL_law 255 = .ok (.iconst 1, 1) := by decide +kernel
theorem dL_law_256 : decode cL_law 256 = .ok (.iadd, 1) := by decide +kernel
theorem dL_law_257 : decode cL_law 257 = .ok (.iaload, 1) := by decide +kernel
theorem dL_law_258 : decode cL_law 258 = .ok (.invokevirtual 33, 3) := by decide +kernel
theorem dL_law_261 : decode cL_law 261 = .ok (.aload_n 2, 1) := by decide +kernel
theorem dL_law_262 : decode cL_law 262 = .ok (.aload_n 0, 1) := by decide +kernel
theorem dL_law_263 : decode cL_law 263 = .ok (.iload_n 3, 1) := by decide +kernel
theorem dL_law_264 : decode cL_law 264 = .ok (.iconst 1, 1) := by decide +kernel
theorem dL_law_265 : decode cL_law 265 = .ok (.iadd, 1) := by decide +kernel
theorem dL_law_266 : decode cL_law 266 = .ok (.iaload, 1) := by decide +kernel
theorem dL_law_267 : decode cL_law 267 = .ok (.invokevirtual 36, 3) := by decide +kernel
theorem dL_law_270 : decode cL_law 270 = .ok (.if_icmp .eq 483, 3) := by decide +kernel
theorem dL_law_273 : decode cL_law 273 = .ok (.iconst 0, 1) := by decide +kernel
theorem dL_law_274 : decode cL_law 274 = .ok (.ireturn, 1) := by decide +kernel
theorem dL_law_275 : decode cL_law 275 = .ok (.aload_n 1, 1) := by decide +kernel
theorem dL_law_276 : decode cL_law 276 = .ok (.aload_n 0, 1) := by decide +kernel
theorem dL_law_277 : decode cL_law 277 = .ok (.iload_n 3, 1) := by decide +kernel
theorem dL_law_278 : decode cL_law 278 = .ok (.iconst 1, 1) := by decide +kernel
theorem dL_law_279 : decode cL_law 279 = .ok (.iadd, 1) := by decide +kernel
theorem dL_law_280 : decode cL_law 280 = .ok (.iaload, 1) := by decide +kernel
theorem dL_law_281 : decode cL_law 281 = .ok (.invokevirtual 37, 3) := by decide +kernel
theorem dL_law_284 : decode cL_law 284 = .ok (.aload_n 2, 1) := by decide +kernel
theorem dL_law_285 : decode cL_law 285 = .ok (.aload_n 0, 1) := by decide +kernel
theorem dL_law_286 : decode cL_law 286 = .ok (.iload_n 3, 1) := by decide +kernel
theorem dL_law_287 : decode cL_law 287 = .ok (.iconst 1, 1) := by decide +kernel
theorem dL_law_288 : decode cL_law 288 = .ok (.iadd, 1) := by decide +kernel
theorem dL_law_289 : decode cL_law 289 = .ok (.iaload, 1) := by decide +kernel
theorem dL_law_290 : decode cL_law 290 = .ok (.invokevirtual 40, 3) := by decide +kernel
theorem dL_law_293 : decode cL_law 293 = .ok (.if_icmp .eq 460, 3) := by decide +kernel
theorem dL_law_296 : decode cL_law 296 = .ok (.iconst 0, 1) := by decide +kernel
theorem dL_law_297 : decode cL_law 297 = .ok (.ireturn, 1) := by decide +kernel
theorem dL_law_298 : decode cL_law 298 = .ok (.aload_n 1, 1) := by decide +kernel
theorem dL_law_299 : decode cL_law 299 = .ok (.aload_n 0, 1) := by decide +kernel
theorem dL_law_300 : decode cL_law 300 = .ok (.iload_n 3, 1) := by decide +kernel
theorem dL_law_301 : decode cL_law 301 = .ok (.iconst 1, 1) := by decide +kernel
theorem dL_law_302 : decode cL_law 302 = .ok (.iadd, 1) := by decide +kernel
theorem dL_law_303 : decode cL_law 303 = .ok (.iaload, 1) := by decide +kernel
theorem dL_law_304 : decode cL_law 304 = .ok (.aload_n 0, 1) := by decide +kernel
theorem dL_law_305 : decode cL_law 305 = .ok (.iload_n 3, 1) := by decide +kernel
theorem dL_law_306 : decode cL_law 306 = .ok (.iconst 2, 1) := by decide +kernel
theorem dL_law_307 : decode cL_law 307 = .ok (.iadd, 1) := by decide +kernel
theorem dL_law_308 : decode cL_law 308 = .ok (.iaload, 1) := by decide +kernel
theorem dL_law_309 : decode cL_law 309 = .ok (.invokevirtual 41, 3) := by decide +kernel
theorem dL_law_312 : decode cL_law 312 = .ok (.aload_n 2, 1) := by decide +kernel
theorem dL_law_313 : decode cL_law 313 = .ok (.aload_n 0, 1) := by decide +kernel
theorem dL_law_314 : decode cL_law 314 = .ok (.iload_n 3, 1) := by decide +kernel
theorem dL_law_315 : decode cL_law 315 = .ok (.iconst 1, 1) := by decide +kernel
theorem dL_law_316 : decode cL_law 316 = .ok (.iadd, 1) := by decide +kernel
theorem dL_law_317 : decode cL_law 317 = .ok (.iaload, 1) := by decide +kernel
theorem dL_law_318 : decode cL_law 318 = .ok (.aload_n 0, 1) := by decide +kernel
theorem dL_law_319 : decode cL_law 319 = .ok (.iload_n 3, 1) := by decide +kernel
theorem dL_law_320 : decode cL_law 320 = .ok (.iconst 2, 1) := by decide +kernel
theorem dL_law_321 : decode cL_law 321 = .ok (.iadd, 1) := by decide +kernel
theorem dL_law_322 : decode cL_law 322 = .ok (.iaload, 1) := by decide +kernel
theorem dL_law_323 : decode cL_law 323 = .ok (.invokevirtual 44, 3) := by decide +kernel
theorem dL_law_326 : decode cL_law 326 = .ok (.if_icmp .eq 427, 3) := by decide +kernel
theorem dL_law_329 : decode cL_law 329 = .ok (.iconst 0, 1) := by decide +kernel
theorem dL_law_330 : decode cL_law 330 = .ok (.ireturn, 1) := by decide +kernel
theorem dL_law_331 : decode cL_law 331 = .ok (.aload_n 1, 1) := by decide +kernel
theorem dL_law_332 : decode cL_law 332 = .ok (.aload_n 0, 1) := by decide +kernel
theorem dL_law_333 : decode cL_law 333 = .ok (.iload_n 3, 1) := by decide +kernel
theorem dL_law_334 : decode cL_law 334 = .ok (.iconst 1, 1) := by decide +kernel
theorem dL_law_335 : decode cL_law 335 = .ok (.iadd, 1) := by decide +kernel
theorem dL_law_336 : decode cL_law 336 = .ok (.iaload, 1) := by decide +kernel
theorem dL_law_337 : decode cL_law 337 = .ok (.aload_n 0, 1) := by decide +kernel
theorem dL_law_338 : decode cL_law 338 = .ok (.iload_n 3, 1) := by decide +kernel
theorem dL_law_339 : decode cL_law 339 = .ok (.iconst 2, 1) := by decide +kernel
theorem dL_law_340 : decode cL_law 340 = .ok (.iadd, 1) := by decide +kernel
theorem dL_law_341 : decode cL_law 341 = .ok (.iaload, 1) := by decide +kernel
theorem dL_law_342 : decode cL_law 342 = .ok (.aload_n 0, 1) := by decide +kernel
theorem dL_law_343 : decode cL_law 343 = .ok (.iload_n 3, 1) := by decide +kernel
theorem dL_law_344 : decode cL_law 344 = .ok (.iconst 3, 1) := by decide +kernel
theorem dL_law_345 : decode cL_law 345 = .ok (.iadd, 1) := by decide +kernel
theorem dL_law_346 : decode cL_law 346 = .ok (.iaload, 1) := by decide +kernel
theorem dL_law_347 : decode cL_law 347 = .ok (.invokevirtual 45, 3) := by decide +kernel
theorem dL_law_350 : decode cL_law 350 = .ok (.aload_n 2, 1) := by decide +kernel
theorem dL_law_351 : decode cL_law 351 = .ok (.aload_n 0, 1) := by decide +kernel
theorem dL_law_352 : decode cL_law 352 = .ok (.iload_n 3, 1) := by decide +kernel
theorem dL_law_353 : decode cL_law 353 = .ok (.iconst 1, 1) := by decide +kernel
theorem dL_law_354 : decode cL_law 354 = .ok (.iadd, 1) := by decide +kernel
theorem dL_law_355 : decode cL_law 355 = .ok (.iaload, 1) := by decide +kernel
theorem dL_law_356 : decode cL_law 356 = .ok (.aload_n 0, 1) := by decide +kernel
theorem dL_law_357 : decode cL_law 357 = .ok (.iload_n 3, 1) := by decide +kernel
theorem dL_law_358 : decode cL_law 358 = .ok (.iconst 2, 1) := by decide +kernel
theorem dL_law_359 : decode cL_law 359 = .ok (.iadd, 1) := by decide +kernel
theorem dL_law_360 : decode cL_law 360 = .ok (.iaload, 1) := by decide +kernel
theorem dL_law_361 : decode cL_law 361 = .ok (.aload_n 0, 1) := by decide +kernel
theorem dL_law_362 : decode cL_law 362 = .ok (.iload_n 3, 1) := by decide +kernel
theorem dL_law_363 : decode cL_law 363 = .ok (.iconst 3, 1) := by decide +kernel
theorem dL_law_364 : decode cL_law 364 = .ok (.iadd, 1) := by decide +kernel
theorem dL_law_365 : decode cL_law 365 = .ok (.iaload, 1) := by decide +kernel
theorem dL_law_366 : decode cL_law 366 = .ok (.invokevirtual 49, 3) := by decide +kernel
theorem dL_law_369 : decode cL_law 369 = .ok (.if_icmp .eq 384, 3) := by decide +kernel
theorem dL_law_372 : decode cL_law 372 = .ok (.iconst 0, 1) := by decide +kernel
theorem dL_law_373 : decode cL_law 373 = .ok (.ireturn, 1) := by decide +kernel
theorem dL_law_374 : decode cL_law 374 = .ok (.aload_n 1, 1) := by decide +kernel
theorem dL_law_375 : decode cL_law 375 = .ok (.aload_n 0, 1) := by decide +kernel
theorem dL_law_376 : decode cL_law 376 = .ok (.iload_n 3, 1) := by decide +kernel
theorem dL_law_377 : decode cL_law 377 = .ok (.iconst 1, 1) := by decide +kernel
theorem dL_law_378 : decode cL_law 378 = .ok (.iadd, 1) := by decide +kernel
theorem dL_law_379 : decode cL_law 379 = .ok (.iaload, 1) := by decide +kernel
theorem dL_law_380 : decode cL_law 380 = .ok (.invokevirtual 50, 3) := by decide +kernel
theorem dL_law_383 : decode cL_law 383 = .ok (.aload_n 2, 1) := by decide +kernel
theorem dL_law_384 : decode cL_law 384 = .ok (.aload_n 0, 1) := by decide +kernel
theorem dL_law_385 : decode cL_law 385 = .ok (.iload_n 3, 1) := by decide +kernel
theorem dL_law_386 : decode cL_law 386 = .ok (.iconst 1, 1) := by decide +kernel
theorem dL_law_387 : decode cL_law 387 = .ok (.iadd, 1) := by decide +kernel
theorem dL_law_388 : decode cL_law 388 = .ok (.iaload, 1) := by decide +kernel
theorem dL_law_389 : decode cL_law 389 = .ok (.invokevirtual 53, 3) := by decide +kernel
theorem dL_law_392 : decode cL_law 392 = .ok (.if_icmp .eq 361, 3) := by decide +kernel
theorem dL_law_395 : decode cL_law 395 = .ok (.iconst 0, 1) := by decide +kernel
theorem dL_law_396 : decode cL_law 396 = .ok (.ireturn, 1) := by decide +kernel
theorem dL_law_397 : decode cL_law 397 = .ok (.aload_n 1, 1) := by decide +kernel
theorem dL_law_398 : decode cL_law 398 = .ok (.aload_n 0, 1) := by decide +kernel
theorem dL_law_399 : decode cL_law 399 = .ok (.iload_n 3, 1) := by decide +kernel
theorem dL_law_400 : decode cL_law 400 = .ok (.iconst 1, 1) := by decide +kernel
theorem dL_law_401 : decode cL_law 401 = .ok (.iadd, 1) := by decide +kernel
theorem dL_law_402 : decode cL_law 402 = .ok (.iaload, 1) := by decide +kernel
theorem dL_law_403 : decode cL_law 403 = .ok (.ifCond .eq 7, 3) := by decide +kernel
theorem dL_law_406 : decode cL_law 406 = .ok (.iconst 1, 1) := by decide +kernel
theorem dL_law_407 : decode cL_law 407 = .ok (.goto 4, 3) := by decide +kernel
theorem dL_law_410 : decode cL_law 410 = .ok (.iconst 0, 1) := by decide +kernel
theorem dL_law_411 : decode cL_law 411 = .ok (.invokevirtual 54, 3) := by decide +kernel
theorem dL_law_414 : decode cL_law 414 = .ok (.aload_n 2, 1) := by decide +kernel
theorem dL_law_415 : decode cL_law 415 = .ok (.aload_n 0, 1) := by decide +kernel
theorem dL_law_416 : decode cL_law 416 = .ok (.iload_n 3, 1) := by decide +kernel
theorem dL_law_417 : decode cL_law 417 = .ok (.iconst 1, 1) := by decide +kernel
theorem dL_law_418 : decode cL_law 418 = .ok (.iadd, 1) := by decide +kernel
theorem dL_law_419 : decode cL_law 419 = .ok (.iaload, 1) := by decide +kernel
theorem dL_law_420 : decode cL_law 420 = .ok (.ifCond .eq 7, 3) := by decide +kernel
theorem dL_law_423 : decode cL_law 423 = .ok (.iconst 1, 1) := by decide +kernel
theorem dL_law_424 : decode cL_law 424 = .ok (.goto 4, 3) := by decide +kernel
theorem dL_law_427 : decode cL_law 427 = .ok (.iconst 0, 1) := by decide +kernel
theorem dL_law_428 : decode cL_law 428 = .ok (.invokevirtual 58, 3) := by decide +kernel
theorem dL_law_431 : decode cL_law 431 = .ok (.if_icmp .eq 322, 3) := by decide +kernel
theorem dL_law_434 : decode cL_law 434 = .ok (.iconst 0, 1) := by decide +kernel
theorem dL_law_435 : decode cL_law 435 = .ok (.ireturn, 1) := by decide +kernel
theorem dL_law_436 : decode cL_law 436 = .ok (.aload_n 1, 1) := by decide +kernel
theorem dL_law_437 : decode cL_law 437 = .ok (.aload_n 0, 1) := by decide +kernel
theorem dL_law_438 : decode cL_law 438 = .ok (.iload_n 3, 1) := by decide +kernel
theorem dL_law_439 : decode cL_law 439 = .ok (.iconst 1, 1) := by decide +kernel
theorem dL_law_440 : decode cL_law 440 = .ok (.iadd, 1) := by decide +kernel
theorem dL_law_441 : decode cL_law 441 = .ok (.iaload, 1) := by decide +kernel
theorem dL_law_442 : decode cL_law 442 = .ok (.invokevirtual 59, 3) := by decide +kernel
theorem dL_law_445 : decode cL_law 445 = .ok (.aload_n 2, 1) := by decide +kernel
theorem dL_law_446 : decode cL_law 446 = .ok (.aload_n 0, 1) := by decide +kernel
theorem dL_law_447 : decode cL_law 447 = .ok (.iload_n 3, 1) := by decide +kernel
theorem dL_law_448 : decode cL_law 448 = .ok (.iconst 1, 1) := by decide +kernel
theorem dL_law_449 : decode cL_law 449 = .ok (.iadd, 1) := by decide +kernel
theorem dL_law_450 : decode cL_law 450 = .ok (.iaload, 1) := by decide +kernel
theorem dL_law_451 : decode cL_law 451 = .ok (.invokevirtual 62, 3) := by decide +kernel
theorem dL_law_454 : decode cL_law 454 = .ok (.if_icmp .eq 299, 3) := by decide +kernel
theorem dL_law_457 : decode cL_law 457 = .ok (.iconst 0, 1) := by decide +kernel
theorem dL_law_458 : decode cL_law 458 = .ok (.ireturn, 1) := by decide +kernel
theorem dL_law_459 : decode cL_law 459 = .ok (.aload_n 1, 1) := by decide +kernel
theorem dL_law_460 : decode cL_law 460 = .ok (.invokevirtual 63, 3) := by decide +kernel
theorem dL_law_463 : decode cL_law 463 = .ok (.aload_n 2, 1) := by decide +kernel
theorem dL_law_464 : decode cL_law 464 = .ok (.invokevirtual 66, 3) := by decide +kernel
theorem dL_law_467 : decode cL_law 467 = .ok (.if_icmp .eq 286, 3) := by decide +kernel
theorem dL_law_470 : decode cL_law 470 = .ok (.iconst 0, 1) := by decide +kernel
theorem dL_law_471 : decode cL_law 471 = .ok (.ireturn, 1) := by decide +kernel
theorem dL_law_472 : decode cL_law 472 = .ok (.aload_n 1, 1) := by decide +kernel
theorem dL_law_473 : decode cL_law 473 = .ok (.aload_n 0, 1) := by decide +kernel
theorem dL_law_474 : decode cL_law 474 = .ok (.iload_n 3, 1) := by decide +kernel
theorem dL_law_475 : decode cL_law 475 = .ok (.iconst 1, 1) := by decide +kernel
theorem dL_law_476 : decode cL_law 476 = .ok (.iadd, 1) := by decide +kernel
theorem dL_law_477 : decode cL_law 477 = .ok (.iaload, 1) := by decide +kernel
theorem dL_law_478 : decode cL_law 478 = .ok (.i2c, 1) := by decide +kernel
theorem dL_law_479 : decode cL_law 479 = .ok (.invokevirtual 67, 3) := by decide +kernel
theorem dL_law_482 : decode cL_law 482 = .ok (.aload_n 2, 1) := by decide +kernel
theorem dL_law_483 : decode cL_law 483 = .ok (.aload_n 0, 1) := by decide +kernel
theorem dL_law_484 : decode cL_law 484 = .ok (.iload_n 3, 1) := by decide +kernel
theorem dL_law_485 : decode cL_law 485 = .ok (.iconst 1, 1) := by decide +kernel
theorem dL_law_486 : decode cL_law 486 = .ok (.iadd, 1) := by decide +kernel
theorem dL_law_487 : decode cL_law 487 = .ok (.iaload, 1) := by decide +kernel
theorem dL_law_488 : decode cL_law 488 = .ok (.i2c, 1) := by decide +kernel
theorem dL_law_489 : decode cL_law 489 = .ok (.invokevirtual 71, 3) := by decide +kernel
theorem dL_law_492 : decode cL_law 492 = .ok (.if_icmp .eq 261, 3) := by decide +kernel
theorem dL_law_495 : decode cL_law 495 = .ok (.iconst 0, 1) := by decide +kernel
theorem dL_law_496 : decode cL_law 496 = .ok (.ireturn, 1) := by decide +kernel
theorem dL_law_497 : decode cL_law 497 = .ok (.aload_n 1, 1) := by decide +kernel
theorem dL_law_498 : decode cL_law 498 = .ok (.invokevirtual 72, 3) := by decide +kernel
theorem dL_law_501 : decode cL_law 501 = .ok (.aload_n 2, 1) := by decide +kernel
theorem dL_law_502 : decode cL_law 502 = .ok (.invokevirtual 75, 3) := by decide +kernel
theorem dL_law_505 : decode cL_law 505 = .ok (.if_icmp .eq 248, 3) := by decide +kernel
theorem dL_law_508 : decode cL_law 508 = .ok (.iconst 0, 1) := by decide +kernel
theorem dL_law_509 : decode cL_law 509 = .ok (.ireturn, 1) := by decide +kernel
theorem dL_law_510 : decode cL_law 510 = .ok (.aload_n 1, 1) := by decide +kernel
theorem dL_law_511 : decode cL_law 511 = .ok (.invokevirtual 76, 3) := by decide +kernel
theorem dL_law_514 : decode cL_law 514 = .ok (.aload_n 2, 1) := by decide +kernel
theorem dL_law_515 : decode cL_law 515 = .ok (.invokevirtual 79, 3) := by decide +kernel
theorem dL_law_518 : decode cL_law 518 = .ok (.if_icmp .eq 235, 3) := by decide +kernel
theorem dL_law_521 : decode cL_law 521 = .ok (.iconst 0, 1) := by decide +kernel
theorem dL_law_522 : decode cL_law 522 = .ok (.ireturn, 1) := by decide +kernel
theorem dL_law_523 : decode cL_law 523 = .ok (.aload_n 1, 1) := by decide +kernel
theorem dL_law_524 : decode cL_law 524 = .ok (.invokevirtual 80, 3) := by decide +kernel
theorem dL_law_527 : decode cL_law 527 = .ok (.aload_n 2, 1) := by decide +kernel
theorem dL_law_528 : decode cL_law 528 = .ok (.invokevirtual 83, 3) := by decide +kernel
theorem dL_law_531 : decode cL_law 531 = .ok (.if_icmp .eq 222, 3) := by decide +kernel
theorem dL_law_534 : decode cL_law 534 = .ok (.iconst 0, 1) := by decide +kernel
theorem dL_law_535 : decode cL_law 535 = .ok (.ireturn, 1) := by decide +kernel
theorem dL_law_536 : decode cL_law 536 = .ok (.aload_n 1, 1) := by decide +kernel
theorem dL_law_537 : decode cL_law 537 = .ok (.invokevirtual 84, 3) := by decide +kernel
theorem dL_law_540 : decode cL_law 540 = .ok (.aload_n 2, 1) := by decide +kernel
theorem dL_law_541 : decode cL_law 541 = .ok (.invokevirtual 87, 3) := by decide +kernel
theorem dL_law_544 : decode cL_law 544 = .ok (.if_icmp .eq 209, 3) := by decide +kernel
theorem dL_law_547 : decode cL_law 547 = .ok (.iconst 0, 1) := by decide +kernel
theorem dL_law_548 : decode cL_law 548 = .ok (.ireturn, 1) := by decide +kernel
theorem dL_law_549 : decode cL_law 549 = .ok (.aload_n 1, 1) := by decide +kernel
theorem dL_law_550 : decode cL_law 550 = .ok (.aload_n 0, 1) := by decide +kernel
theorem dL_law_551 : decode cL_law 551 = .ok (.iload_n 3, 1) := by decide +kernel
theorem dL_law_552 : decode cL_law 552 = .ok (.iconst 1, 1) := by decide +kernel
theorem dL_law_553 : decode cL_law 553 = .ok (.iadd, 1) := by decide +kernel
theorem dL_law_554 : decode cL_law 554 = .ok (.iaload, 1) := by decide +kernel
theorem dL_law_555 : decode cL_law 555 = .ok (.aload_n 0, 1) := by decide +kernel
theorem dL_law_556 : decode cL_law 556 = .ok (.iload_n 3, 1) := by decide +kernel
theorem dL_law_557 : decode cL_law 557 = .ok (.iconst 2, 1) := by decide +kernel
theorem dL_law_558 : decode cL_law 558 = .ok (.iadd, 1) := by decide +kernel
theorem dL_law_559 : decode cL_law 559 = .ok (.iaload, 1) := by decide +kernel
theorem dL_law_560 : decode cL_law 560 = .ok (.invokevirtual 88, 3) := by decide +kernel
theorem dL_law_563 : decode cL_law 563 = .ok (.aload_n 2, 1) := by decide +kernel
theorem dL_law_564 : decode cL_law 564 = .ok (.aload_n 0, 1) := by decide +kernel
theorem dL_law_565 : decode cL_law 565 = .ok (.iload_n 3, 1) := by decide +kernel
theorem dL_law_566 : decode cL_law 566 = .ok (.iconst 1, 1) := by decide +kernel
theorem dL_law_567 : decode cL_law 567 = .ok (.iadd, 1) := by decide +kernel
theorem dL_law_568 : decode cL_law 568 = .ok (.iaload, 1) := by decide +kernel
theorem dL_law_569 : decode cL_law 569 = .ok (.aload_n 0, 1) := by decide +kernel
theorem dL_law_570 : decode cL_law 570 = .ok (.iload_n 3, 1) := by decide +kernel
theorem dL_law_571 : decode cL_law 571 = .ok (.iconst 2, 1) := by decide +kernel
theorem dL_law_572 : decode cL_law 572 = .ok (.iadd, 1) := by decide +kernel
theorem dL_law_573 : decode cL_law 573 = .ok (.iaload, 1) := by decide +kernel
theorem dL_law_574 : decode cL_law 574 = .ok (.invokevirtual 91, 3) := by decide +kernel
theorem dL_law_577 : decode cL_law 577 = .ok (.if_icmp .eq 176, 3) := by decide +kernel
theorem dL_law_580 : decode cL_law 580 = .ok (.iconst 0, 1) := by decide +kernel
theorem dL_law_581 : decode cL_law 581 = .ok (.ireturn, 1) := by decide +kernel
theorem dL_law_582 : decode cL_law 582 = .ok (.aload_n 1, 1) := by decide +kernel
theorem dL_law_583 : decode cL_law 583 = .ok (.aload_n 0, 1) := by decide +kernel
theorem dL_law_584 : decode cL_law 584 = .ok (.iload_n 3, 1) := by decide +kernel
theorem dL_law_585 : decode cL_law 585 = .ok (.iconst 1, 1) := by decide +kernel
theorem dL_law_586 : decode cL_law 586 = .ok (.iadd, 1) := by decide +kernel
theorem dL_law_587 : decode cL_law 587 = .ok (.iaload, 1) := by decide +kernel
theorem dL_law_588 : decode cL_law 588 = .ok (.invokevirtual 92, 3) := by decide +kernel
theorem dL_law_591 : decode cL_law 591 = .ok (.aload_n 2, 1) := by decide +kernel
theorem dL_law_592 : decode cL_law 592 = .ok (.aload_n 0, 1) := by decide +kernel
theorem dL_law_593 : decode cL_law 593 = .ok (.iload_n 3, 1) := by decide +kernel
theorem dL_law_594 : decode cL_law 594 = .ok (.iconst 1, 1) := by decide +kernel
theorem dL_law_595 : decode cL_law 595 = .ok (.iadd, 1) := by decide +kernel
theorem dL_law_596 : decode cL_law 596 = .ok (.iaload, 1) := by decide +kernel
theorem dL_law_597 : decode cL_law 597 = .ok (.invokevirtual 95, 3) := by decide +kernel
theorem dL_law_600 : decode cL_law 600 = .ok (.if_icmp .eq 153, 3) := by decide +kernel
theorem dL_law_603 : decode cL_law 603 = .ok (.iconst 0, 1) := by decide +kernel
theorem dL_law_604 : decode cL_law 604 = .ok (.ireturn, 1) := by decide +kernel
theorem dL_law_605 : decode cL_law 605 = .ok (.aload_n 1, 1) := by decide +kernel
theorem dL_law_606 : decode cL_law 606 = .ok (.aload_n 0, 1) := by decide +kernel
theorem dL_law_607 : decode cL_law 607 = .ok (.iload_n 3, 1) := by decide +kernel
theorem dL_law_608 : decode cL_law 608 = .ok (.iconst 1, 1) := by decide +kernel
theorem dL_law_609 : decode cL_law 609 = .ok (.iadd, 1) := by decide +kernel
theorem dL_law_610 : decode cL_law 610 = .ok (.iaload, 1) := by decide +kernel
theorem dL_law_611 : decode cL_law 611 = .ok (.aload_n 0, 1) := by decide +kernel
theorem dL_law_612 : decode cL_law 612 = .ok (.iload_n 3, 1) := by decide +kernel
theorem dL_law_613 : decode cL_law 613 = .ok (.iconst 2, 1) := by decide +kernel
theorem dL_law_614 : decode cL_law 614 = .ok (.iadd, 1) := by decide +kernel
theorem dL_law_615 : decode cL_law 615 = .ok (.iaload, 1) := by decide +kernel
theorem dL_law_616 : decode cL_law 616 = .ok (.invokevirtual 96, 3) := by decide +kernel
theorem dL_law_619 : decode cL_law 619 = .ok (.aload_n 2, 1) := by decide +kernel
theorem dL_law_620 : decode cL_law 620 = .ok (.aload_n 0, 1) := by decide +kernel
theorem dL_law_621 : decode cL_law 621 = .ok (.iload_n 3, 1) := by decide +kernel
theorem dL_law_622 : decode cL_law 622 = .ok (.iconst 1, 1) := by decide +kernel
theorem dL_law_623 : decode cL_law 623 = .ok (.iadd, 1) := by decide +kernel
theorem dL_law_624 : decode cL_law 624 = .ok (.iaload, 1) := by decide +kernel
theorem dL_law_625 : decode cL_law 625 = .ok (.aload_n 0, 1) := by decide +kernel
theorem dL_law_626 : decode cL_law 626 = .ok (.iload_n 3, 1) := by decide +kernel
theorem dL_law_627 : decode cL_law 627 = .ok (.iconst 2, 1) := by decide +kernel
theorem dL_law_628 : decode cL_law 628 = .ok (.iadd, 1) := by decide +kernel
theorem dL_law_629 : decode cL_law 629 = .ok (.iaload, 1) := by decide +kernel
theorem dL_law_630 : decode cL_law 630 = .ok (.invokevirtual 99, 3) := by decide +kernel
theorem dL_law_633 : decode cL_law 633 = .ok (.if_icmp .eq 120, 3) := by decide +kernel
theorem dL_law_636 : decode cL_law 636 = .ok (.iconst 0, 1) := by decide +kernel
theorem dL_law_637 : decode cL_law 637 = .ok (.ireturn, 1) := by decide +kernel
theorem dL_law_638 : decode cL_law 638 = .ok (.aload_n 1, 1) := by decide +kernel
theorem dL_law_639 : decode cL_law 639 = .ok (.invokevirtual 100, 3) := by decide +kernel
theorem dL_law_642 : decode cL_law 642 = .ok (.aload_n 2, 1) := by decide +kernel
theorem dL_law_643 : decode cL_law 643 = .ok (.invokevirtual 103, 3) := by decide +kernel
theorem dL_law_646 : decode cL_law 646 = .ok (.if_icmp .eq 107, 3) := by decide +kernel
theorem dL_law_649 : decode cL_law 649 = .ok (.iconst 0, 1) := by decide +kernel
theorem dL_law_650 : decode cL_law 650 = .ok (.ireturn, 1) := by decide +kernel
theorem dL_law_651 : decode cL_law 651 = .ok (.aload_n 1, 1) := by decide +kernel
theorem dL_law_652 : decode cL_law 652 = .ok (.invokevirtual 104, 3) := by decide +kernel
theorem dL_law_655 : decode cL_law 655 = .ok (.aload_n 2, 1) := by decide +kernel
theorem dL_law_656 : decode cL_law 656 = .ok (.invokevirtual 107, 3) := by decide +kernel
theorem dL_law_659 : decode cL_law 659 = .ok (.if_icmp .eq 94, 3) := by decide +kernel
theorem dL_law_662 : decode cL_law 662 = .ok (.iconst 0, 1) := by decide +kernel
theorem dL_law_663 : decode cL_law 663 = .ok (.ireturn, 1) := by decide +kernel
theorem dL_law_664 : decode cL_law 664 = .ok (.aload_n 1, 1) := by decide +kernel
theorem dL_law_665 : decode cL_law 665 = .ok (.aload_n 0, 1) := by decide +kernel
theorem dL_law_666 : decode cL_law 666 = .ok (.iload_n 3, 1) := by decide +kernel
theorem dL_law_667 : decode cL_law 667 = .ok (.iconst 1, 1) := by decide +kernel
theorem dL_law_668 : decode cL_law 668 = .ok (.iadd, 1) := by decide +kernel
theorem dL_law_669 : decode cL_law 669 = .ok (.iaload, 1) := by decide +kernel
theorem dL_law_670 : decode cL_law 670 = .ok (.aload_n 0, 1) := by decide +kernel
theorem dL_law_671 : decode cL_law 671 = .ok (.iload_n 3, 1) := by decide +kernel
theorem dL_law_672 : decode cL_law 672 = .ok (.iconst 2, 1) := by decide +kernel
theorem dL_law_673 : decode cL_law 673 = .ok (.iadd, 1) := by decide +kernel
theorem dL_law_674 : decode cL_law 674 = .ok (.iaload, 1) := by decide +kernel
theorem dL_law_675 : decode cL_law 675 = .ok (.invokevirtual 108, 3) := by decide +kernel
theorem dL_law_678 : decode cL_law 678 = .ok (.aload_n 2, 1) := by decide +kernel
theorem dL_law_679 : decode cL_law 679 = .ok (.aload_n 0, 1) := by decide +kernel
theorem dL_law_680 : decode cL_law 680 = .ok (.iload_n 3, 1) := by decide +kernel
theorem dL_law_681 : decode cL_law 681 = .ok (.iconst 1, 1) := by decide +kernel
theorem dL_law_682 : decode cL_law 682 = .ok (.iadd, 1) := by decide +kernel
theorem dL_law_683 : decode cL_law 683 = .ok (.iaload, 1) := by decide +kernel
theorem dL_law_684 : decode cL_law 684 = .ok (.aload_n 0, 1) := by decide +kernel
theorem dL_law_685 : decode cL_law 685 = .ok (.iload_n 3, 1) := by decide +kernel
theorem dL_law_686 : decode cL_law 686 = .ok (.iconst 2, 1) := by decide +kernel
theorem dL_law_687 : decode cL_law 687 = .ok (.iadd, 1) := by decide +kernel
theorem dL_law_688 : decode cL_law 688 = .ok (.iaload, 1) := by decide +kernel
theorem dL_law_689 : decode cL_law 689 = .ok (.invokevirtual 111, 3) := by decide +kernel
theorem dL_law_692 : decode cL_law 692 = .ok (.if_icmp .eq 61, 3) := by decide +kernel
theorem dL_law_695 : decode cL_law 695 = .ok (.iconst 0, 1) := by decide +kernel
theorem dL_law_696 : decode cL_law 696 = .ok (.ireturn, 1) := by decide +kernel
theorem dL_law_697 : decode cL_law 697 = .ok (.aload_n 1, 1) := by decide +kernel
theorem dL_law_698 : decode cL_law 698 = .ok (.aload_n 0, 1) := by decide +kernel
theorem dL_law_699 : decode cL_law 699 = .ok (.iload_n 3, 1) := by decide +kernel
theorem dL_law_700 : decode cL_law 700 = .ok (.iconst 1, 1) := by decide +kernel
theorem dL_law_701 : decode cL_law 701 = .ok (.iadd, 1) := by decide +kernel
theorem dL_law_702 : decode cL_law 702 = .ok (.iaload, 1) := by decide +kernel
theorem dL_law_703 : decode cL_law 703 = .ok (.aload_n 0, 1) := by decide +kernel
theorem dL_law_704 : decode cL_law 704 = .ok (.iload_n 3, 1) := by decide +kernel
theorem dL_law_705 : decode cL_law 705 = .ok (.iconst 2, 1) := by decide +kernel
theorem dL_law_706 : decode cL_law 706 = .ok (.iadd, 1) := by decide +kernel
theorem dL_law_707 : decode cL_law 707 = .ok (.iaload, 1) := by decide +kernel
theorem dL_law_708 : decode cL_law 708 = .ok (.invokevirtual 112, 3) := by decide +kernel
theorem dL_law_711 : decode cL_law 711 = .ok (.aload_n 2, 1) := by decide +kernel
theorem dL_law_712 : decode cL_law 712 = .ok (.aload_n 0, 1) := by decide +kernel
theorem dL_law_713 : decode cL_law 713 = .ok (.iload_n 3, 1) := by decide +kernel
theorem dL_law_714 : decode cL_law 714 = .ok (.iconst 1, 1) := by decide +kernel
theorem dL_law_715 : decode cL_law 715 = .ok (.iadd, 1) := by decide +kernel
theorem dL_law_716 : decode cL_law 716 = .ok (.iaload, 1) := by decide +kernel
theorem dL_law_717 : decode cL_law 717 = .ok (.aload_n 0, 1) := by decide +kernel
theorem dL_law_718 : decode cL_law 718 = .ok (.iload_n 3, 1) := by decide +kernel
theorem dL_law_719 : decode cL_law 719 = .ok (.iconst 2, 1) := by decide +kernel
theorem dL_law_720 : decode cL_law 720 = .ok (.iadd, 1) := by decide +kernel
theorem dL_law_721 : decode cL_law 721 = .ok (.iaload, 1) := by decide +kernel
theorem dL_law_722 : decode cL_law 722 = .ok (.invokevirtual 115, 3) := by decide +kernel
theorem dL_law_725 : decode cL_law 725 = .ok (.if_icmp .eq 28, 3) := by decide +kernel
theorem dL_law_728 : decode cL_law 728 = .ok (.iconst 0, 1) := by decide +kernel
theorem dL_law_729 : decode cL_law 729 = .ok (.ireturn, 1) := by decide +kernel
theorem dL_law_730 : decode cL_law 730 = .ok (.aload_n 1, 1) := by decide +kernel
theorem dL_law_731 : decode cL_law 731 = .ok (.aload_n 0, 1) := by decide +kernel
theorem dL_law_732 : decode cL_law 732 = .ok (.iload_n 3, 1) := by decide +kernel
theorem dL_law_733 : decode cL_law 733 = .ok (.iconst 1, 1) := by decide +kernel
theorem dL_law_734 : decode cL_law 734 = .ok (.iadd, 1) := by decide +kernel
theorem dL_law_735 : decode cL_law 735 = .ok (.iaload, 1) := by decide +kernel
theorem dL_law_736 : decode cL_law 736 = .ok (.invokevirtual 116, 3) := by decide +kernel
theorem dL_law_739 : decode cL_law 739 = .ok (.aload_n 2, 1) := by decide +kernel
theorem dL_law_740 : decode cL_law 740 = .ok (.aload_n 0, 1) := by decide +kernel
theorem dL_law_741 : decode cL_law 741 = .ok (.iload_n 3, 1) := by decide +kernel
theorem dL_law_742 : decode cL_law 742 = .ok (.iconst 1, 1) := by decide +kernel
theorem dL_law_743 : decode cL_law 743 = .ok (.iadd, 1) := by decide +kernel
theorem dL_law_744 : decode cL_law 744 = .ok (.iaload, 1) := by decide +kernel
theorem dL_law_745 : decode cL_law 745 = .ok (.invokevirtual 119, 3) := by decide +kernel
theorem dL_law_748 : decode cL_law 748 = .ok (.if_icmp .eq 5, 3) := by decide +kernel
theorem dL_law_751 : decode cL_law 751 = .ok (.iconst 0, 1) := by decide +kernel
theorem dL_law_752 : decode cL_law 752 = .ok (.ireturn, 1) := by decide +kernel
theorem dL_law_753 : decode cL_law 753 = .ok (.iinc 3 4, 3) := by decide +kernel
theorem dL_law_756 : decode cL_law 756 = .ok (.goto (-738), 3) := by decide +kernel
theorem dL_law_759 : decode cL_law 759 = .ok (.iconst 1, 1) := by decide +kernel
theorem dL_law_760 : decode cL_law 760 = .ok (.ireturn, 1) := by decide +kernel
end
section
/-! ===== the layout: 150 cells by number (seven states of 19 cells, the object's own, the reference's), what each holds out of one function of numbers ===== -/
abbrev HP : Type := Nat → Nat → Int32
abbrev ix (x : Int32) : Nat := x.toNatClampNeg
def wrA (σ : HP) (j : Nat) (f : Nat → Int32) : HP := fun i => if i = j then f else σ i
def wr (σ : HP) (j k : Nat) (x : Int32) : HP := wrA σ j (upd (σ j) k x)
def kdL : List Nat := [4, 3, 9, 9, 9, 9, 9, 9, 1, 9, 9, 9, 5, 9, 9, 9, 9, 6, 10, 4, 3, 9, 9, 9, 9, 9, 9, 1, 9, 9, 9, 5, 9, 9, 9, 9, 6, 10, 4, 3, 9, 9, 9, 9, 9, 9, 1, 9, 9, 9, 5, 9, 9, 9, 9, 6, 10, 4, 3, 9, 9, 9, 9, 9, 9, 1, 9, 9, 9, 5, 9, 9, 9, 9, 6, 10, 4, 3, 9, 9, 9, 9, 9, 9, 1, 9, 9, 9, 5, 9, 9, 9, 9, 6, 10, 4, 3, 9, 9, 9, 9, 9, 9, 1, 9, 9, 9, 5, 9, 9, 9, 9, 6, 10, 4, 3, 9, 9, 9, 9, 9, 9, 1, 9, 9, 9, 5, 9, 9, 9, 9, 6, 10, 7, 12, 10, 2, 9, 0, 9, 8, 9, 9, 9, 9, 10, 11, 9, 9, 9]
def lnL : List Nat := [0, 0, 12, 12, 12, 12, 12, 12, 0, 8, 8, 8, 0, 8, 8, 8, 8, 0, 12, 0, 0, 12, 12, 12, 12, 12, 12, 0, 8, 8, 8, 0, 8, 8, 8, 8, 0, 12, 0, 0, 12, 12, 12, 12, 12, 12, 0, 8, 8, 8, 0, 8, 8, 8, 8, 0, 12, 0, 0, 12, 12, 12, 12, 12, 12, 0, 8, 8, 8, 0, 8, 8, 8, 8, 0, 12, 0, 0, 12, 12, 12, 12, 12, 12, 0, 8, 8, 8, 0, 8, 8, 8, 8, 0, 12, 0, 0, 12, 12, 12, 12, 12, 12, 0, 8, 8, 8, 0, 8, 8, 8, 8, 0, 12, 0, 0, 12, 12, 12, 12, 12, 12, 0, 8, 8, 8, 0, 8, 8, 8, 8, 0, 12, 0, 4, 60, 0, 12, 0, 12, 0, 152, 152, 608, 152, 60, 12, 12, 12, 152]
def kd (j : Nat) : Nat := kdL.getD j 99
def ln (j : Nat) : Nat := lnL.getD j 0
theorem kd_lt {j k : Nat} (h : kd j = k) (hk : k < 99) : j < 150 := by
  rcases Nat.lt_or_ge j 150 with q | q
  · exact q
  · exfalso
    have h2 : kd j = 99 := by
      unfold kd
      rw [List.getD_eq_getElem?_getD, List.getElem?_eq_none (by show 150 ≤ j; exact q)]
      rfl
    omega
abbrev zcl : List vw_C := [(RX0, TX0, 4), (RX1, TX1, 4), (RX2, TX2, 2), (RX3, TX3, 8), (RX4, TX4, 10), (RX5, TX5, 6), (RX6, TX6, 2), (RX7, TX7, 10), (RX8, TX8, 12)]
abbrev ztys (cy : Nat → ClassId) : List (ClassId × FieldType) := [(cy 0, .int), (cy 1, .char), (cy 2, .boolean), (cy 3, .object RX4)]
def cellE (cy : Nat → ClassId) (ad : Nat → Nat) (σ : HP) (j : Nat) : va_E := match kd j with
  | 0 => .inr (0, [.ref (ad (j + 1)), .int (σ j 1), .int (σ j 2), .int (σ j 3)])
  | 1 => .inr (1, [.ref (ad (j + 1)), .ref (ad (j + 2)), .ref (ad (j + 3)), .int (σ j 3)])
  | 2 => .inr (2, [.ref (ad (j + 1)), .int (σ j 1)])
  | 3 => .inr (3, [.ref (ad (j + 1)), .ref (ad (j + 2)), .ref (ad (j + 3)), .ref (ad (j + 4)), .ref (ad (j + 5)), .ref (ad (j + 6)), .int (σ j 6), .int (σ j 7)])
  | 4 => .inr (4, [.ref (ad (j + 1)), .ref (ad (j + 8)), .ref (ad (j + 12)), .ref (ad (j + 17)), .int (σ j 4), .int (σ j 5), .int (σ j 6), .int (σ j 7), .int (σ j 8), .int (σ j 9)])
  | 5 => .inr (5, [.ref (ad (j + 1)), .ref (ad (j + 2)), .ref (ad (j + 3)), .ref (ad (j + 4)), .int (σ j 4), .int (σ j 5)])
  | 6 => .inr (6, [.ref (ad (j + 1)), .int (σ j 1)])
  | 7 => .inr (7, [.ref (ad (0)), .ref (ad (19)), .ref (ad (38)), .ref (ad (134)), .ref (ad (135)), .ref (ad (136)), .ref (ad (138)), .int (σ j 7), .int (σ j 8), .int (σ j 9)])
  | 8 => .inr (8, [.ref (ad (j + 1)), .ref (ad (j + 2)), .ref (ad (j + 3)), .int (σ j 3), .ref (ad (j + 4)), .int (σ j 5), .ref (ad (j + 5)), .int (σ j 7), .ref (ad (j + 6)), .ref (ad (j + 7)), .ref (ad (j + 8)), .ref (ad (j + 9))])
  | 9 => .inl (cy 0, ln j, .inl (σ j))
  | 10 => .inl (cy 1, ln j, .inl (σ j))
  | 11 => .inl (cy 2, ln j, .inl (σ j))
  | _ => .inl (cy 3, ln j, .inr (.inr (.inr (.inr (fun k => some (ad (ix (σ j k))))))))
theorem cellE_cong {cy : Nat → ClassId} {ad : Nat → Nat} {σ σ' : HP} {j : Nat} (h : σ' j = σ j) : cellE cy ad σ' j = cellE cy ad σ j := by simp only [cellE, h]
def zw (cy : Nat → ClassId) (ad : Nat → Nat) (σ : HP) : va_W := (List.range 150).map (fun j => (ad j, cellE cy ad σ j))
theorem zw_get {cy : Nat → ClassId} {ad : Nat → Nat} {σ : HP} {j : Nat} (h : j < 150) : (zw cy ad σ)[j]? = some (ad j, cellE cy ad σ j) := by simp [zw, h]
theorem zw_set {cy : Nat → ClassId} {ad : Nat → Nat} {σ : HP} {j : Nat} {f : Nat → Int32} {c : va_E} (h : j < 150) (hc : cellE cy ad (wrA σ j f) j = c) : (zw cy ad σ).set j (ad j, c) = zw cy ad (wrA σ j f) := by
  apply List.ext_getElem?
  intro i
  by_cases hi : i < 150
  · rw [zw_get hi, List.getElem?_set]
    by_cases hij : j = i
    · subst hij
      rw [if_pos rfl, if_pos (by simpa [zw] using h), hc]
    · rw [if_neg hij, zw_get hi]
      exact congrArg (fun e => some (ad i, e)) (cellE_cong (by unfold wrA; rw [if_neg (fun q => hij q.symm)])).symm
  · rw [List.getElem?_eq_none (by simp [zw]; omega), List.getElem?_eq_none (by simp [zw]; omega)]
/-- what a world is given by: the launch, the tables' numbers, the array classes, the cells' addresses, which addresses may change -/
abbrev WP : Type := Launch × va_G × (Nat → ClassId) × (Nat → Nat) × (Nat → Prop)
abbrev wD (w : WP) : va_G := w.2.1
abbrev wcy (w : WP) : Nat → ClassId := w.2.2.1
abbrev wad (w : WP) : Nat → Nat := w.2.2.2.1
abbrev wA (w : WP) : Nat → Prop := w.2.2.2.2
abbrev rf (w : WP) (j : Nat) : Value := .ref (w.2.2.2.1 j)
def ZP (w : WP) (σ : HP) (H : Heap) : Prop := va_P (wD w) zcl (zw (wcy w) (wad w) σ) H
def ZD (w : WP) : Prop := ∀ σ : HP, va_D (wA w) (zw (wcy w) (wad w) σ)
def wsA : List Cond := lw_tbl.filter goodWord
theorem memA {c : Cond} (h : c ∈ lw_tbl) (g : goodWord c = true) : c ∈ wsA := List.mem_filter.mpr ⟨h, g⟩
theorem memT {c : Cond} (i : Nat) (h : tables_1[i]? = some c) (g : goodWord c = true) : c ∈ wsA := memA (List.mem_append_right _ (List.mem_of_getElem? h)) g
theorem memP {c : Cond} (i : Nat) (h : (k2_sels lw_privs)[i]? = some c) (g : goodWord c = true) : c ∈ wsA := memA (List.mem_append_left _ (List.mem_of_getElem? h)) g
def ZN (U : State) : Prop := va_Nw (.methodLinkNest RX3 59 yX7_sideOf RX7) U ∧ va_Nw (.methodLinkNest RX4 131 yX7_asNumber RX7) U
abbrev rmF (fr lo : Nat) : Room := { frames := fr, cells := 0, slots := 0, locals := lo }
def QV (w : WP) (v : Option Value) (σ' : HP) : Array Value → State → Outcome → State → Prop := fun _ st oc t => oc = .returned v ∧ ZP w σ' t.heap ∧ va_F (wA w) st t
abbrev CX : Type := WP × Program × Env × Room × State × MethodId × Array Value × List Frame × Method × Code × Nat × (State → Prop)
def OkX (X : CX) (own : String) (cc : ByteArray) (nl fr lo : Nat) (ret : Option FieldType) (v : Option Value) (σ' : HP) : Prop := match X with
  | (w, p, e, R, s, m, args, below, meth, c, nL, Q) => p.tables.exec = Jvm.exec ∧ c.code = cc ∧ c.maxLocals = nL ∧ nL = nl ∧ s.vm.findClass own = some m.cls ∧ (∀ x ∈ wsA, x.before args s = true) ∧ va_K (wD w) zcl (ztys (wcy w)) s ∧ ZN s ∧ ZD w ∧ meth.locks = false ∧ R = rmF fr lo ∧ meth.sig.returnType = ret ∧ Q = MQ below (QV w v σ') args s 0 0 (wA w)
def Z (X : CX) (σ : HP) (pc : Nat) (lv : List (Nat × Value)) (st : List Value) : Prop := match X with
  | (w, p, e, R, s, m, args, below, meth, c, nL, Q) => ∀ (ls : Array Slot) (H : Heap) (locs : List Loc), lv_has ls nL lv → ZP w σ H → va_S (wA w) s.heap H locs → W p w.1 e R s m args below meth c H locs 0 0 Q (F0 m pc ls st)
abbrev ZMw (y : MethodName) (cc : ByteArray) (n : Nat) (ret : Option FieldType) : List Cond := .code y cc n ret :: wsA
def Ct (w : WP) (y : MethodName) (cc : ByteArray) (n : Nat) (ret : Option FieldType) (fr lo : Nat) (av : List Value) (σ : HP) (v : Option Value) (σ' : HP) : Prop :=
  Met w.1 y (ZMw y cc n ret) (rmF fr lo) (va_Pc av (fun U => ZP w σ U.heap ∧ va_K (wD w) zcl (ztys (wcy w)) U ∧ ZN U ∧ ZD w)) (QV w v σ') 0 0 (wA w)
end
section
theorem wrA_s {σ : HP} {j : Nat} {f : Nat → Int32} : wrA σ j f j = f := by unfold wrA; rw [if_pos rfl]
theorem wrA_n {σ : HP} {j i : Nat} {f : Nat → Int32} (h : i ≠ j) : wrA σ j f i = σ i := by unfold wrA; rw [if_neg h]
theorem cellE_arr9 {cy : Nat → ClassId} {ad : Nat → Nat} {σ : HP} {j : Nat} (h : kd j = 9) : cellE cy ad σ j = .inl (cy 0, ln j, .inl (σ j)) := by simp only [cellE, h]
theorem cellE_arr10 {cy : Nat → ClassId} {ad : Nat → Nat} {σ : HP} {j : Nat} (h : kd j = 10) : cellE cy ad σ j = .inl (cy 1, ln j, .inl (σ j)) := by simp only [cellE, h]
theorem cellE_arr11 {cy : Nat → ClassId} {ad : Nat → Nat} {σ : HP} {j : Nat} (h : kd j = 11) : cellE cy ad σ j = .inl (cy 2, ln j, .inl (σ j)) := by simp only [cellE, h]
theorem cellE_arr12 {cy : Nat → ClassId} {ad : Nat → Nat} {σ : HP} {j : Nat} (h : kd j = 12) : cellE cy ad σ j = .inl (cy 3, ln j, .inr (.inr (.inr (.inr (fun k => some (ad (ix (σ j k)))))))) := by simp only [cellE, h]
theorem cellE_st {cy : Nat → ClassId} {ad : Nat → Nat} {σ : HP} {j : Nat} (h : kd j = 4) : ∃ vs : List Value, cellE cy ad σ j = .inr (4, vs) := by simp only [cellE, h]; exact ⟨_, rfl⟩
theorem m_native : Cond.native arraycopyName ∈ wsA := memT 293 (by decide +kernel) (by decide +kernel)
theorem m_acstat : Cond.static arraycopyName ∈ wsA := memT 292 (by decide +kernel) (by decide +kernel)
theorem m_sysini : Cond.initialized "java/lang/System" ∈ wsA := memT 10 (by decide +kernel) (by decide +kernel)
theorem m_matini : Cond.initialized "java/lang/Math" ∈ wsA := memT 11 (by decide +kernel) (by decide +kernel)
theorem m_minstat : Cond.static Lib.Math.min.name ∈ wsA := memT 411 (by decide +kernel) (by decide +kernel)
theorem m_mincode : Cond.code Lib.Math.min.name Lib.Math.min.code 2 (some .int) ∈ wsA := memT 412 (by decide +kernel) (by decide +kernel)
/-! ===== the rules over Z: an instruction, a row ===== -/
section ZR
variable {X : CX} {σ : HP} {pc : Nat} {lv : List (Nat × Value)} {st : List Value} {own : String} {cc : ByteArray} {nl fr lo : Nat} {ret : Option FieldType} {v : Option Value} {σe : HP}
theorem z_sub {lv' : List (Nat × Value)} (ks : List Nat) (hl : lv_pick lv ks = lv') (k : Z X σ pc lv' st) : Z X σ pc lv st := by
  obtain ⟨w, p, e, R, s, m, args, below, meth, c, nL, Q⟩ := X
  intro ls H locs h hP hS
  exact k ls H locs (lv_sub h ks hl) hP hS
theorem z_iconst (hX : OkX X own cc nl fr lo ret v σe) {n : Int} {x : Int32} (hdg : decode cc pc = .ok (.iconst n, 1)) (hv : Int32.ofInt n = x) (k : Z X σ (pc + 1) lv (.int x :: st)) : Z X σ pc lv (st) := by
  obtain ⟨w, p, e, R, s, m, args, below, meth, c, nL, Q⟩ := X
  obtain ⟨hx, hb, hml, hnl, hown, hts, hK, hN, hZD, hlk, hR, hret, hQ⟩ := hX
  intro ls H locs h hP hS
  exact lv_iconst hx hb hdg hv (k ls H locs h hP hS)
theorem z_bipush (hX : OkX X own cc nl fr lo ret v σe) {n : Int} {x : Int32} (hdg : decode cc pc = .ok (.bipush n, 2)) (hv : (Int8.ofInt n).toInt32 = x) (k : Z X σ (pc + 2) lv (.int x :: st)) : Z X σ pc lv (st) := by
  obtain ⟨w, p, e, R, s, m, args, below, meth, c, nL, Q⟩ := X
  obtain ⟨hx, hb, hml, hnl, hown, hts, hK, hN, hZD, hlk, hR, hret, hQ⟩ := hX
  intro ls H locs h hP hS
  exact lv_bipush hx hb hdg hv (k ls H locs h hP hS)
theorem z_sipush (hX : OkX X own cc nl fr lo ret v σe) {n : Int} {x : Int32} (hdg : decode cc pc = .ok (.sipush n, 3)) (hv : (Int16.ofInt n).toInt32 = x) (k : Z X σ (pc + 3) lv (.int x :: st)) : Z X σ pc lv (st) := by
  obtain ⟨w, p, e, R, s, m, args, below, meth, c, nL, Q⟩ := X
  obtain ⟨hx, hb, hml, hnl, hown, hts, hK, hN, hZD, hlk, hR, hret, hQ⟩ := hX
  intro ls H locs h hP hS
  exact lv_sipush hx hb hdg hv (k ls H locs h hP hS)
theorem z_ldc (hX : OkX X own cc nl fr lo ret v σe) {idx : Nat} {x : Int32} (hc : Jvm.Cond.constant own idx x ∈ wsA) (hdg : decode cc pc = .ok (.ldc idx, 2)) (k : Z X σ (pc + 2) lv (.int x :: st)) : Z X σ pc lv (st) := by
  obtain ⟨w, p, e, R, s, m, args, below, meth, c, nL, Q⟩ := X
  obtain ⟨hx, hb, hml, hnl, hown, hts, hK, hN, hZD, hlk, hR, hret, hQ⟩ := hX
  intro ls H locs h hP hS
  exact lv_ldc hx hb hown (hts _ hc) hdg (k ls H locs h hP hS)
theorem z_iload_n (hX : OkX X own cc nl fr lo ret v σe) {i : Fin 4} {x : Int32} (hdg : decode cc pc = .ok (.iload_n i, 1)) (pos : Nat) (hp : lv[pos]? = some ((i : Nat), .int x)) (k : Z X σ (pc + 1) lv (.int x :: st)) : Z X σ pc lv (st) := by
  obtain ⟨w, p, e, R, s, m, args, below, meth, c, nL, Q⟩ := X
  obtain ⟨hx, hb, hml, hnl, hown, hts, hK, hN, hZD, hlk, hR, hret, hQ⟩ := hX
  intro ls H locs h hP hS
  exact lv_iload_n hx hb hdg rfl (lv_at h pos hp) (k ls H locs h hP hS)
theorem z_iload (hX : OkX X own cc nl fr lo ret v σe) {i : Nat} {x : Int32} (hdg : decode cc pc = .ok (.iload i, 2)) (pos : Nat) (hp : lv[pos]? = some (i, .int x)) (k : Z X σ (pc + 2) lv (.int x :: st)) : Z X σ pc lv (st) := by
  obtain ⟨w, p, e, R, s, m, args, below, meth, c, nL, Q⟩ := X
  obtain ⟨hx, hb, hml, hnl, hown, hts, hK, hN, hZD, hlk, hR, hret, hQ⟩ := hX
  intro ls H locs h hP hS
  exact lv_iload hx hb hdg (lv_at h pos hp) (k ls H locs h hP hS)
theorem z_aload_n (hX : OkX X own cc nl fr lo ret v σe) {i : Fin 4} {x : Nat} (hdg : decode cc pc = .ok (.aload_n i, 1)) (pos : Nat) (hp : lv[pos]? = some ((i : Nat), .ref x)) (k : Z X σ (pc + 1) lv (.ref x :: st)) : Z X σ pc lv (st) := by
  obtain ⟨w, p, e, R, s, m, args, below, meth, c, nL, Q⟩ := X
  obtain ⟨hx, hb, hml, hnl, hown, hts, hK, hN, hZD, hlk, hR, hret, hQ⟩ := hX
  intro ls H locs h hP hS
  exact lv_aload_n hx hb hdg rfl (lv_at h pos hp) (k ls H locs h hP hS)
theorem z_aload (hX : OkX X own cc nl fr lo ret v σe) {i : Nat} {x : Nat} (hdg : decode cc pc = .ok (.aload i, 2)) (pos : Nat) (hp : lv[pos]? = some (i, .ref x)) (k : Z X σ (pc + 2) lv (.ref x :: st)) : Z X σ pc lv (st) := by
  obtain ⟨w, p, e, R, s, m, args, below, meth, c, nL, Q⟩ := X
  obtain ⟨hx, hb, hml, hnl, hown, hts, hK, hN, hZD, hlk, hR, hret, hQ⟩ := hX
  intro ls H locs h hP hS
  exact lv_aload hx hb hdg (lv_at h pos hp) (k ls H locs h hP hS)
def zst (lv : List (Nat × Value)) (i : Nat) (x : Value) : List (Nat × Value) := (i, x) :: lv.filter (fun q => !(q.1 == i) && !(q.1 + 1 == i && q.2.category == 2))
theorem z_istore_n (hX : OkX X own cc nl fr lo ret v σe) {i : Fin 4} {x : Int32} {lv' : List (Nat × Value)} (hdg : decode cc pc = .ok (.istore_n i, 1)) (hn : (i : Nat) < nl) (hl : zst lv i (.int x) = lv') (k : Z X σ (pc + 1) lv' st) : Z X σ pc lv (.int x :: st) := by
  obtain ⟨w, p, e, R, s, m, args, below, meth, c, nL, Q⟩ := X
  obtain ⟨hx, hb, hml, hnl, hown, hts, hK, hN, hZD, hlk, hR, hret, hQ⟩ := hX
  intro ls H locs h hP hS
  exact lv_istore_n hx hb hdg rfl h (by rw [hnl]; exact hn) hl (fun ls' h' => k ls' H locs h' hP hS)
theorem z_istore (hX : OkX X own cc nl fr lo ret v σe) {i : Nat} {x : Int32} {lv' : List (Nat × Value)} (hdg : decode cc pc = .ok (.istore i, 2)) (hn : i < nl) (hl : zst lv i (.int x) = lv') (k : Z X σ (pc + 2) lv' st) : Z X σ pc lv (.int x :: st) := by
  obtain ⟨w, p, e, R, s, m, args, below, meth, c, nL, Q⟩ := X
  obtain ⟨hx, hb, hml, hnl, hown, hts, hK, hN, hZD, hlk, hR, hret, hQ⟩ := hX
  intro ls H locs h hP hS
  exact lv_istore hx hb hdg h (by rw [hnl]; exact hn) hl (fun ls' h' => k ls' H locs h' hP hS)
theorem z_astore_n (hX : OkX X own cc nl fr lo ret v σe) {i : Fin 4} {x : Nat} {lv' : List (Nat × Value)} (hdg : decode cc pc = .ok (.astore_n i, 1)) (hn : (i : Nat) < nl) (hl : zst lv i (.ref x) = lv') (k : Z X σ (pc + 1) lv' st) : Z X σ pc lv (.ref x :: st) := by
  obtain ⟨w, p, e, R, s, m, args, below, meth, c, nL, Q⟩ := X
  obtain ⟨hx, hb, hml, hnl, hown, hts, hK, hN, hZD, hlk, hR, hret, hQ⟩ := hX
  intro ls H locs h hP hS
  exact lv_astore_n hx hb hdg rfl h (by rw [hnl]; exact hn) hl (fun ls' h' => k ls' H locs h' hP hS)
theorem z_astore (hX : OkX X own cc nl fr lo ret v σe) {i : Nat} {x : Nat} {lv' : List (Nat × Value)} (hdg : decode cc pc = .ok (.astore i, 2)) (hn : i < nl) (hl : zst lv i (.ref x) = lv') (k : Z X σ (pc + 2) lv' st) : Z X σ pc lv (.ref x :: st) := by
  obtain ⟨w, p, e, R, s, m, args, below, meth, c, nL, Q⟩ := X
  obtain ⟨hx, hb, hml, hnl, hown, hts, hK, hN, hZD, hlk, hR, hret, hQ⟩ := hX
  intro ls H locs h hP hS
  exact lv_astore hx hb hdg h (by rw [hnl]; exact hn) hl (fun ls' h' => k ls' H locs h' hP hS)
theorem z_iinc (hX : OkX X own cc nl fr lo ret v σe) {i : Nat} {n : Int} {x y : Int32} {lv' : List (Nat × Value)} (hdg : decode cc pc = .ok (.iinc i n, 3)) (pos : Nat) (hp : lv[pos]? = some (i, .int x)) (hv : x + Int32.ofInt n = y) (hn : i < nl) (hl : zst lv i (.int y) = lv') (k : Z X σ (pc + 3) lv' st) : Z X σ pc lv (st) := by
  obtain ⟨w, p, e, R, s, m, args, below, meth, c, nL, Q⟩ := X
  obtain ⟨hx, hb, hml, hnl, hown, hts, hK, hN, hZD, hlk, hR, hret, hQ⟩ := hX
  intro ls H locs h hP hS
  exact lv_iinc hx hb hdg h hp hv (by rw [hnl]; exact hn) hl (fun ls' h' => k ls' H locs h' hP hS)
theorem z_iadd (hX : OkX X own cc nl fr lo ret v σe) {x y : Int32} (hdg : decode cc pc = .ok (.iadd, 1)) (k : Z X σ (pc + 1) lv (.int (x + y) :: st)) : Z X σ pc lv (.int y :: .int x :: st) := by
  obtain ⟨w, p, e, R, s, m, args, below, meth, c, nL, Q⟩ := X
  obtain ⟨hx, hb, hml, hnl, hown, hts, hK, hN, hZD, hlk, hR, hret, hQ⟩ := hX
  intro ls H locs h hP hS
  exact lv_iadd hx hb hdg (k ls H locs h hP hS)
theorem z_isub (hX : OkX X own cc nl fr lo ret v σe) {x y : Int32} (hdg : decode cc pc = .ok (.isub, 1)) (k : Z X σ (pc + 1) lv (.int (x - y) :: st)) : Z X σ pc lv (.int y :: .int x :: st) := by
  obtain ⟨w, p, e, R, s, m, args, below, meth, c, nL, Q⟩ := X
  obtain ⟨hx, hb, hml, hnl, hown, hts, hK, hN, hZD, hlk, hR, hret, hQ⟩ := hX
  intro ls H locs h hP hS
  exact lv_isub hx hb hdg (k ls H locs h hP hS)
theorem z_imul (hX : OkX X own cc nl fr lo ret v σe) {x y : Int32} (hdg : decode cc pc = .ok (.imul, 1)) (k : Z X σ (pc + 1) lv (.int (x * y) :: st)) : Z X σ pc lv (.int y :: .int x :: st) := by
  obtain ⟨w, p, e, R, s, m, args, below, meth, c, nL, Q⟩ := X
  obtain ⟨hx, hb, hml, hnl, hown, hts, hK, hN, hZD, hlk, hR, hret, hQ⟩ := hX
  intro ls H locs h hP hS
  exact lv_imul hx hb hdg (k ls H locs h hP hS)
theorem z_iand (hX : OkX X own cc nl fr lo ret v σe) {x y : Int32} (hdg : decode cc pc = .ok (.iand, 1)) (k : Z X σ (pc + 1) lv (.int (x &&& y) :: st)) : Z X σ pc lv (.int y :: .int x :: st) := by
  obtain ⟨w, p, e, R, s, m, args, below, meth, c, nL, Q⟩ := X
  obtain ⟨hx, hb, hml, hnl, hown, hts, hK, hN, hZD, hlk, hR, hret, hQ⟩ := hX
  intro ls H locs h hP hS
  exact lv_iand hx hb hdg (k ls H locs h hP hS)
theorem z_ior (hX : OkX X own cc nl fr lo ret v σe) {x y : Int32} (hdg : decode cc pc = .ok (.ior, 1)) (k : Z X σ (pc + 1) lv (.int (x ||| y) :: st)) : Z X σ pc lv (.int y :: .int x :: st) := by
  obtain ⟨w, p, e, R, s, m, args, below, meth, c, nL, Q⟩ := X
  obtain ⟨hx, hb, hml, hnl, hown, hts, hK, hN, hZD, hlk, hR, hret, hQ⟩ := hX
  intro ls H locs h hP hS
  exact lv_ior hx hb hdg (k ls H locs h hP hS)
theorem z_ishl (hX : OkX X own cc nl fr lo ret v σe) {x y : Int32} (hdg : decode cc pc = .ok (.ishl, 1)) (k : Z X σ (pc + 1) lv (.int (x <<< (y &&& 31)) :: st)) : Z X σ pc lv (.int y :: .int x :: st) := by
  obtain ⟨w, p, e, R, s, m, args, below, meth, c, nL, Q⟩ := X
  obtain ⟨hx, hb, hml, hnl, hown, hts, hK, hN, hZD, hlk, hR, hret, hQ⟩ := hX
  intro ls H locs h hP hS
  exact lv_ishl hx hb hdg (k ls H locs h hP hS)
theorem z_ishr (hX : OkX X own cc nl fr lo ret v σe) {x y : Int32} (hdg : decode cc pc = .ok (.ishr, 1)) (k : Z X σ (pc + 1) lv (.int (x >>> (y &&& 31)) :: st)) : Z X σ pc lv (.int y :: .int x :: st) := by
  obtain ⟨w, p, e, R, s, m, args, below, meth, c, nL, Q⟩ := X
  obtain ⟨hx, hb, hml, hnl, hown, hts, hK, hN, hZD, hlk, hR, hret, hQ⟩ := hX
  intro ls H locs h hP hS
  exact lv_ishr hx hb hdg (k ls H locs h hP hS)
theorem z_ineg (hX : OkX X own cc nl fr lo ret v σe) {x : Int32} (hdg : decode cc pc = .ok (.ineg, 1)) (k : Z X σ (pc + 1) lv (.int (-x) :: st)) : Z X σ pc lv (.int x :: st) := by
  obtain ⟨w, p, e, R, s, m, args, below, meth, c, nL, Q⟩ := X
  obtain ⟨hx, hb, hml, hnl, hown, hts, hK, hN, hZD, hlk, hR, hret, hQ⟩ := hX
  intro ls H locs h hP hS
  exact lv_ineg hx hb hdg (k ls H locs h hP hS)
theorem z_irem (hX : OkX X own cc nl fr lo ret v σe) {x y : Int32} (hdg : decode cc pc = .ok (.irem, 1)) (hne : ¬ y = 0) (k : Z X σ (pc + 1) lv (.int (x - x / y * y) :: st)) : Z X σ pc lv (.int y :: .int x :: st) := by
  obtain ⟨w, p, e, R, s, m, args, below, meth, c, nL, Q⟩ := X
  obtain ⟨hx, hb, hml, hnl, hown, hts, hK, hN, hZD, hlk, hR, hret, hQ⟩ := hX
  intro ls H locs h hP hS
  exact lv_irem hx hb hdg hne (k ls H locs h hP hS)
theorem z_idiv (hX : OkX X own cc nl fr lo ret v σe) {x y : Int32} (hdg : decode cc pc = .ok (.idiv, 1)) (hne : ¬ y = 0) (k : Z X σ (pc + 1) lv (.int (x / y) :: st)) : Z X σ pc lv (.int y :: .int x :: st) := by
  obtain ⟨w, p, e, R, s, m, args, below, meth, c, nL, Q⟩ := X
  obtain ⟨hx, hb, hml, hnl, hown, hts, hK, hN, hZD, hlk, hR, hret, hQ⟩ := hX
  intro ls H locs h hP hS
  exact lv_idiv hx hb hdg hne (k ls H locs h hP hS)
theorem z_i2c (hX : OkX X own cc nl fr lo ret v σe) {x : Int32} (hdg : decode cc pc = .ok (.i2c, 1)) (k : Z X σ (pc + 1) lv (.int ((x.toUInt32 % 65536).toInt32) :: st)) : Z X σ pc lv (.int x :: st) := by
  obtain ⟨w, p, e, R, s, m, args, below, meth, c, nL, Q⟩ := X
  obtain ⟨hx, hb, hml, hnl, hown, hts, hK, hN, hZD, hlk, hR, hret, hQ⟩ := hX
  intro ls H locs h hP hS
  exact lv_i2c hx hb hdg rfl (k ls H locs h hP hS)
theorem z_dup (hX : OkX X own cc nl fr lo ret v σe) {a : Value} (ha : a.category = 1) (hdg : decode cc pc = .ok (.dup, 1)) (k : Z X σ (pc + 1) lv (a :: a :: st)) : Z X σ pc lv (a :: st) := by
  obtain ⟨w, p, e, R, s, m, args, below, meth, c, nL, Q⟩ := X
  obtain ⟨hx, hb, hml, hnl, hown, hts, hK, hN, hZD, hlk, hR, hret, hQ⟩ := hX
  intro ls H locs h hP hS
  exact lv_dup hx hb hdg ha (k ls H locs h hP hS)
theorem z_dup2 (hX : OkX X own cc nl fr lo ret v σe) {a b : Value} (ha : a.category = 1) (hb2 : b.category = 1) (hdg : decode cc pc = .ok (.dup2, 1)) (k : Z X σ (pc + 1) lv (a :: b :: a :: b :: st)) : Z X σ pc lv (a :: b :: st) := by
  obtain ⟨w, p, e, R, s, m, args, below, meth, c, nL, Q⟩ := X
  obtain ⟨hx, hb, hml, hnl, hown, hts, hK, hN, hZD, hlk, hR, hret, hQ⟩ := hX
  intro ls H locs h hP hS
  exact lv_dup2_11 hx hb hdg ha hb2 (k ls H locs h hP hS)
theorem z_pop (hX : OkX X own cc nl fr lo ret v σe) {a : Value} (ha : a.category = 1) (hdg : decode cc pc = .ok (.pop, 1)) (k : Z X σ (pc + 1) lv st) : Z X σ pc lv (a :: st) := by
  obtain ⟨w, p, e, R, s, m, args, below, meth, c, nL, Q⟩ := X
  obtain ⟨hx, hb, hml, hnl, hown, hts, hK, hN, hZD, hlk, hR, hret, hQ⟩ := hX
  intro ls H locs h hP hS
  exact lv_pop hx hb hdg ha (k ls H locs h hP hS)
theorem z_goto (hX : OkX X own cc nl fr lo ret v σe) {off : Int} (tgt : Nat) (ht : (pc : Int) + off = (tgt : Int)) (hdg : decode cc pc = .ok (.goto off, 3)) (k : Z X σ tgt lv st) : Z X σ pc lv (st) := by
  obtain ⟨w, p, e, R, s, m, args, below, meth, c, nL, Q⟩ := X
  obtain ⟨hx, hb, hml, hnl, hown, hts, hK, hN, hZD, hlk, hR, hret, hQ⟩ := hX
  intro ls H locs h hP hS
  exact lv_goto hx hb hdg ht (k ls H locs h hP hS)
theorem z_if_eq_t (hX : OkX X own cc nl fr lo ret v σe) {x : Int32} {off : Int} (tgt : Nat) (ht : (pc : Int) + off = (tgt : Int)) (hdg : decode cc pc = .ok (.ifCond .eq off, 3)) (hc : x = 0) (k : Z X σ tgt lv st) : Z X σ pc lv (.int x :: st) := by
  obtain ⟨w, p, e, R, s, m, args, below, meth, c, nL, Q⟩ := X
  obtain ⟨hx, hb, hml, hnl, hown, hts, hK, hN, hZD, hlk, hR, hret, hQ⟩ := hX
  intro ls H locs h hP hS
  exact lv_if_eq hx hb hdg ht (fun _ => k ls H locs h hP hS) (fun q => absurd hc (by first | exact q | exact fun h9 => h9 q))
theorem z_if_eq_f (hX : OkX X own cc nl fr lo ret v σe) {x : Int32} {off : Int} (tgt : Nat) (ht : (pc : Int) + off = (tgt : Int)) (hdg : decode cc pc = .ok (.ifCond .eq off, 3)) (hc : ¬ x = 0) (k : Z X σ (pc + 3) lv st) : Z X σ pc lv (.int x :: st) := by
  obtain ⟨w, p, e, R, s, m, args, below, meth, c, nL, Q⟩ := X
  obtain ⟨hx, hb, hml, hnl, hown, hts, hK, hN, hZD, hlk, hR, hret, hQ⟩ := hX
  intro ls H locs h hP hS
  exact lv_if_eq hx hb hdg ht (fun q => absurd q (by first | exact hc | exact fun h9 => h9 hc)) (fun _ => k ls H locs h hP hS)
theorem z_icmp_eq_t (hX : OkX X own cc nl fr lo ret v σe) {x y : Int32} {off : Int} (tgt : Nat) (ht : (pc : Int) + off = (tgt : Int)) (hdg : decode cc pc = .ok (.if_icmp .eq off, 3)) (hc : x = y) (k : Z X σ tgt lv st) : Z X σ pc lv (.int y :: .int x :: st) := by
  obtain ⟨w, p, e, R, s, m, args, below, meth, c, nL, Q⟩ := X
  obtain ⟨hx, hb, hml, hnl, hown, hts, hK, hN, hZD, hlk, hR, hret, hQ⟩ := hX
  intro ls H locs h hP hS
  exact lv_icmp_eq hx hb hdg ht (fun _ => k ls H locs h hP hS) (fun q => absurd hc (by first | exact q | exact fun h9 => h9 q))
theorem z_icmp_eq_f (hX : OkX X own cc nl fr lo ret v σe) {x y : Int32} {off : Int} (tgt : Nat) (ht : (pc : Int) + off = (tgt : Int)) (hdg : decode cc pc = .ok (.if_icmp .eq off, 3)) (hc : ¬ x = y) (k : Z X σ (pc + 3) lv st) : Z X σ pc lv (.int y :: .int x :: st) := by
  obtain ⟨w, p, e, R, s, m, args, below, meth, c, nL, Q⟩ := X
  obtain ⟨hx, hb, hml, hnl, hown, hts, hK, hN, hZD, hlk, hR, hret, hQ⟩ := hX
  intro ls H locs h hP hS
  exact lv_icmp_eq hx hb hdg ht (fun q => absurd q (by first | exact hc | exact fun h9 => h9 hc)) (fun _ => k ls H locs h hP hS)
theorem z_if_ne_t (hX : OkX X own cc nl fr lo ret v σe) {x : Int32} {off : Int} (tgt : Nat) (ht : (pc : Int) + off = (tgt : Int)) (hdg : decode cc pc = .ok (.ifCond .ne off, 3)) (hc : ¬ x = 0) (k : Z X σ tgt lv st) : Z X σ pc lv (.int x :: st) := by
  obtain ⟨w, p, e, R, s, m, args, below, meth, c, nL, Q⟩ := X
  obtain ⟨hx, hb, hml, hnl, hown, hts, hK, hN, hZD, hlk, hR, hret, hQ⟩ := hX
  intro ls H locs h hP hS
  exact lv_if_ne hx hb hdg ht (fun _ => k ls H locs h hP hS) (fun q => absurd hc (by first | exact q | exact fun h9 => h9 q))
theorem z_if_ne_f (hX : OkX X own cc nl fr lo ret v σe) {x : Int32} {off : Int} (tgt : Nat) (ht : (pc : Int) + off = (tgt : Int)) (hdg : decode cc pc = .ok (.ifCond .ne off, 3)) (hc : x = 0) (k : Z X σ (pc + 3) lv st) : Z X σ pc lv (.int x :: st) := by
  obtain ⟨w, p, e, R, s, m, args, below, meth, c, nL, Q⟩ := X
  obtain ⟨hx, hb, hml, hnl, hown, hts, hK, hN, hZD, hlk, hR, hret, hQ⟩ := hX
  intro ls H locs h hP hS
  exact lv_if_ne hx hb hdg ht (fun q => absurd q (by first | exact hc | exact fun h9 => h9 hc)) (fun _ => k ls H locs h hP hS)
theorem z_icmp_ne_t (hX : OkX X own cc nl fr lo ret v σe) {x y : Int32} {off : Int} (tgt : Nat) (ht : (pc : Int) + off = (tgt : Int)) (hdg : decode cc pc = .ok (.if_icmp .ne off, 3)) (hc : ¬ x = y) (k : Z X σ tgt lv st) : Z X σ pc lv (.int y :: .int x :: st) := by
  obtain ⟨w, p, e, R, s, m, args, below, meth, c, nL, Q⟩ := X
  obtain ⟨hx, hb, hml, hnl, hown, hts, hK, hN, hZD, hlk, hR, hret, hQ⟩ := hX
  intro ls H locs h hP hS
  exact lv_icmp_ne hx hb hdg ht (fun _ => k ls H locs h hP hS) (fun q => absurd hc (by first | exact q | exact fun h9 => h9 q))
theorem z_icmp_ne_f (hX : OkX X own cc nl fr lo ret v σe) {x y : Int32} {off : Int} (tgt : Nat) (ht : (pc : Int) + off = (tgt : Int)) (hdg : decode cc pc = .ok (.if_icmp .ne off, 3)) (hc : x = y) (k : Z X σ (pc + 3) lv st) : Z X σ pc lv (.int y :: .int x :: st) := by
  obtain ⟨w, p, e, R, s, m, args, below, meth, c, nL, Q⟩ := X
  obtain ⟨hx, hb, hml, hnl, hown, hts, hK, hN, hZD, hlk, hR, hret, hQ⟩ := hX
  intro ls H locs h hP hS
  exact lv_icmp_ne hx hb hdg ht (fun q => absurd q (by first | exact hc | exact fun h9 => h9 hc)) (fun _ => k ls H locs h hP hS)
theorem z_if_lt_t (hX : OkX X own cc nl fr lo ret v σe) {x : Int32} {off : Int} (tgt : Nat) (ht : (pc : Int) + off = (tgt : Int)) (hdg : decode cc pc = .ok (.ifCond .lt off, 3)) (hc : x < 0) (k : Z X σ tgt lv st) : Z X σ pc lv (.int x :: st) := by
  obtain ⟨w, p, e, R, s, m, args, below, meth, c, nL, Q⟩ := X
  obtain ⟨hx, hb, hml, hnl, hown, hts, hK, hN, hZD, hlk, hR, hret, hQ⟩ := hX
  intro ls H locs h hP hS
  exact lv_if_lt hx hb hdg ht (fun _ => k ls H locs h hP hS) (fun q => absurd hc (by first | exact q | exact fun h9 => h9 q))
theorem z_if_lt_f (hX : OkX X own cc nl fr lo ret v σe) {x : Int32} {off : Int} (tgt : Nat) (ht : (pc : Int) + off = (tgt : Int)) (hdg : decode cc pc = .ok (.ifCond .lt off, 3)) (hc : ¬ x < 0) (k : Z X σ (pc + 3) lv st) : Z X σ pc lv (.int x :: st) := by
  obtain ⟨w, p, e, R, s, m, args, below, meth, c, nL, Q⟩ := X
  obtain ⟨hx, hb, hml, hnl, hown, hts, hK, hN, hZD, hlk, hR, hret, hQ⟩ := hX
  intro ls H locs h hP hS
  exact lv_if_lt hx hb hdg ht (fun q => absurd q (by first | exact hc | exact fun h9 => h9 hc)) (fun _ => k ls H locs h hP hS)
theorem z_icmp_lt_t (hX : OkX X own cc nl fr lo ret v σe) {x y : Int32} {off : Int} (tgt : Nat) (ht : (pc : Int) + off = (tgt : Int)) (hdg : decode cc pc = .ok (.if_icmp .lt off, 3)) (hc : x < y) (k : Z X σ tgt lv st) : Z X σ pc lv (.int y :: .int x :: st) := by
  obtain ⟨w, p, e, R, s, m, args, below, meth, c, nL, Q⟩ := X
  obtain ⟨hx, hb, hml, hnl, hown, hts, hK, hN, hZD, hlk, hR, hret, hQ⟩ := hX
  intro ls H locs h hP hS
  exact lv_icmp_lt hx hb hdg ht (fun _ => k ls H locs h hP hS) (fun q => absurd hc (by first | exact q | exact fun h9 => h9 q))
theorem z_icmp_lt_f (hX : OkX X own cc nl fr lo ret v σe) {x y : Int32} {off : Int} (tgt : Nat) (ht : (pc : Int) + off = (tgt : Int)) (hdg : decode cc pc = .ok (.if_icmp .lt off, 3)) (hc : ¬ x < y) (k : Z X σ (pc + 3) lv st) : Z X σ pc lv (.int y :: .int x :: st) := by
  obtain ⟨w, p, e, R, s, m, args, below, meth, c, nL, Q⟩ := X
  obtain ⟨hx, hb, hml, hnl, hown, hts, hK, hN, hZD, hlk, hR, hret, hQ⟩ := hX
  intro ls H locs h hP hS
  exact lv_icmp_lt hx hb hdg ht (fun q => absurd q (by first | exact hc | exact fun h9 => h9 hc)) (fun _ => k ls H locs h hP hS)
theorem z_if_ge_t (hX : OkX X own cc nl fr lo ret v σe) {x : Int32} {off : Int} (tgt : Nat) (ht : (pc : Int) + off = (tgt : Int)) (hdg : decode cc pc = .ok (.ifCond .ge off, 3)) (hc : 0 ≤ x) (k : Z X σ tgt lv st) : Z X σ pc lv (.int x :: st) := by
  obtain ⟨w, p, e, R, s, m, args, below, meth, c, nL, Q⟩ := X
  obtain ⟨hx, hb, hml, hnl, hown, hts, hK, hN, hZD, hlk, hR, hret, hQ⟩ := hX
  intro ls H locs h hP hS
  exact lv_if_ge hx hb hdg ht (fun _ => k ls H locs h hP hS) (fun q => absurd hc (by first | exact q | exact fun h9 => h9 q))
theorem z_if_ge_f (hX : OkX X own cc nl fr lo ret v σe) {x : Int32} {off : Int} (tgt : Nat) (ht : (pc : Int) + off = (tgt : Int)) (hdg : decode cc pc = .ok (.ifCond .ge off, 3)) (hc : ¬ 0 ≤ x) (k : Z X σ (pc + 3) lv st) : Z X σ pc lv (.int x :: st) := by
  obtain ⟨w, p, e, R, s, m, args, below, meth, c, nL, Q⟩ := X
  obtain ⟨hx, hb, hml, hnl, hown, hts, hK, hN, hZD, hlk, hR, hret, hQ⟩ := hX
  intro ls H locs h hP hS
  exact lv_if_ge hx hb hdg ht (fun q => absurd q (by first | exact hc | exact fun h9 => h9 hc)) (fun _ => k ls H locs h hP hS)
theorem z_icmp_ge_t (hX : OkX X own cc nl fr lo ret v σe) {x y : Int32} {off : Int} (tgt : Nat) (ht : (pc : Int) + off = (tgt : Int)) (hdg : decode cc pc = .ok (.if_icmp .ge off, 3)) (hc : y ≤ x) (k : Z X σ tgt lv st) : Z X σ pc lv (.int y :: .int x :: st) := by
  obtain ⟨w, p, e, R, s, m, args, below, meth, c, nL, Q⟩ := X
  obtain ⟨hx, hb, hml, hnl, hown, hts, hK, hN, hZD, hlk, hR, hret, hQ⟩ := hX
  intro ls H locs h hP hS
  exact lv_icmp_ge hx hb hdg ht (fun _ => k ls H locs h hP hS) (fun q => absurd hc (by first | exact q | exact fun h9 => h9 q))
theorem z_icmp_ge_f (hX : OkX X own cc nl fr lo ret v σe) {x y : Int32} {off : Int} (tgt : Nat) (ht : (pc : Int) + off = (tgt : Int)) (hdg : decode cc pc = .ok (.if_icmp .ge off, 3)) (hc : ¬ y ≤ x) (k : Z X σ (pc + 3) lv st) : Z X σ pc lv (.int y :: .int x :: st) := by
  obtain ⟨w, p, e, R, s, m, args, below, meth, c, nL, Q⟩ := X
  obtain ⟨hx, hb, hml, hnl, hown, hts, hK, hN, hZD, hlk, hR, hret, hQ⟩ := hX
  intro ls H locs h hP hS
  exact lv_icmp_ge hx hb hdg ht (fun q => absurd q (by first | exact hc | exact fun h9 => h9 hc)) (fun _ => k ls H locs h hP hS)
theorem z_if_gt_t (hX : OkX X own cc nl fr lo ret v σe) {x : Int32} {off : Int} (tgt : Nat) (ht : (pc : Int) + off = (tgt : Int)) (hdg : decode cc pc = .ok (.ifCond .gt off, 3)) (hc : 0 < x) (k : Z X σ tgt lv st) : Z X σ pc lv (.int x :: st) := by
  obtain ⟨w, p, e, R, s, m, args, below, meth, c, nL, Q⟩ := X
  obtain ⟨hx, hb, hml, hnl, hown, hts, hK, hN, hZD, hlk, hR, hret, hQ⟩ := hX
  intro ls H locs h hP hS
  exact lv_if_gt hx hb hdg ht (fun _ => k ls H locs h hP hS) (fun q => absurd hc (by first | exact q | exact fun h9 => h9 q))
theorem z_if_gt_f (hX : OkX X own cc nl fr lo ret v σe) {x : Int32} {off : Int} (tgt : Nat) (ht : (pc : Int) + off = (tgt : Int)) (hdg : decode cc pc = .ok (.ifCond .gt off, 3)) (hc : ¬ 0 < x) (k : Z X σ (pc + 3) lv st) : Z X σ pc lv (.int x :: st) := by
  obtain ⟨w, p, e, R, s, m, args, below, meth, c, nL, Q⟩ := X
  obtain ⟨hx, hb, hml, hnl, hown, hts, hK, hN, hZD, hlk, hR, hret, hQ⟩ := hX
  intro ls H locs h hP hS
  exact lv_if_gt hx hb hdg ht (fun q => absurd q (by first | exact hc | exact fun h9 => h9 hc)) (fun _ => k ls H locs h hP hS)
theorem z_icmp_gt_t (hX : OkX X own cc nl fr lo ret v σe) {x y : Int32} {off : Int} (tgt : Nat) (ht : (pc : Int) + off = (tgt : Int)) (hdg : decode cc pc = .ok (.if_icmp .gt off, 3)) (hc : y < x) (k : Z X σ tgt lv st) : Z X σ pc lv (.int y :: .int x :: st) := by
  obtain ⟨w, p, e, R, s, m, args, below, meth, c, nL, Q⟩ := X
  obtain ⟨hx, hb, hml, hnl, hown, hts, hK, hN, hZD, hlk, hR, hret, hQ⟩ := hX
  intro ls H locs h hP hS
  exact lv_icmp_gt hx hb hdg ht (fun _ => k ls H locs h hP hS) (fun q => absurd hc (by first | exact q | exact fun h9 => h9 q))
theorem z_icmp_gt_f (hX : OkX X own cc nl fr lo ret v σe) {x y : Int32} {off : Int} (tgt : Nat) (ht : (pc : Int) + off = (tgt : Int)) (hdg : decode cc pc = .ok (.if_icmp .gt off, 3)) (hc : ¬ y < x) (k : Z X σ (pc + 3) lv st) : Z X σ pc lv (.int y :: .int x :: st) := by
  obtain ⟨w, p, e, R, s, m, args, below, meth, c, nL, Q⟩ := X
  obtain ⟨hx, hb, hml, hnl, hown, hts, hK, hN, hZD, hlk, hR, hret, hQ⟩ := hX
  intro ls H locs h hP hS
  exact lv_icmp_gt hx hb hdg ht (fun q => absurd q (by first | exact hc | exact fun h9 => h9 hc)) (fun _ => k ls H locs h hP hS)
theorem z_if_le_t (hX : OkX X own cc nl fr lo ret v σe) {x : Int32} {off : Int} (tgt : Nat) (ht : (pc : Int) + off = (tgt : Int)) (hdg : decode cc pc = .ok (.ifCond .le off, 3)) (hc : x ≤ 0) (k : Z X σ tgt lv st) : Z X σ pc lv (.int x :: st) := by
  obtain ⟨w, p, e, R, s, m, args, below, meth, c, nL, Q⟩ := X
  obtain ⟨hx, hb, hml, hnl, hown, hts, hK, hN, hZD, hlk, hR, hret, hQ⟩ := hX
  intro ls H locs h hP hS
  exact lv_if_le hx hb hdg ht (fun _ => k ls H locs h hP hS) (fun q => absurd hc (by first | exact q | exact fun h9 => h9 q))
theorem z_if_le_f (hX : OkX X own cc nl fr lo ret v σe) {x : Int32} {off : Int} (tgt : Nat) (ht : (pc : Int) + off = (tgt : Int)) (hdg : decode cc pc = .ok (.ifCond .le off, 3)) (hc : ¬ x ≤ 0) (k : Z X σ (pc + 3) lv st) : Z X σ pc lv (.int x :: st) := by
  obtain ⟨w, p, e, R, s, m, args, below, meth, c, nL, Q⟩ := X
  obtain ⟨hx, hb, hml, hnl, hown, hts, hK, hN, hZD, hlk, hR, hret, hQ⟩ := hX
  intro ls H locs h hP hS
  exact lv_if_le hx hb hdg ht (fun q => absurd q (by first | exact hc | exact fun h9 => h9 hc)) (fun _ => k ls H locs h hP hS)
theorem z_icmp_le_t (hX : OkX X own cc nl fr lo ret v σe) {x y : Int32} {off : Int} (tgt : Nat) (ht : (pc : Int) + off = (tgt : Int)) (hdg : decode cc pc = .ok (.if_icmp .le off, 3)) (hc : x ≤ y) (k : Z X σ tgt lv st) : Z X σ pc lv (.int y :: .int x :: st) := by
  obtain ⟨w, p, e, R, s, m, args, below, meth, c, nL, Q⟩ := X
  obtain ⟨hx, hb, hml, hnl, hown, hts, hK, hN, hZD, hlk, hR, hret, hQ⟩ := hX
  intro ls H locs h hP hS
  exact lv_icmp_le hx hb hdg ht (fun _ => k ls H locs h hP hS) (fun q => absurd hc (by first | exact q | exact fun h9 => h9 q))
theorem z_icmp_le_f (hX : OkX X own cc nl fr lo ret v σe) {x y : Int32} {off : Int} (tgt : Nat) (ht : (pc : Int) + off = (tgt : Int)) (hdg : decode cc pc = .ok (.if_icmp .le off, 3)) (hc : ¬ x ≤ y) (k : Z X σ (pc + 3) lv st) : Z X σ pc lv (.int y :: .int x :: st) := by
  obtain ⟨w, p, e, R, s, m, args, below, meth, c, nL, Q⟩ := X
  obtain ⟨hx, hb, hml, hnl, hown, hts, hK, hN, hZD, hlk, hR, hret, hQ⟩ := hX
  intro ls H locs h hP hS
  exact lv_icmp_le hx hb hdg ht (fun q => absurd q (by first | exact hc | exact fun h9 => h9 hc)) (fun _ => k ls H locs h hP hS)
theorem z_lookup (hX : OkX X own cc nl fr lo ret v σe) {dflt : Int} {ps : Array (Int × Int)} {len : Nat} {x : Int32} {off : Int} (tgt : Nat) (hp : (ps.toList.zip (ps.toList.drop 1)).all (fun (a, next) => a.1 < next.1) = true) (ho : Op.lookupswitch.offset ps.toList dflt x.toInt = off) (ht : (pc : Int) + off = (tgt : Int)) (hdg : decode cc pc = .ok (.lookupswitch dflt ps, len)) (k : Z X σ tgt lv st) : Z X σ pc lv (.int x :: st) := by
  obtain ⟨w, p, e, R, s, m, args, below, meth, c, nL, Q⟩ := X
  obtain ⟨hx, hb, hml, hnl, hown, hts, hK, hN, hZD, hlk, hR, hret, hQ⟩ := hX
  intro ls H locs h hP hS
  exact lv_lookup hx hb hdg hp ho ht (k ls H locs h hP hS)
theorem z_tabOut (hX : OkX X own cc nl fr lo ret v σe) {dflt a b : Int} {offs : Array Int} {len : Nat} {x : Int32} (tgt : Nat) (hc : x.toInt < a ∨ b < x.toInt) (ht : (pc : Int) + dflt = (tgt : Int)) (hdg : decode cc pc = .ok (.tableswitch dflt a b offs, len)) (k : Z X σ tgt lv st) : Z X σ pc lv (.int x :: st) := by
  obtain ⟨w, p, e, R, s, m, args, below, meth, c, nL, Q⟩ := X
  obtain ⟨hx, hb, hml, hnl, hown, hts, hK, hN, hZD, hlk, hR, hret, hQ⟩ := hX
  intro ls H locs h hP hS
  exact lv_tableOut hx hb hdg hc ht (k ls H locs h hP hS)
theorem z_tabIn (hX : OkX X own cc nl fr lo ret v σe) {dflt a b : Int} {offs : Array Int} {len : Nat} {x : Int32} {off : Int} (tgt : Nat) (h1 : ¬ x.toInt < a) (h2 : ¬ b < x.toInt) (ho : offs[(x.toInt - a).toNat]? = some off) (ht : (pc : Int) + off = (tgt : Int)) (hdg : decode cc pc = .ok (.tableswitch dflt a b offs, len)) (k : Z X σ tgt lv st) : Z X σ pc lv (.int x :: st) := by
  obtain ⟨w, p, e, R, s, m, args, below, meth, c, nL, Q⟩ := X
  obtain ⟨hx, hb, hml, hnl, hown, hts, hK, hN, hZD, hlk, hR, hret, hQ⟩ := hX
  intro ls H locs h hP hS
  exact lv_tableIn hx hb hdg h1 h2 ho ht (k ls H locs h hP hS)
theorem z_get (hX : OkX X own cc nl fr lo ret v σe) {ref C : String} {T : u_T} {N ci idx j : Nat} (hin : ∀ x ∈ u_ws C T N, x ∈ wsA) (hj : j < 150) {fs : List Value} (hcell : cellE (wcy X.1) (wad X.1) σ j = .inr (ci, fs)) (hc : zcl[ci]? = some (C, T, N)) (f : Nat) (hk : f < N) (hlink : Cond.fieldLink own idx ref (T f).2.1 (T f).2.2.1 ∈ wsA) (href : (T f).1 = ref) {x : Value} (hv : fs[f]? = some x) (hdg : decode cc pc = .ok (.getfield idx, 3)) (k : Z X σ (pc + 3) lv (x :: st)) : Z X σ pc lv (rf X.1 j :: st) := by
  obtain ⟨w, p, e, R, s, m, args, below, meth, c, nL, Q⟩ := X
  obtain ⟨hx, hb, hml, hnl, hown, hts, hK, hN, hZD, hlk, hR, hret, hQ⟩ := hX
  intro ls H locs h hP hS
  exact va_get hx hb hts hin hown hK hP j (by rw [zw_get hj, hcell]) hc f hk (hts _ hlink) (fun x h9 => by rw [← href]; exact h9) hv hdg (k ls H locs h hP hS)
theorem z_put (hX : OkX X own cc nl fr lo ret v σe) {ref C : String} {T : u_T} {N ci idx j : Nat} (hin : ∀ x ∈ u_ws C T N, x ∈ wsA) (ty0 : Nat → FieldType) (hty : ∀ k, k < N → parseFieldDescriptor (T k).2.2.1 = some (ty0 k)) (hnm : ∀ a, a < N → ∀ b, b < N → a ≠ b → (T a).2.1 ≠ (T b).2.1) (hj : j < 150) {fs : List Value} (hcell : cellE (wcy X.1) (wad X.1) σ j = .inr (ci, fs)) (hc : zcl[ci]? = some (C, T, N)) (f : Nat) (hk : f < N) (hlink : Cond.fieldLink own idx ref (T f).2.1 (T f).2.2.1 ∈ wsA) (href : (T f).1 = ref) (hfin : (T f).2.2.2 = false) {ty : FieldType} (hd : parseFieldDescriptor (T f).2.2.1 = some ty) {x : Int32} (hn : narrow ty (.int x) = .int x) (hfit : fits ty (.int x) = true) (hl : f < fs.length) (hcell2 : cellE (wcy X.1) (wad X.1) (wr σ j f x) j = .inr (ci, fs.set f (.int x))) (hdg : decode cc pc = .ok (.putfield idx, 3)) (k : Z X (wr σ j f x) (pc + 3) lv st) : Z X σ pc lv (.int x :: rf X.1 j :: st) := by
  obtain ⟨w, p, e, R, s, m, args, below, meth, c, nL, Q⟩ := X
  obtain ⟨hx, hb, hml, hnl, hown, hts, hK, hN, hZD, hlk, hR, hret, hQ⟩ := hX
  intro ls H locs h hP hS
  refine va_put hx hb hts hin ty0 hty hnm hown hK hP (hZD σ) hS j (by rw [zw_get hj, hcell]) hc f hk (hts _ hlink) (fun x h9 => by rw [← href]; exact h9) hfin hd hn hfit hl hdg (fun H1 locs1 hP1 _ hS1 => ?_)
  rw [zw_set hj hcell2] at hP1
  exact k ls H1 locs1 h hP1 hS1
theorem z_iald (hX : OkX X own cc nl fr lo ret v σe) {j n : Nat} {i : Int32} (hj : kd j = 9) (hn : ln j = n) (hi : vp_in i n) (hdg : decode cc pc = .ok (.iaload, 1)) (k : Z X σ (pc + 1) lv (.int (σ j (ix i)) :: st)) : Z X σ pc lv (.int i :: rf X.1 j :: st) := by
  obtain ⟨w, p, e, R, s, m, args, below, meth, c, nL, Q⟩ := X
  obtain ⟨hx, hb, hml, hnl, hown, hts, hK, hN, hZD, hlk, hR, hret, hQ⟩ := hX
  intro ls H locs h hP hS
  exact va_iald hx hb hK hP j 0 (n := n) (f := σ j) (by rw [zw_get (kd_lt hj (by decide)), cellE_arr9 hj, hn]) rfl hi hdg (k ls H locs h hP hS)
theorem z_cald (hX : OkX X own cc nl fr lo ret v σe) {j n : Nat} {i : Int32} (hj : kd j = 10) (hn : ln j = n) (hi : vp_in i n) (hdg : decode cc pc = .ok (.caload, 1)) (k : Z X σ (pc + 1) lv (.int (σ j (ix i)) :: st)) : Z X σ pc lv (.int i :: rf X.1 j :: st) := by
  obtain ⟨w, p, e, R, s, m, args, below, meth, c, nL, Q⟩ := X
  obtain ⟨hx, hb, hml, hnl, hown, hts, hK, hN, hZD, hlk, hR, hret, hQ⟩ := hX
  intro ls H locs h hP hS
  exact va_cald hx hb hK hP j 1 (n := n) (f := σ j) (by rw [zw_get (kd_lt hj (by decide)), cellE_arr10 hj, hn]) rfl hi hdg (k ls H locs h hP hS)
theorem z_zald (hX : OkX X own cc nl fr lo ret v σe) {j n : Nat} {i : Int32} (hj : kd j = 11) (hn : ln j = n) (hi : vp_in i n) (hdg : decode cc pc = .ok (.baload, 1)) (k : Z X σ (pc + 1) lv (.int (σ j (ix i)) :: st)) : Z X σ pc lv (.int i :: rf X.1 j :: st) := by
  obtain ⟨w, p, e, R, s, m, args, below, meth, c, nL, Q⟩ := X
  obtain ⟨hx, hb, hml, hnl, hown, hts, hK, hN, hZD, hlk, hR, hret, hQ⟩ := hX
  intro ls H locs h hP hS
  exact va_zald hx hb hK hP j 2 (n := n) (f := σ j) (by rw [zw_get (kd_lt hj (by decide)), cellE_arr11 hj, hn]) rfl hi hdg (k ls H locs h hP hS)
theorem z_iast (hX : OkX X own cc nl fr lo ret v σe) {j n : Nat} {i x : Int32} (hj : kd j = 9) (hn : ln j = n) (hi : vp_in i n) (hdg : decode cc pc = .ok (.iastore, 1)) (k : Z X (wr σ j (ix i) (x)) (pc + 1) lv st) : Z X σ pc lv (.int x :: .int i :: rf X.1 j :: st) := by
  obtain ⟨w, p, e, R, s, m, args, below, meth, c, nL, Q⟩ := X
  obtain ⟨hx, hb, hml, hnl, hown, hts, hK, hN, hZD, hlk, hR, hret, hQ⟩ := hX
  intro ls H locs h hP hS
  refine va_iast hx hb hK hP (hZD σ) hS j 0 (n := n) (f := σ j) (by rw [zw_get (kd_lt hj (by decide)), cellE_arr9 hj, hn]) rfl hi hdg (fun H1 locs1 hP1 _ hS1 => ?_)
  rw [zw_set (f := upd (σ j) (ix i) (x)) (kd_lt hj (by decide)) (by rw [cellE_arr9 hj, hn, wrA_s])] at hP1
  exact k ls H1 locs1 h hP1 hS1
theorem z_cast (hX : OkX X own cc nl fr lo ret v σe) {j n : Nat} {i x : Int32} (hj : kd j = 10) (hn : ln j = n) (hi : vp_in i n) (hdg : decode cc pc = .ok (.castore, 1)) (k : Z X (wr σ j (ix i) (vp_nar .char x)) (pc + 1) lv st) : Z X σ pc lv (.int x :: .int i :: rf X.1 j :: st) := by
  obtain ⟨w, p, e, R, s, m, args, below, meth, c, nL, Q⟩ := X
  obtain ⟨hx, hb, hml, hnl, hown, hts, hK, hN, hZD, hlk, hR, hret, hQ⟩ := hX
  intro ls H locs h hP hS
  refine va_cast hx hb hK hP (hZD σ) hS j 1 (n := n) (f := σ j) (by rw [zw_get (kd_lt hj (by decide)), cellE_arr10 hj, hn]) rfl hi hdg (fun H1 locs1 hP1 _ hS1 => ?_)
  rw [zw_set (f := upd (σ j) (ix i) (vp_nar .char x)) (kd_lt hj (by decide)) (by rw [cellE_arr10 hj, hn, wrA_s])] at hP1
  exact k ls H1 locs1 h hP1 hS1
theorem z_zast (hX : OkX X own cc nl fr lo ret v σe) {j n : Nat} {i x : Int32} (hj : kd j = 11) (hn : ln j = n) (hi : vp_in i n) (hdg : decode cc pc = .ok (.bastore, 1)) (k : Z X (wr σ j (ix i) (vp_nar .boolean x)) (pc + 1) lv st) : Z X σ pc lv (.int x :: .int i :: rf X.1 j :: st) := by
  obtain ⟨w, p, e, R, s, m, args, below, meth, c, nL, Q⟩ := X
  obtain ⟨hx, hb, hml, hnl, hown, hts, hK, hN, hZD, hlk, hR, hret, hQ⟩ := hX
  intro ls H locs h hP hS
  refine va_zast hx hb hK hP (hZD σ) hS j 2 (n := n) (f := σ j) (by rw [zw_get (kd_lt hj (by decide)), cellE_arr11 hj, hn]) rfl hi hdg (fun H1 locs1 hP1 _ hS1 => ?_)
  rw [zw_set (f := upd (σ j) (ix i) (vp_nar .boolean x)) (kd_lt hj (by decide)) (by rw [cellE_arr11 hj, hn, wrA_s])] at hP1
  exact k ls H1 locs1 h hP1 hS1
theorem z_aald (hX : OkX X own cc nl fr lo ret v σe) {j n : Nat} {i : Int32} (hj : kd j = 12) (hn : ln j = n) (hi : vp_in i n) (hdg : decode cc pc = .ok (.aaload, 1)) (k : Z X σ (pc + 1) lv (rf X.1 (ix (σ j (ix i))) :: st)) : Z X σ pc lv (.int i :: rf X.1 j :: st) := by
  obtain ⟨w, p, e, R, s, m, args, below, meth, c, nL, Q⟩ := X
  obtain ⟨hx, hb, hml, hnl, hown, hts, hK, hN, hZD, hlk, hR, hret, hQ⟩ := hX
  intro ls H locs h hP hS
  exact va_aldq hx hb hK hP j 3 (n := n) (f := fun k9 => some (w.2.2.2.1 (ix (σ j k9)))) (by rw [zw_get (kd_lt hj (by decide)), cellE_arr12 hj, hn]) rfl hi hdg (k ls H locs h hP hS)
theorem z_aast (hX : OkX X own cc nl fr lo ret v σe) {j n q : Nat} {i : Int32} (hj : kd j = 12) (hn : ln j = n) (hq : kd q = 4) (hi : vp_in i n) (hdg : decode cc pc = .ok (.aastore, 1)) (k : Z X (wr σ j (ix i) (nI q)) (pc + 1) lv st) : Z X σ pc lv (rf X.1 q :: .int i :: rf X.1 j :: st) := by
  obtain ⟨w, p, e, R, s, m, args, below, meth, c, nL, Q⟩ := X
  obtain ⟨hx, hb, hml, hnl, hown, hts, hK, hN, hZD, hlk, hR, hret, hQ⟩ := hX
  intro ls H locs h hP hS
  obtain ⟨vs9, hvs9⟩ := cellE_st (cy := w.2.2.1) (ad := w.2.2.2.1) (σ := σ) hq
  refine va_astq hx hb hK hP (hZD σ) hS j 3 q 4 (n := n) (r := (RX4, TX4, 10)) (by rw [zw_get (kd_lt hj (by decide)), cellE_arr12 hj, hn]) rfl (by rw [zw_get (kd_lt hq (by decide)), hvs9]) rfl hi hdg (fun H1 locs1 hP1 _ hS1 => ?_)
  rw [zw_set (f := upd (σ j) (ix i) (nI q)) (kd_lt hj (by decide)) (by
    rw [cellE_arr12 hj, hn, wrA_s]
    refine congrArg (fun f => (Sum.inl (w.2.2.1 3, n, Sum.inr (Sum.inr (Sum.inr (Sum.inr f)))) : va_E)) ?_
    funext x
    by_cases hx9 : x = ix i
    · subst hx9
      simp only [upd, va_up, if_true]
      rw [show ix (nI q) = q from nI_clamp (Nat.lt_trans (kd_lt hq (by decide)) (by decide))]
    · simp only [upd, va_up, if_neg hx9])] at hP1
  exact k ls H1 locs1 h hP1 hS1
theorem z_copyI (hX : OkX X own cc nl fr lo ret v σe) {idx j0 j1 n0 n1 : Nat} {sp dp n : Int32} (hlink : Cond.methodLink own idx arraycopyName ∈ wsA) (hj0 : kd j0 = 9) (hj1 : kd j1 = 9) (hn0 : ln j0 = n0) (hn1 : ln j1 = n1) (h1 : ¬ sp < 0) (h2 : ¬ dp < 0) (h3 : ¬ n < 0) (h4 : ix sp + ix n ≤ n0) (h5 : ix dp + ix n ≤ n1) (hfit : ∀ i, i < ix n → fits .int (.int (σ j0 (ix sp + i))) = true) (hfr : 1 ≤ fr) (hlo : (st.map fun v => v.category).sum + 18 ≤ lo) (hdg : decode cc pc = .ok (.invokestatic idx, 3)) (k : Z X (wrA σ j1 (va_cpy (σ j0) (σ j1) (ix sp) (ix dp) (ix n))) (pc + 3) lv st) : Z X σ pc lv (.int n :: .int dp :: rf X.1 j1 :: .int sp :: rf X.1 j0 :: st) := by
  obtain ⟨w, p, e, R, s, m, args, below, meth, c, nL, Q⟩ := X
  obtain ⟨hx, hb, hml, hnl, hown, hts, hK, hN, hZD, hlk, hR, hret, hQ⟩ := hX
  intro ls H locs h hP hS
  subst hR
  refine va_copyi hx hb (hml.trans h.1.symm) hown (hts _ hlink) (hts _ m_native) (hts _ m_acstat) (hts _ m_sysini) hK hP (hZD σ) hS j0 j1 0 0 (n0 := n0) (n1 := n1) (f := σ j0) (g := σ j1) (by rw [zw_get (kd_lt hj0 (by decide)), cellE_arr9 hj0, hn0]) (by rw [zw_get (kd_lt hj1 (by decide)), cellE_arr9 hj1, hn1]) rfl rfl rfl h1 h2 h3 h4 h5 hfit hfr (by show _ + (nativeFrameWords "java/lang/System" "arraycopy" 5 + 11) ≤ lo; rw [show nativeFrameWords "java/lang/System" "arraycopy" 5 = 7 from by decide +kernel]; exact hlo) hdg (fun H1 locs1 hP1 _ hS1 => ?_)
  rw [zw_set (f := va_cpy (σ j0) (σ j1) (ix sp) (ix dp) (ix n)) (kd_lt hj1 (by decide)) (by rw [cellE_arr9 hj1, hn1, wrA_s])] at hP1
  exact k ls H1 locs1 h hP1 hS1
theorem z_copyC (hX : OkX X own cc nl fr lo ret v σe) {idx j0 j1 n0 n1 : Nat} {sp dp n : Int32} (hlink : Cond.methodLink own idx arraycopyName ∈ wsA) (hj0 : kd j0 = 10) (hj1 : kd j1 = 10) (hn0 : ln j0 = n0) (hn1 : ln j1 = n1) (h1 : ¬ sp < 0) (h2 : ¬ dp < 0) (h3 : ¬ n < 0) (h4 : ix sp + ix n ≤ n0) (h5 : ix dp + ix n ≤ n1) (hfit : ∀ i, i < ix n → fits .char (.int (σ j0 (ix sp + i))) = true) (hfr : 1 ≤ fr) (hlo : (st.map fun v => v.category).sum + 18 ≤ lo) (hdg : decode cc pc = .ok (.invokestatic idx, 3)) (k : Z X (wrA σ j1 (va_cpy (σ j0) (σ j1) (ix sp) (ix dp) (ix n))) (pc + 3) lv st) : Z X σ pc lv (.int n :: .int dp :: rf X.1 j1 :: .int sp :: rf X.1 j0 :: st) := by
  obtain ⟨w, p, e, R, s, m, args, below, meth, c, nL, Q⟩ := X
  obtain ⟨hx, hb, hml, hnl, hown, hts, hK, hN, hZD, hlk, hR, hret, hQ⟩ := hX
  intro ls H locs h hP hS
  subst hR
  refine va_copyi hx hb (hml.trans h.1.symm) hown (hts _ hlink) (hts _ m_native) (hts _ m_acstat) (hts _ m_sysini) hK hP (hZD σ) hS j0 j1 1 1 (n0 := n0) (n1 := n1) (f := σ j0) (g := σ j1) (by rw [zw_get (kd_lt hj0 (by decide)), cellE_arr10 hj0, hn0]) (by rw [zw_get (kd_lt hj1 (by decide)), cellE_arr10 hj1, hn1]) rfl rfl rfl h1 h2 h3 h4 h5 hfit hfr (by show _ + (nativeFrameWords "java/lang/System" "arraycopy" 5 + 11) ≤ lo; rw [show nativeFrameWords "java/lang/System" "arraycopy" 5 = 7 from by decide +kernel]; exact hlo) hdg (fun H1 locs1 hP1 _ hS1 => ?_)
  rw [zw_set (f := va_cpy (σ j0) (σ j1) (ix sp) (ix dp) (ix n)) (kd_lt hj1 (by decide)) (by rw [cellE_arr10 hj1, hn1, wrA_s])] at hP1
  exact k ls H1 locs1 h hP1 hS1
theorem z_min (hX : OkX X own cc nl fr lo ret v σe) {idx : Nat} {x y : Int32} (hlink : Cond.methodLink own idx Lib.Math.min.name ∈ wsA) (hfr : 1 ≤ fr) (hlo : (st.map fun v => v.category).sum + 13 ≤ lo) (hdg : decode cc pc = .ok (.invokestatic idx, 3)) (k : Z X σ (pc + 3) lv (.int (if y < x then y else x) :: st)) : Z X σ pc lv (.int y :: .int x :: st) := by
  obtain ⟨w, p, e, R, s, m, args, below, meth, c, nL, Q⟩ := X
  obtain ⟨hx, hb, hml, hnl, hown, hts, hK, hN, hZD, hlk, hR, hret, hQ⟩ := hX
  intro ls H locs h hP hS
  subst hR
  exact va_mmin hx hb (hml.trans h.1.symm) hown (hts _ hlink) (hts _ m_minstat) (hts _ m_matini) (hts _ m_mincode) hfr hlo (Nat.zero_le _) (Nat.zero_le _) hdg (k ls H locs h hP hS)
theorem z_top {x e : Int32} (hx : x = e) (k : Z X σ pc lv (.int x :: st)) : Z X σ pc lv (.int e :: st) := hx ▸ k
theorem z_topr {q e : Nat} (hx : q = e) (k : Z X σ pc lv (rf X.1 q :: st)) : Z X σ pc lv (rf X.1 e :: st) := hx ▸ k
theorem z_ms {σ0 σ1 : HP} (hs : σ1 = σ0) (k : Z X σ1 pc lv st) : Z X σ0 pc lv st := hs ▸ k
end ZR
/-! what a reading of the code is made of -/
noncomputable def gd {α : Type} (c : Prop) (k : Option α) : Option α := @ite _ c (Classical.propDecidable c) k none
def bd {α β : Type} (a : α) (f : α → β) : β := f a
def bind2 {α β γ : Type} (o : Option (α × β)) (f : α → β → Option γ) : Option γ := o.bind (fun q => f q.1 q.2)
theorem gd_some {α : Type} {c : Prop} {k : Option α} {r : α} (h : gd c k = some r) : c ∧ k = some r := by
  unfold gd at h
  split at h
  · exact ⟨by assumption, h⟩
  · cases h
theorem gd_t {α : Type} {c : Prop} {k : Option α} (h : c) : gd c k = k := by unfold gd; rw [if_pos h]
theorem bd_some {α β : Type} {a : α} {f : α → Option β} {r : β} (h : bd a f = some r) : ∃ x, x = a ∧ f x = some r := ⟨a, rfl, h⟩
theorem bind_some {α β : Type} {o : Option α} {f : α → Option β} {r : β} (h : o.bind f = some r) : ∃ x, o = some x ∧ f x = some r := by
  cases o with
  | none => cases h
  | some x => exact ⟨x, rfl, h⟩
theorem bind2_some {α β γ : Type} {o : Option (α × β)} {f : α → β → Option γ} {r : γ} (h : bind2 o f = some r) : ∃ x y, o = some (x, y) ∧ f x y = some r := by
  cases o with
  | none => cases h
  | some q => exact ⟨q.1, q.2, rfl, h⟩
theorem ite_or {α : Type} {c : Prop} [Decidable c] {a b : Option α} {r : α} (h : (if c then a else b) = some r) : (c ∧ a = some r) ∨ (¬ c ∧ b = some r) := by
  split at h
  · exact Or.inl ⟨by assumption, h⟩
  · exact Or.inr ⟨by assumption, h⟩
theorem nb01 {r : Int32} (h : r = 0 ∨ r = 1) : narrow .boolean (.int r) = .int r := by rcases h with rfl | rfl <;> rfl
end
section
/-! ===== ends, contracts, calls over Z ===== -/
theorem wsA_good {c : Cond} (h : c ∈ wsA) : c ∈ wsA ∧ ((c.onTables && c.keeps) = true ∨ ∃ ty, c = .arrayClass ty) := ⟨h, good_of_word (List.mem_filter.mp h).2⟩
theorem wsA_in {y : MethodName} {bytes : ByteArray} {n : Nat} {ret : Option FieldType} (h : Cond.code y bytes n ret ∈ wsA) : GoodIn wsA (ZMw y bytes n ret) := fun c hc => by
  rcases List.mem_cons.mp hc with rfl | q
  · exact wsA_good h
  · exact wsA_good q
def MthB (y : MethodName) (bytes : ByteArray) (n : Nat) (ret : Option FieldType) (np : Nat) : Prop :=
  Cond.code y bytes n ret ∈ wsA ∧ Cond.initialized y.cls ∈ wsA ∧ (y.cls ≠ "java/lang/invoke/MethodHandle" ∧ y.cls ≠ "java/lang/invoke/VarHandle") ∧ (parseMethodDescriptor y.desc).map (fun d => d.parameters.length) = some np
def MthV (y : MethodName) (bytes : ByteArray) (n : Nat) (ret : Option FieldType) (np : Nat) : Prop := MthB y bytes n ret np ∧ Cond.instanceMethod y ∈ wsA ∧ Cond.selects y.cls y y ∈ wsA
def MthS (y : MethodName) (bytes : ByteArray) (n : Nat) (ret : Option FieldType) (np : Nat) : Prop := MthB y bytes n ret np ∧ Cond.static y ∈ wsA
theorem ZN_same {u U : State} (h : u.vm = U.vm) (q : ZN u) : ZN U := ⟨va_Nw.same rfl h q.1, va_Nw.same rfl h q.2⟩
theorem ZN_warm {s U : State} (hW : s.WarmedH U.vm) (q : ZN s) : ZN U := ⟨va_Nw.warmM hW q.1, va_Nw.warmM hW q.2⟩
theorem z_blind {w : WP} {av : List Value} {σ : HP} : FrameBlind (va_Pc av (fun U => ZP w σ U.heap ∧ va_K (wD w) zcl (ztys (wcy w)) U ∧ ZN U ∧ ZD w)) := fun a U g mk q =>
  ⟨q.1, q.2.1, va_K.moved (u := U) (U := U.calling g mk a) (Vm.Alike.refl U.vm) q.2.2.1, ZN_same (u := U) (U := U.calling g mk a) rfl q.2.2.2.1, q.2.2.2.2⟩
section ZC
variable {X : CX} {σ : HP} {pc : Nat} {lv : List (Nat × Value)} {st : List Value} {own : String} {cc : ByteArray} {nl fr lo : Nat} {ret : Option FieldType} {v : Option Value} {σe : HP}
theorem z_iret {r : Int32} (hX : OkX X own cc nl fr lo (some .int) (some (.int r)) σ) (hdg : decode cc pc = .ok (.ireturn, 1)) : Z X σ pc lv [.int r] := by
  obtain ⟨w, p, e, R, s, m, args, below, meth, c, nL, Q⟩ := X
  obtain ⟨hx, hb, hml, hnl, hown, hts, hK, hN, hZD, hlk, hR, hret, hQ⟩ := hX
  intro ls H locs h hP hS
  subst hQ
  exact W.iret hx hb hret (fun t ht hW => ⟨rfl, by rw [ht]; exact hP, hS.F ht⟩) hS.2.2 hdg hlk
theorem z_zret {r : Int32} {ty : FieldType} (hX : OkX X own cc nl fr lo (some ty) (some (.int r)) σ) (hn : narrow ty (.int r) = .int r) (hdg : decode cc pc = .ok (.ireturn, 1)) : Z X σ pc lv [.int r] := by
  obtain ⟨w, p, e, R, s, m, args, below, meth, c, nL, Q⟩ := X
  obtain ⟨hx, hb, hml, hnl, hown, hts, hK, hN, hZD, hlk, hR, hret, hQ⟩ := hX
  intro ls H locs h hP hS
  subst hQ
  exact W.zret hx hb hret hn (fun t ht hW => ⟨rfl, by rw [ht]; exact hP, hS.F ht⟩) hS.2.2 hdg hlk
theorem z_vret (hX : OkX X own cc nl fr lo none none σ) (hdg : decode cc pc = .ok (.return_, 1)) : Z X σ pc lv [] := by
  obtain ⟨w, p, e, R, s, m, args, below, meth, c, nL, Q⟩ := X
  obtain ⟨hx, hb, hml, hnl, hown, hts, hK, hN, hZD, hlk, hR, hret, hQ⟩ := hX
  intro ls H locs h hP hS
  subst hQ
  exact W.vret hx hb hret (fun t ht hW => ⟨rfl, by rw [ht]; exact hP, hS.F ht⟩) hS.2.2 hdg hlk
theorem z_met (w : WP) {y : MethodName} {n : Nat} {av : List Value} {σ' : HP} (hy : plainName y.cls = true) (hav : (lg_sl av).length ≤ n) (body : ∀ X : CX, X.1 = w → OkX X y.cls cc n fr lo ret v σ' → Z X σ 0 (lv_args 0 av) []) : Ct w y cc n ret fr lo av σ v σ' := by
  refine Met.ofW (cc := cc) (maxL := n) (ret := ret) hy rfl ?_
  intro p e s m args below meth c s₁ B hml hv
  obtain ⟨rfl, hP, hK, hN, hD⟩ := hv
  have hts := atoms_spec (ws := ZMw y cc n ret) B.pre
  have K := body (w, p, e, rmF fr lo, s, m, av.toArray, below, meth, c, n, MQ below (QV w v σ') av.toArray s 0 0 (wA w)) rfl ⟨B.exec, B.bytes, hml, rfl, findClass_of_methodNamed B.named, fun x hx => hts x (List.mem_cons_of_mem _ hx), hK, hN, hD, B.notSynchronized, rfl, B.returns, rfl⟩
  rw [lg_entry_eq]
  exact K _ _ _ (lv_entry av hav) hP va_S.rf
/-- behind a call -/
theorem z_back {w : WP} {p : Program} {e : Env} {R : Room} {s : State} {m : MethodId} {args : Array Value} {below : List Frame} {meth : Method} {c : Code} {H : Heap} {locs : List Loc} {Q : State → Prop} {ls : Array Slot} {nL : Nat} {st0 : List Value} {a : Array Value} {v2 : Option Value} {σ2 : HP}
    (hr : va_Run p w.1 e R s m args below meth c H locs 0 0 0 0 (F0 m pc ls st0) st (QV w v2 σ2 a) (wA w)) (hS : va_S (wA w) s.heap H locs) (h : lv_has ls nL lv) (k : Z (w, p, e, R, s, m, args, below, meth, c, nL, Q) σ2 (pc + 3) lv (v2.toList ++ st)) : W p w.1 e R s m args below meth c H locs 0 0 Q (F0 m pc ls st0) := by
  intro T hT X
  obtain ⟨v, st₀, t, T', L, h0, X', hL, e1, e2, ⟨hv, hP2, hz, hk⟩, stp⟩ := hr T hT X
  cases hv
  rw [h0] at hz hk
  obtain ⟨t2, a1, b1⟩ := k ls T'.heap (locs ++ L) h (by rw [e1]; exact hP2)
    ⟨Nat.le_trans hS.1 (by rw [e1]; exact hz), fun q h1 h2 => by rw [e1, hk q (Nat.lt_of_lt_of_le h1 hS.1) h2]; exact hS.2.1 q h1 h2, fun q hq => by
      rcases List.mem_append.mp hq with h | h
      · exact hS.2.2 q h
      · exact hL q h⟩ T' rfl X'
  exact ⟨t2, stp t2 a1, b1⟩
theorem z_callV (hX : OkX X own cc nl fr lo ret v σe) {y : MethodName} {bytes : ByteArray} {n np idx j ci fr2 lo2 N : Nat} {ret2 : Option FieldType} {T : u_T} {fs : List Value} {As : List Value} {v2 : Option Value} {σ2 : HP} {st0 : List Value}
    (hM : MthV y bytes n ret2 np) (hlink : Cond.methodLink own idx y ∈ wsA) (hj : j < 150) (hcell : cellE (wcy X.1) (wad X.1) σ j = .inr (ci, fs)) (hc : zcl[ci]? = some (y.cls, T, N)) (hC : Ct X.1 y bytes n ret2 fr2 lo2 (rf X.1 j :: As) σ v2 σ2) (hn : As.length = np) (hfr : fr2 + 1 ≤ fr) (hlo : 8 + (n + 11) + lo2 ≤ lo)
    (hst0 : st0 = As.reverse ++ rf X.1 j :: st) (hW : (st.map fun v => v.category).sum ≤ 8) (hdg : decode cc pc = .ok (.invokevirtual idx, 3)) (k : Z X σ2 (pc + 3) lv (v2.toList ++ st)) : Z X σ pc lv st0 := by
  obtain ⟨w, p, e, R, s, m, args, below, meth, c, nL, Q⟩ := X
  obtain ⟨hx, hb, hml, hnl, hown, hts, hK, hN, hZD, hlk, hR, hret, hQ⟩ := hX
  obtain ⟨⟨hcode, hini, hMH, hdesc⟩, hinst, hsel⟩ := hM
  intro ls H locs h hP hS
  subst hR
  refine z_back (va_runV (y := y) (C := y.cls) (As := As) (rest := st) (g := F0 m pc ls st0) (mc := 0) (ms := 0) ⟨hx, hb, hml, hown, hts⟩ hC
    ⟨⟨rfl, rfl, hfr, hlo, pay_in hts (wsA_in hcode), List.mem_cons_self, hts _ hcode, hts _ hini, hMH, fun sig hs => by rw [hs] at hdesc; exact (Option.some.inj hdesc).symm, hts _ hlink⟩, hts _ hinst, hts _ hsel⟩
    ⟨z_blind, va_recv hK hP hc (by rw [zw_get hj, hcell]), fun U hU hW => ⟨rfl, by rw [hU]; exact hP, va_K.moved hW.alike hK, ZN_warm hW hN, hZD⟩⟩ rfl hn h.1 hst0 (lv_room hW) hdg ⟨Nat.le_refl _, Nat.le_refl _⟩) hS h k
theorem z_callS (hX : OkX X own cc nl fr lo ret v σe) {y : MethodName} {bytes : ByteArray} {n np idx fr2 lo2 : Nat} {ret2 : Option FieldType} {As : List Value} {v2 : Option Value} {σ2 : HP} {st0 : List Value}
    (hM : MthS y bytes n ret2 np) (hlink : Cond.methodLink own idx y ∈ wsA) (hC : Ct X.1 y bytes n ret2 fr2 lo2 As σ v2 σ2) (hn : As.length = np) (hfr : fr2 + 1 ≤ fr) (hlo : 8 + (n + 11) + lo2 ≤ lo)
    (hst0 : st0 = As.reverse ++ st) (hW : (st.map fun v => v.category).sum ≤ 8) (hdg : decode cc pc = .ok (.invokestatic idx, 3)) (k : Z X σ2 (pc + 3) lv (v2.toList ++ st)) : Z X σ pc lv st0 := by
  obtain ⟨w, p, e, R, s, m, args, below, meth, c, nL, Q⟩ := X
  obtain ⟨hx, hb, hml, hnl, hown, hts, hK, hN, hZD, hlk, hR, hret, hQ⟩ := hX
  obtain ⟨⟨hcode, hini, hMH, hdesc⟩, hstat⟩ := hM
  intro ls H locs h hP hS
  subst hR
  refine z_back (va_runS (y := y) (As := As) (rest := st) (g := F0 m pc ls st0) (mc := 0) (ms := 0) ⟨hx, hb, hml, hown, hts⟩ hC
    ⟨⟨rfl, rfl, hfr, hlo, pay_in hts (wsA_in hcode), List.mem_cons_self, hts _ hcode, hts _ hini, hMH, fun sig hs => by rw [hs] at hdesc; exact (Option.some.inj hdesc).symm, hts _ hlink⟩, hts _ hstat⟩
    ⟨z_blind, fun U hU hW => ⟨rfl, by rw [hU]; exact hP, va_K.moved hW.alike hK, ZN_warm hW hN, hZD⟩⟩ rfl hn h.1 hst0 (lv_room hW) hdg ⟨Nat.le_refl _, Nat.le_refl _⟩) hS h k
theorem z_callN (hX : OkX X own cc nl fr lo ret v σe) {y : MethodName} {host : String} {bytes : ByteArray} {n np idx fr2 lo2 : Nat} {ret2 : Option FieldType} {As : List Value} {v2 : Option Value} {σ2 : HP} {st0 : List Value}
    (hM : MthS y bytes n ret2 np) (hlink : ∀ U : State, ZN U → va_Nw (.methodLinkNest own idx y host) U) (hC : Ct X.1 y bytes n ret2 fr2 lo2 As σ v2 σ2) (hn : As.length = np) (hfr : fr2 + 1 ≤ fr) (hlo : 8 + (n + 11) + lo2 ≤ lo)
    (hst0 : st0 = As.reverse ++ st) (hW : (st.map fun v => v.category).sum ≤ 8) (hdg : decode cc pc = .ok (.invokestatic idx, 3)) (k : Z X σ2 (pc + 3) lv (v2.toList ++ st)) : Z X σ pc lv st0 := by
  obtain ⟨w, p, e, R, s, m, args, below, meth, c, nL, Q⟩ := X
  obtain ⟨hx, hb, hml, hnl, hown, hts, hK, hN, hZD, hlk, hR, hret, hQ⟩ := hX
  obtain ⟨⟨hcode, hini, hMH, hdesc⟩, hstat⟩ := hM
  intro ls H locs h hP hS
  subst hR
  refine z_back (va_runSN (y := y) (As := As) (rest := st) (g := F0 m pc ls st0) (mc := 0) (ms := 0) ⟨hx, hb, hml, hown, hts⟩ hC
    ⟨⟨⟨rfl, rfl, hfr, hlo, pay_in hts (wsA_in hcode), List.mem_cons_self⟩, hts _ hcode, hts _ hini, hMH, fun sig hs => by rw [hs] at hdesc; exact (Option.some.inj hdesc).symm, va_Nw.use rfl (hlink s hN)⟩, hts _ hstat, trivial⟩
    ⟨z_blind, fun U hU hW => ⟨rfl, by rw [hU]; exact hP, va_K.moved hW.alike hK, ZN_warm hW hN, hZD⟩⟩ rfl hn h.1 hst0 (lv_room hW) hdg ⟨Nat.le_refl _, Nat.le_refl _⟩) hS h k
end ZC
end
section
/-! ===== the tables, one row each: kinds of cells, fields, constants, methods, links ===== -/
theorem cell_0 (w : WP) {σ : HP} {j : Nat} (h : kd j = 0) : cellE (wcy w) (wad w) σ j = .inr (0, [rf w (j + 1), .int (σ j 1), .int (σ j 2), .int (σ j 3)]) := by simp only [cellE, h]
theorem uin_0 : ∀ x ∈ u_ws RX0 TX0 4, x ∈ wsA := by
  intro x hx
  obtain ⟨k, hk, rfl⟩ := List.mem_map.mp hx
  have hk := List.mem_range.mp hk
  rcases (show k = 0 ∨ k = 1 ∨ k = 2 ∨ k = 3 by omega) with rfl | rfl | rfl | rfl
  · exact memT 219 (by decide +kernel) (by decide +kernel)
  · exact memT 221 (by decide +kernel) (by decide +kernel)
  · exact memT 223 (by decide +kernel) (by decide +kernel)
  · exact memT 225 (by decide +kernel) (by decide +kernel)
theorem kq_0_0 : ∀ j, j < 150 → kd j = 0 → kd (j + 1) = 9 ∧ ln (j + 1) = 12 := by decide +kernel
theorem kl_0_0 {j : Nat} (h : kd j = 0) : kd (j + 1) = 9 ∧ ln (j + 1) = 12 := kq_0_0 j (kd_lt h (by decide)) h
theorem cell_1 (w : WP) {σ : HP} {j : Nat} (h : kd j = 1) : cellE (wcy w) (wad w) σ j = .inr (1, [rf w (j + 1), rf w (j + 2), rf w (j + 3), .int (σ j 3)]) := by simp only [cellE, h]
theorem uin_1 : ∀ x ∈ u_ws RX1 TX1 4, x ∈ wsA := by
  intro x hx
  obtain ⟨k, hk, rfl⟩ := List.mem_map.mp hx
  have hk := List.mem_range.mp hk
  rcases (show k = 0 ∨ k = 1 ∨ k = 2 ∨ k = 3 by omega) with rfl | rfl | rfl | rfl
  · exact memT 87 (by decide +kernel) (by decide +kernel)
  · exact memT 89 (by decide +kernel) (by decide +kernel)
  · exact memT 91 (by decide +kernel) (by decide +kernel)
  · exact memT 93 (by decide +kernel) (by decide +kernel)
theorem kq_1_0 : ∀ j, j < 150 → kd j = 1 → kd (j + 1) = 9 ∧ ln (j + 1) = 8 := by decide +kernel
theorem kl_1_0 {j : Nat} (h : kd j = 1) : kd (j + 1) = 9 ∧ ln (j + 1) = 8 := kq_1_0 j (kd_lt h (by decide)) h
theorem kq_1_1 : ∀ j, j < 150 → kd j = 1 → kd (j + 2) = 9 ∧ ln (j + 2) = 8 := by decide +kernel
theorem kl_1_1 {j : Nat} (h : kd j = 1) : kd (j + 2) = 9 ∧ ln (j + 2) = 8 := kq_1_1 j (kd_lt h (by decide)) h
theorem kq_1_2 : ∀ j, j < 150 → kd j = 1 → kd (j + 3) = 9 ∧ ln (j + 3) = 8 := by decide +kernel
theorem kl_1_2 {j : Nat} (h : kd j = 1) : kd (j + 3) = 9 ∧ ln (j + 3) = 8 := kq_1_2 j (kd_lt h (by decide)) h
theorem cell_2 (w : WP) {σ : HP} {j : Nat} (h : kd j = 2) : cellE (wcy w) (wad w) σ j = .inr (2, [rf w (j + 1), .int (σ j 1)]) := by simp only [cellE, h]
theorem uin_2 : ∀ x ∈ u_ws RX2 TX2 2, x ∈ wsA := by
  intro x hx
  obtain ⟨k, hk, rfl⟩ := List.mem_map.mp hx
  have hk := List.mem_range.mp hk
  rcases (show k = 0 ∨ k = 1 by omega) with rfl | rfl
  · exact memT 202 (by decide +kernel) (by decide +kernel)
  · exact memT 204 (by decide +kernel) (by decide +kernel)
theorem kq_2_0 : ∀ j, j < 150 → kd j = 2 → kd (j + 1) = 9 ∧ ln (j + 1) = 12 := by decide +kernel
theorem kl_2_0 {j : Nat} (h : kd j = 2) : kd (j + 1) = 9 ∧ ln (j + 1) = 12 := kq_2_0 j (kd_lt h (by decide)) h
theorem cell_3 (w : WP) {σ : HP} {j : Nat} (h : kd j = 3) : cellE (wcy w) (wad w) σ j = .inr (3, [rf w (j + 1), rf w (j + 2), rf w (j + 3), rf w (j + 4), rf w (j + 5), rf w (j + 6), .int (σ j 6), .int (σ j 7)]) := by simp only [cellE, h]
theorem uin_3 : ∀ x ∈ u_ws RX3 TX3 8, x ∈ wsA := by
  intro x hx
  obtain ⟨k, hk, rfl⟩ := List.mem_map.mp hx
  have hk := List.mem_range.mp hk
  rcases (show k = 0 ∨ k = 1 ∨ k = 2 ∨ k = 3 ∨ k = 4 ∨ k = 5 ∨ k = 6 ∨ k = 7 by omega) with rfl | rfl | rfl | rfl | rfl | rfl | rfl | rfl
  · exact memT 52 (by decide +kernel) (by decide +kernel)
  · exact memT 54 (by decide +kernel) (by decide +kernel)
  · exact memT 56 (by decide +kernel) (by decide +kernel)
  · exact memT 58 (by decide +kernel) (by decide +kernel)
  · exact memT 60 (by decide +kernel) (by decide +kernel)
  · exact memT 62 (by decide +kernel) (by decide +kernel)
  · exact memT 64 (by decide +kernel) (by decide +kernel)
  · exact memT 66 (by decide +kernel) (by decide +kernel)
theorem kq_3_0 : ∀ j, j < 150 → kd j = 3 → kd (j + 1) = 9 ∧ ln (j + 1) = 12 := by decide +kernel
theorem kl_3_0 {j : Nat} (h : kd j = 3) : kd (j + 1) = 9 ∧ ln (j + 1) = 12 := kq_3_0 j (kd_lt h (by decide)) h
theorem kq_3_1 : ∀ j, j < 150 → kd j = 3 → kd (j + 2) = 9 ∧ ln (j + 2) = 12 := by decide +kernel
theorem kl_3_1 {j : Nat} (h : kd j = 3) : kd (j + 2) = 9 ∧ ln (j + 2) = 12 := kq_3_1 j (kd_lt h (by decide)) h
theorem kq_3_2 : ∀ j, j < 150 → kd j = 3 → kd (j + 3) = 9 ∧ ln (j + 3) = 12 := by decide +kernel
theorem kl_3_2 {j : Nat} (h : kd j = 3) : kd (j + 3) = 9 ∧ ln (j + 3) = 12 := kq_3_2 j (kd_lt h (by decide)) h
theorem kq_3_3 : ∀ j, j < 150 → kd j = 3 → kd (j + 4) = 9 ∧ ln (j + 4) = 12 := by decide +kernel
theorem kl_3_3 {j : Nat} (h : kd j = 3) : kd (j + 4) = 9 ∧ ln (j + 4) = 12 := kq_3_3 j (kd_lt h (by decide)) h
theorem kq_3_4 : ∀ j, j < 150 → kd j = 3 → kd (j + 5) = 9 ∧ ln (j + 5) = 12 := by decide +kernel
theorem kl_3_4 {j : Nat} (h : kd j = 3) : kd (j + 5) = 9 ∧ ln (j + 5) = 12 := kq_3_4 j (kd_lt h (by decide)) h
theorem kq_3_5 : ∀ j, j < 150 → kd j = 3 → kd (j + 6) = 9 ∧ ln (j + 6) = 12 := by decide +kernel
theorem kl_3_5 {j : Nat} (h : kd j = 3) : kd (j + 6) = 9 ∧ ln (j + 6) = 12 := kq_3_5 j (kd_lt h (by decide)) h
theorem cell_4 (w : WP) {σ : HP} {j : Nat} (h : kd j = 4) : cellE (wcy w) (wad w) σ j = .inr (4, [rf w (j + 1), rf w (j + 8), rf w (j + 12), rf w (j + 17), .int (σ j 4), .int (σ j 5), .int (σ j 6), .int (σ j 7), .int (σ j 8), .int (σ j 9)]) := by simp only [cellE, h]
theorem uin_4 : ∀ x ∈ u_ws RX4 TX4 10, x ∈ wsA := by
  intro x hx
  obtain ⟨k, hk, rfl⟩ := List.mem_map.mp hx
  have hk := List.mem_range.mp hk
  rcases (show k = 0 ∨ k = 1 ∨ k = 2 ∨ k = 3 ∨ k = 4 ∨ k = 5 ∨ k = 6 ∨ k = 7 ∨ k = 8 ∨ k = 9 by omega) with rfl | rfl | rfl | rfl | rfl | rfl | rfl | rfl | rfl | rfl
  · exact memT 170 (by decide +kernel) (by decide +kernel)
  · exact memT 172 (by decide +kernel) (by decide +kernel)
  · exact memT 174 (by decide +kernel) (by decide +kernel)
  · exact memT 176 (by decide +kernel) (by decide +kernel)
  · exact memT 178 (by decide +kernel) (by decide +kernel)
  · exact memT 180 (by decide +kernel) (by decide +kernel)
  · exact memT 182 (by decide +kernel) (by decide +kernel)
  · exact memT 184 (by decide +kernel) (by decide +kernel)
  · exact memT 186 (by decide +kernel) (by decide +kernel)
  · exact memT 188 (by decide +kernel) (by decide +kernel)
theorem kq_4_0 : ∀ j, j < 150 → kd j = 4 → kd (j + 1) = 3 ∧ ln (j + 1) = 0 := by decide +kernel
theorem kl_4_0 {j : Nat} (h : kd j = 4) : kd (j + 1) = 3 ∧ ln (j + 1) = 0 := kq_4_0 j (kd_lt h (by decide)) h
theorem kq_4_1 : ∀ j, j < 150 → kd j = 4 → kd (j + 8) = 1 ∧ ln (j + 8) = 0 := by decide +kernel
theorem kl_4_1 {j : Nat} (h : kd j = 4) : kd (j + 8) = 1 ∧ ln (j + 8) = 0 := kq_4_1 j (kd_lt h (by decide)) h
theorem kq_4_2 : ∀ j, j < 150 → kd j = 4 → kd (j + 12) = 5 ∧ ln (j + 12) = 0 := by decide +kernel
theorem kl_4_2 {j : Nat} (h : kd j = 4) : kd (j + 12) = 5 ∧ ln (j + 12) = 0 := kq_4_2 j (kd_lt h (by decide)) h
theorem kq_4_3 : ∀ j, j < 150 → kd j = 4 → kd (j + 17) = 6 ∧ ln (j + 17) = 0 := by decide +kernel
theorem kl_4_3 {j : Nat} (h : kd j = 4) : kd (j + 17) = 6 ∧ ln (j + 17) = 0 := kq_4_3 j (kd_lt h (by decide)) h
theorem cell_5 (w : WP) {σ : HP} {j : Nat} (h : kd j = 5) : cellE (wcy w) (wad w) σ j = .inr (5, [rf w (j + 1), rf w (j + 2), rf w (j + 3), rf w (j + 4), .int (σ j 4), .int (σ j 5)]) := by simp only [cellE, h]
theorem uin_5 : ∀ x ∈ u_ws RX5 TX5 6, x ∈ wsA := by
  intro x hx
  obtain ⟨k, hk, rfl⟩ := List.mem_map.mp hx
  have hk := List.mem_range.mp hk
  rcases (show k = 0 ∨ k = 1 ∨ k = 2 ∨ k = 3 ∨ k = 4 ∨ k = 5 by omega) with rfl | rfl | rfl | rfl | rfl | rfl
  · exact memT 114 (by decide +kernel) (by decide +kernel)
  · exact memT 116 (by decide +kernel) (by decide +kernel)
  · exact memT 118 (by decide +kernel) (by decide +kernel)
  · exact memT 120 (by decide +kernel) (by decide +kernel)
  · exact memT 122 (by decide +kernel) (by decide +kernel)
  · exact memT 124 (by decide +kernel) (by decide +kernel)
theorem kq_5_0 : ∀ j, j < 150 → kd j = 5 → kd (j + 1) = 9 ∧ ln (j + 1) = 8 := by decide +kernel
theorem kl_5_0 {j : Nat} (h : kd j = 5) : kd (j + 1) = 9 ∧ ln (j + 1) = 8 := kq_5_0 j (kd_lt h (by decide)) h
theorem kq_5_1 : ∀ j, j < 150 → kd j = 5 → kd (j + 2) = 9 ∧ ln (j + 2) = 8 := by decide +kernel
theorem kl_5_1 {j : Nat} (h : kd j = 5) : kd (j + 2) = 9 ∧ ln (j + 2) = 8 := kq_5_1 j (kd_lt h (by decide)) h
theorem kq_5_2 : ∀ j, j < 150 → kd j = 5 → kd (j + 3) = 9 ∧ ln (j + 3) = 8 := by decide +kernel
theorem kl_5_2 {j : Nat} (h : kd j = 5) : kd (j + 3) = 9 ∧ ln (j + 3) = 8 := kq_5_2 j (kd_lt h (by decide)) h
theorem kq_5_3 : ∀ j, j < 150 → kd j = 5 → kd (j + 4) = 9 ∧ ln (j + 4) = 8 := by decide +kernel
theorem kl_5_3 {j : Nat} (h : kd j = 5) : kd (j + 4) = 9 ∧ ln (j + 4) = 8 := kq_5_3 j (kd_lt h (by decide)) h
theorem cell_6 (w : WP) {σ : HP} {j : Nat} (h : kd j = 6) : cellE (wcy w) (wad w) σ j = .inr (6, [rf w (j + 1), .int (σ j 1)]) := by simp only [cellE, h]
theorem uin_6 : ∀ x ∈ u_ws RX6 TX6 2, x ∈ wsA := by
  intro x hx
  obtain ⟨k, hk, rfl⟩ := List.mem_map.mp hx
  have hk := List.mem_range.mp hk
  rcases (show k = 0 ∨ k = 1 by omega) with rfl | rfl
  · exact memT 139 (by decide +kernel) (by decide +kernel)
  · exact memT 141 (by decide +kernel) (by decide +kernel)
theorem kq_6_0 : ∀ j, j < 150 → kd j = 6 → kd (j + 1) = 10 ∧ ln (j + 1) = 12 := by decide +kernel
theorem kl_6_0 {j : Nat} (h : kd j = 6) : kd (j + 1) = 10 ∧ ln (j + 1) = 12 := kq_6_0 j (kd_lt h (by decide)) h
theorem cell_7 (w : WP) {σ : HP} {j : Nat} (h : kd j = 7) : cellE (wcy w) (wad w) σ j = .inr (7, [rf w (0), rf w (19), rf w (38), rf w (134), rf w (135), rf w (136), rf w (138), .int (σ j 7), .int (σ j 8), .int (σ j 9)]) := by simp only [cellE, h]
theorem uin_7 : ∀ x ∈ u_ws RX7 TX7 10, x ∈ wsA := by
  intro x hx
  obtain ⟨k, hk, rfl⟩ := List.mem_map.mp hx
  have hk := List.mem_range.mp hk
  rcases (show k = 0 ∨ k = 1 ∨ k = 2 ∨ k = 3 ∨ k = 4 ∨ k = 5 ∨ k = 6 ∨ k = 7 ∨ k = 8 ∨ k = 9 by omega) with rfl | rfl | rfl | rfl | rfl | rfl | rfl | rfl | rfl | rfl
  · exact memT 238 (by decide +kernel) (by decide +kernel)
  · exact memT 240 (by decide +kernel) (by decide +kernel)
  · exact memT 242 (by decide +kernel) (by decide +kernel)
  · exact memT 244 (by decide +kernel) (by decide +kernel)
  · exact memT 246 (by decide +kernel) (by decide +kernel)
  · exact memT 248 (by decide +kernel) (by decide +kernel)
  · exact memT 250 (by decide +kernel) (by decide +kernel)
  · exact memT 252 (by decide +kernel) (by decide +kernel)
  · exact memT 254 (by decide +kernel) (by decide +kernel)
  · exact memT 256 (by decide +kernel) (by decide +kernel)
theorem kq_7_0 : ∀ j, j < 150 → kd j = 7 → kd (0) = 4 ∧ ln (0) = 0 := by decide +kernel
theorem kl_7_0 {j : Nat} (h : kd j = 7) : kd (0) = 4 ∧ ln (0) = 0 := kq_7_0 j (kd_lt h (by decide)) h
theorem kq_7_1 : ∀ j, j < 150 → kd j = 7 → kd (19) = 4 ∧ ln (19) = 0 := by decide +kernel
theorem kl_7_1 {j : Nat} (h : kd j = 7) : kd (19) = 4 ∧ ln (19) = 0 := kq_7_1 j (kd_lt h (by decide)) h
theorem kq_7_2 : ∀ j, j < 150 → kd j = 7 → kd (38) = 4 ∧ ln (38) = 0 := by decide +kernel
theorem kl_7_2 {j : Nat} (h : kd j = 7) : kd (38) = 4 ∧ ln (38) = 0 := kq_7_2 j (kd_lt h (by decide)) h
theorem kq_7_3 : ∀ j, j < 150 → kd j = 7 → kd (134) = 12 ∧ ln (134) = 4 := by decide +kernel
theorem kl_7_3 {j : Nat} (h : kd j = 7) : kd (134) = 12 ∧ ln (134) = 4 := kq_7_3 j (kd_lt h (by decide)) h
theorem kq_7_4 : ∀ j, j < 150 → kd j = 7 → kd (135) = 10 ∧ ln (135) = 60 := by decide +kernel
theorem kl_7_4 {j : Nat} (h : kd j = 7) : kd (135) = 10 ∧ ln (135) = 60 := kq_7_4 j (kd_lt h (by decide)) h
theorem kq_7_5 : ∀ j, j < 150 → kd j = 7 → kd (136) = 2 ∧ ln (136) = 0 := by decide +kernel
theorem kl_7_5 {j : Nat} (h : kd j = 7) : kd (136) = 2 ∧ ln (136) = 0 := kq_7_5 j (kd_lt h (by decide)) h
theorem kq_7_6 : ∀ j, j < 150 → kd j = 7 → kd (138) = 0 ∧ ln (138) = 0 := by decide +kernel
theorem kl_7_6 {j : Nat} (h : kd j = 7) : kd (138) = 0 ∧ ln (138) = 0 := kq_7_6 j (kd_lt h (by decide)) h
theorem cell_8 (w : WP) {σ : HP} {j : Nat} (h : kd j = 8) : cellE (wcy w) (wad w) σ j = .inr (8, [rf w (j + 1), rf w (j + 2), rf w (j + 3), .int (σ j 3), rf w (j + 4), .int (σ j 5), rf w (j + 5), .int (σ j 7), rf w (j + 6), rf w (j + 7), rf w (j + 8), rf w (j + 9)]) := by simp only [cellE, h]
theorem uin_8 : ∀ x ∈ u_ws RX8 TX8 12, x ∈ wsA := by
  intro x hx
  obtain ⟨k, hk, rfl⟩ := List.mem_map.mp hx
  have hk := List.mem_range.mp hk
  rcases (show k = 0 ∨ k = 1 ∨ k = 2 ∨ k = 3 ∨ k = 4 ∨ k = 5 ∨ k = 6 ∨ k = 7 ∨ k = 8 ∨ k = 9 ∨ k = 10 ∨ k = 11 by omega) with rfl | rfl | rfl | rfl | rfl | rfl | rfl | rfl | rfl | rfl | rfl | rfl
  · exact memT 632 (by decide +kernel) (by decide +kernel)
  · exact memT 634 (by decide +kernel) (by decide +kernel)
  · exact memT 636 (by decide +kernel) (by decide +kernel)
  · exact memT 638 (by decide +kernel) (by decide +kernel)
  · exact memT 640 (by decide +kernel) (by decide +kernel)
  · exact memT 642 (by decide +kernel) (by decide +kernel)
  · exact memT 644 (by decide +kernel) (by decide +kernel)
  · exact memT 646 (by decide +kernel) (by decide +kernel)
  · exact memT 648 (by decide +kernel) (by decide +kernel)
  · exact memT 650 (by decide +kernel) (by decide +kernel)
  · exact memT 652 (by decide +kernel) (by decide +kernel)
  · exact memT 654 (by decide +kernel) (by decide +kernel)
theorem kq_8_0 : ∀ j, j < 150 → kd j = 8 → kd (j + 1) = 9 ∧ ln (j + 1) = 152 := by decide +kernel
theorem kl_8_0 {j : Nat} (h : kd j = 8) : kd (j + 1) = 9 ∧ ln (j + 1) = 152 := kq_8_0 j (kd_lt h (by decide)) h
theorem kq_8_1 : ∀ j, j < 150 → kd j = 8 → kd (j + 2) = 9 ∧ ln (j + 2) = 152 := by decide +kernel
theorem kl_8_1 {j : Nat} (h : kd j = 8) : kd (j + 2) = 9 ∧ ln (j + 2) = 152 := kq_8_1 j (kd_lt h (by decide)) h
theorem kq_8_2 : ∀ j, j < 150 → kd j = 8 → kd (j + 3) = 9 ∧ ln (j + 3) = 608 := by decide +kernel
theorem kl_8_2 {j : Nat} (h : kd j = 8) : kd (j + 3) = 9 ∧ ln (j + 3) = 608 := kq_8_2 j (kd_lt h (by decide)) h
theorem kq_8_4 : ∀ j, j < 150 → kd j = 8 → kd (j + 4) = 9 ∧ ln (j + 4) = 152 := by decide +kernel
theorem kl_8_4 {j : Nat} (h : kd j = 8) : kd (j + 4) = 9 ∧ ln (j + 4) = 152 := kq_8_4 j (kd_lt h (by decide)) h
theorem kq_8_6 : ∀ j, j < 150 → kd j = 8 → kd (j + 5) = 10 ∧ ln (j + 5) = 60 := by decide +kernel
theorem kl_8_6 {j : Nat} (h : kd j = 8) : kd (j + 5) = 10 ∧ ln (j + 5) = 60 := kq_8_6 j (kd_lt h (by decide)) h
theorem kq_8_8 : ∀ j, j < 150 → kd j = 8 → kd (j + 6) = 11 ∧ ln (j + 6) = 12 := by decide +kernel
theorem kl_8_8 {j : Nat} (h : kd j = 8) : kd (j + 6) = 11 ∧ ln (j + 6) = 12 := kq_8_8 j (kd_lt h (by decide)) h
theorem kq_8_9 : ∀ j, j < 150 → kd j = 8 → kd (j + 7) = 9 ∧ ln (j + 7) = 12 := by decide +kernel
theorem kl_8_9 {j : Nat} (h : kd j = 8) : kd (j + 7) = 9 ∧ ln (j + 7) = 12 := kq_8_9 j (kd_lt h (by decide)) h
theorem kq_8_10 : ∀ j, j < 150 → kd j = 8 → kd (j + 8) = 9 ∧ ln (j + 8) = 12 := by decide +kernel
theorem kl_8_10 {j : Nat} (h : kd j = 8) : kd (j + 8) = 9 ∧ ln (j + 8) = 12 := kq_8_10 j (kd_lt h (by decide)) h
theorem kq_8_11 : ∀ j, j < 150 → kd j = 8 → kd (j + 9) = 9 ∧ ln (j + 9) = 152 := by decide +kernel
theorem kl_8_11 {j : Nat} (h : kd j = 8) : kd (j + 9) = 9 ∧ ln (j + 9) = 152 := kq_8_11 j (kd_lt h (by decide)) h
theorem mf_X7_10 : Cond.fieldLink RX7 10 "KiteWords" "now" "LKiteWords$State;" ∈ wsA := memT 228 (by decide +kernel) (by decide +kernel)
theorem g_X7_10 {X : CX} {σ : HP} {pc : Nat} {lv : List (Nat × Value)} {st : List Value} {cc : ByteArray} {nl fr lo : Nat} {ret : Option FieldType} {v : Option Value} {σe : HP} (hX : OkX X RX7 cc nl fr lo ret v σe) {j : Nat} (hj : kd j = 7) (hdg : decode cc pc = .ok (.getfield 10, 3)) (k : Z X σ (pc + 3) lv (rf X.1 (0) :: st)) : Z X σ pc lv (rf X.1 j :: st) := z_get hX uin_7 (kd_lt hj (by decide)) (cell_7 X.1 hj) rfl 0 (by decide) mf_X7_10 rfl rfl hdg k
theorem mf_X7_16 : Cond.fieldLink RX7 16 "KiteWords" "trial" "LKiteWords$State;" ∈ wsA := memT 229 (by decide +kernel) (by decide +kernel)
theorem g_X7_16 {X : CX} {σ : HP} {pc : Nat} {lv : List (Nat × Value)} {st : List Value} {cc : ByteArray} {nl fr lo : Nat} {ret : Option FieldType} {v : Option Value} {σe : HP} (hX : OkX X RX7 cc nl fr lo ret v σe) {j : Nat} (hj : kd j = 7) (hdg : decode cc pc = .ok (.getfield 16, 3)) (k : Z X σ (pc + 3) lv (rf X.1 (19) :: st)) : Z X σ pc lv (rf X.1 j :: st) := z_get hX uin_7 (kd_lt hj (by decide)) (cell_7 X.1 hj) rfl 1 (by decide) mf_X7_16 rfl rfl hdg k
theorem mf_X7_19 : Cond.fieldLink RX7 19 "KiteWords" "snapshot" "LKiteWords$State;" ∈ wsA := memT 230 (by decide +kernel) (by decide +kernel)
theorem g_X7_19 {X : CX} {σ : HP} {pc : Nat} {lv : List (Nat × Value)} {st : List Value} {cc : ByteArray} {nl fr lo : Nat} {ret : Option FieldType} {v : Option Value} {σe : HP} (hX : OkX X RX7 cc nl fr lo ret v σe) {j : Nat} (hj : kd j = 7) (hdg : decode cc pc = .ok (.getfield 19, 3)) (k : Z X σ (pc + 3) lv (rf X.1 (38) :: st)) : Z X σ pc lv (rf X.1 j :: st) := z_get hX uin_7 (kd_lt hj (by decide)) (cell_7 X.1 hj) rfl 2 (by decide) mf_X7_19 rfl rfl hdg k
theorem mf_X7_22 : Cond.fieldLink RX7 22 "KiteWords" "history" "[LKiteWords$State;" ∈ wsA := memT 231 (by decide +kernel) (by decide +kernel)
theorem g_X7_22 {X : CX} {σ : HP} {pc : Nat} {lv : List (Nat × Value)} {st : List Value} {cc : ByteArray} {nl fr lo : Nat} {ret : Option FieldType} {v : Option Value} {σe : HP} (hX : OkX X RX7 cc nl fr lo ret v σe) {j : Nat} (hj : kd j = 7) (hdg : decode cc pc = .ok (.getfield 22, 3)) (k : Z X σ (pc + 3) lv (rf X.1 (134) :: st)) : Z X σ pc lv (rf X.1 j :: st) := z_get hX uin_7 (kd_lt hj (by decide)) (cell_7 X.1 hj) rfl 3 (by decide) mf_X7_22 rfl rfl hdg k
theorem mf_X7_26 : Cond.fieldLink RX7 26 "KiteWords" "text" "[C" ∈ wsA := memT 232 (by decide +kernel) (by decide +kernel)
theorem g_X7_26 {X : CX} {σ : HP} {pc : Nat} {lv : List (Nat × Value)} {st : List Value} {cc : ByteArray} {nl fr lo : Nat} {ret : Option FieldType} {v : Option Value} {σe : HP} (hX : OkX X RX7 cc nl fr lo ret v σe) {j : Nat} (hj : kd j = 7) (hdg : decode cc pc = .ok (.getfield 26, 3)) (k : Z X σ (pc + 3) lv (rf X.1 (135) :: st)) : Z X σ pc lv (rf X.1 j :: st) := z_get hX uin_7 (kd_lt hj (by decide)) (cell_7 X.1 hj) rfl 4 (by decide) mf_X7_26 rfl rfl hdg k
theorem mf_X7_33 : Cond.fieldLink RX7 33 "KiteWords" "reading" "LKiteWords$Reading;" ∈ wsA := memT 233 (by decide +kernel) (by decide +kernel)
theorem g_X7_33 {X : CX} {σ : HP} {pc : Nat} {lv : List (Nat × Value)} {st : List Value} {cc : ByteArray} {nl fr lo : Nat} {ret : Option FieldType} {v : Option Value} {σe : HP} (hX : OkX X RX7 cc nl fr lo ret v σe) {j : Nat} (hj : kd j = 7) (hdg : decode cc pc = .ok (.getfield 33, 3)) (k : Z X σ (pc + 3) lv (rf X.1 (136) :: st)) : Z X σ pc lv (rf X.1 j :: st) := z_get hX uin_7 (kd_lt hj (by decide)) (cell_7 X.1 hj) rfl 5 (by decide) mf_X7_33 rfl rfl hdg k
theorem mf_X7_40 : Cond.fieldLink RX7 40 "KiteWords" "aim" "LKiteWords$Aim;" ∈ wsA := memT 234 (by decide +kernel) (by decide +kernel)
theorem g_X7_40 {X : CX} {σ : HP} {pc : Nat} {lv : List (Nat × Value)} {st : List Value} {cc : ByteArray} {nl fr lo : Nat} {ret : Option FieldType} {v : Option Value} {σe : HP} (hX : OkX X RX7 cc nl fr lo ret v σe) {j : Nat} (hj : kd j = 7) (hdg : decode cc pc = .ok (.getfield 40, 3)) (k : Z X σ (pc + 3) lv (rf X.1 (138) :: st)) : Z X σ pc lv (rf X.1 j :: st) := z_get hX uin_7 (kd_lt hj (by decide)) (cell_7 X.1 hj) rfl 6 (by decide) mf_X7_40 rfl rfl hdg k
theorem mf_X7_44 : Cond.fieldLink RX7 44 "KiteWords" "hasSnapshot" "Z" ∈ wsA := memT 235 (by decide +kernel) (by decide +kernel)
theorem g_X7_44 {X : CX} {σ : HP} {pc : Nat} {lv : List (Nat × Value)} {st : List Value} {cc : ByteArray} {nl fr lo : Nat} {ret : Option FieldType} {v : Option Value} {σe : HP} (hX : OkX X RX7 cc nl fr lo ret v σe) {j : Nat} (hj : kd j = 7) (hdg : decode cc pc = .ok (.getfield 44, 3)) (k : Z X σ (pc + 3) lv (.int (σ j 7) :: st)) : Z X σ pc lv (rf X.1 j :: st) := z_get hX uin_7 (kd_lt hj (by decide)) (cell_7 X.1 hj) rfl 7 (by decide) mf_X7_44 rfl rfl hdg k
theorem p_X7_44 {X : CX} {σ : HP} {pc : Nat} {lv : List (Nat × Value)} {st : List Value} {cc : ByteArray} {nl fr lo : Nat} {ret : Option FieldType} {v : Option Value} {σe : HP} (hX : OkX X RX7 cc nl fr lo ret v σe) {j : Nat} {x : Int32} (hj : kd j = 7) (hb : x = 0 ∨ x = 1) (hdg : decode cc pc = .ok (.putfield 44, 3)) (k : Z X (wr σ j 7 x) (pc + 3) lv st) : Z X σ pc lv (.int x :: rf X.1 j :: st) := z_put hX uin_7 tyX7 tyX7_ok nmX7 (kd_lt hj (by decide)) (cell_7 X.1 hj) rfl 7 (by decide) mf_X7_44 rfl rfl (ty := .boolean) (by decide +kernel) (by rcases hb with rfl | rfl <;> rfl) (by rcases hb with rfl | rfl <;> rfl) (Nat.le_of_ble_eq_true rfl) (by rw [cell_7 X.1 hj]; simp [wr, wrA, upd]) hdg k
theorem mf_X7_48 : Cond.fieldLink RX7 48 "KiteWords" "recorded" "I" ∈ wsA := memT 236 (by decide +kernel) (by decide +kernel)
theorem g_X7_48 {X : CX} {σ : HP} {pc : Nat} {lv : List (Nat × Value)} {st : List Value} {cc : ByteArray} {nl fr lo : Nat} {ret : Option FieldType} {v : Option Value} {σe : HP} (hX : OkX X RX7 cc nl fr lo ret v σe) {j : Nat} (hj : kd j = 7) (hdg : decode cc pc = .ok (.getfield 48, 3)) (k : Z X σ (pc + 3) lv (.int (σ j 8) :: st)) : Z X σ pc lv (rf X.1 j :: st) := z_get hX uin_7 (kd_lt hj (by decide)) (cell_7 X.1 hj) rfl 8 (by decide) mf_X7_48 rfl rfl hdg k
theorem p_X7_48 {X : CX} {σ : HP} {pc : Nat} {lv : List (Nat × Value)} {st : List Value} {cc : ByteArray} {nl fr lo : Nat} {ret : Option FieldType} {v : Option Value} {σe : HP} (hX : OkX X RX7 cc nl fr lo ret v σe) {j : Nat} {x : Int32} (hj : kd j = 7) (hdg : decode cc pc = .ok (.putfield 48, 3)) (k : Z X (wr σ j 8 x) (pc + 3) lv st) : Z X σ pc lv (.int x :: rf X.1 j :: st) := z_put hX uin_7 tyX7 tyX7_ok nmX7 (kd_lt hj (by decide)) (cell_7 X.1 hj) rfl 8 (by decide) mf_X7_48 rfl rfl (ty := .int) (by decide +kernel) rfl rfl (Nat.le_of_ble_eq_true rfl) (by rw [cell_7 X.1 hj]; simp [wr, wrA, upd]) hdg k
theorem mf_X7_52 : Cond.fieldLink RX7 52 "KiteWords" "typed" "I" ∈ wsA := memT 237 (by decide +kernel) (by decide +kernel)
theorem g_X7_52 {X : CX} {σ : HP} {pc : Nat} {lv : List (Nat × Value)} {st : List Value} {cc : ByteArray} {nl fr lo : Nat} {ret : Option FieldType} {v : Option Value} {σe : HP} (hX : OkX X RX7 cc nl fr lo ret v σe) {j : Nat} (hj : kd j = 7) (hdg : decode cc pc = .ok (.getfield 52, 3)) (k : Z X σ (pc + 3) lv (.int (σ j 9) :: st)) : Z X σ pc lv (rf X.1 j :: st) := z_get hX uin_7 (kd_lt hj (by decide)) (cell_7 X.1 hj) rfl 9 (by decide) mf_X7_52 rfl rfl hdg k
theorem p_X7_52 {X : CX} {σ : HP} {pc : Nat} {lv : List (Nat × Value)} {st : List Value} {cc : ByteArray} {nl fr lo : Nat} {ret : Option FieldType} {v : Option Value} {σe : HP} (hX : OkX X RX7 cc nl fr lo ret v σe) {j : Nat} {x : Int32} (hj : kd j = 7) (hdg : decode cc pc = .ok (.putfield 52, 3)) (k : Z X (wr σ j 9 x) (pc + 3) lv st) : Z X σ pc lv (.int x :: rf X.1 j :: st) := z_put hX uin_7 tyX7 tyX7_ok nmX7 (kd_lt hj (by decide)) (cell_7 X.1 hj) rfl 9 (by decide) mf_X7_52 rfl rfl (ty := .int) (by decide +kernel) rfl rfl (Nat.le_of_ble_eq_true rfl) (by rw [cell_7 X.1 hj]; simp [wr, wrA, upd]) hdg k
theorem mf_X7_64 : Cond.fieldLink RX7 64 "KiteWords$State" "row" "LKiteWords$Row;" ∈ wsA := memT 147 (by decide +kernel) (by decide +kernel)
theorem g_X7_64 {X : CX} {σ : HP} {pc : Nat} {lv : List (Nat × Value)} {st : List Value} {cc : ByteArray} {nl fr lo : Nat} {ret : Option FieldType} {v : Option Value} {σe : HP} (hX : OkX X RX7 cc nl fr lo ret v σe) {j : Nat} (hj : kd j = 4) (hdg : decode cc pc = .ok (.getfield 64, 3)) (k : Z X σ (pc + 3) lv (rf X.1 (j + 1) :: st)) : Z X σ pc lv (rf X.1 j :: st) := z_get hX uin_4 (kd_lt hj (by decide)) (cell_4 X.1 hj) rfl 0 (by decide) mf_X7_64 rfl rfl hdg k
theorem mf_X7_82 : Cond.fieldLink RX7 82 "KiteWords$Row" "size" "I" ∈ wsA := memT 49 (by decide +kernel) (by decide +kernel)
theorem g_X7_82 {X : CX} {σ : HP} {pc : Nat} {lv : List (Nat × Value)} {st : List Value} {cc : ByteArray} {nl fr lo : Nat} {ret : Option FieldType} {v : Option Value} {σe : HP} (hX : OkX X RX7 cc nl fr lo ret v σe) {j : Nat} (hj : kd j = 3) (hdg : decode cc pc = .ok (.getfield 82, 3)) (k : Z X σ (pc + 3) lv (.int (σ j 6) :: st)) : Z X σ pc lv (rf X.1 j :: st) := z_get hX uin_3 (kd_lt hj (by decide)) (cell_3 X.1 hj) rfl 6 (by decide) mf_X7_82 rfl rfl hdg k
theorem mf_X7_102 : Cond.fieldLink RX7 102 "KiteWords$Row" "length" "[I" ∈ wsA := memT 39 (by decide +kernel) (by decide +kernel)
theorem g_X7_102 {X : CX} {σ : HP} {pc : Nat} {lv : List (Nat × Value)} {st : List Value} {cc : ByteArray} {nl fr lo : Nat} {ret : Option FieldType} {v : Option Value} {σe : HP} (hX : OkX X RX7 cc nl fr lo ret v σe) {j : Nat} (hj : kd j = 3) (hdg : decode cc pc = .ok (.getfield 102, 3)) (k : Z X σ (pc + 3) lv (rf X.1 (j + 3) :: st)) : Z X σ pc lv (rf X.1 j :: st) := z_get hX uin_3 (kd_lt hj (by decide)) (cell_3 X.1 hj) rfl 2 (by decide) mf_X7_102 rfl rfl hdg k
theorem mf_X7_113 : Cond.fieldLink RX7 113 "KiteWords$State" "minutes" "I" ∈ wsA := memT 157 (by decide +kernel) (by decide +kernel)
theorem g_X7_113 {X : CX} {σ : HP} {pc : Nat} {lv : List (Nat × Value)} {st : List Value} {cc : ByteArray} {nl fr lo : Nat} {ret : Option FieldType} {v : Option Value} {σe : HP} (hX : OkX X RX7 cc nl fr lo ret v σe) {j : Nat} (hj : kd j = 4) (hdg : decode cc pc = .ok (.getfield 113, 3)) (k : Z X σ (pc + 3) lv (.int (σ j 4) :: st)) : Z X σ pc lv (rf X.1 j :: st) := z_get hX uin_4 (kd_lt hj (by decide)) (cell_4 X.1 hj) rfl 4 (by decide) mf_X7_113 rfl rfl hdg k
theorem mf_X7_130 : Cond.fieldLink RX7 130 "KiteWords$State" "side" "I" ∈ wsA := memT 159 (by decide +kernel) (by decide +kernel)
theorem g_X7_130 {X : CX} {σ : HP} {pc : Nat} {lv : List (Nat × Value)} {st : List Value} {cc : ByteArray} {nl fr lo : Nat} {ret : Option FieldType} {v : Option Value} {σe : HP} (hX : OkX X RX7 cc nl fr lo ret v σe) {j : Nat} (hj : kd j = 4) (hdg : decode cc pc = .ok (.getfield 130, 3)) (k : Z X σ (pc + 3) lv (.int (σ j 5) :: st)) : Z X σ pc lv (rf X.1 j :: st) := z_get hX uin_4 (kd_lt hj (by decide)) (cell_4 X.1 hj) rfl 5 (by decide) mf_X7_130 rfl rfl hdg k
theorem mf_X7_133 : Cond.fieldLink RX7 133 "KiteWords$State" "strength" "I" ∈ wsA := memT 161 (by decide +kernel) (by decide +kernel)
theorem g_X7_133 {X : CX} {σ : HP} {pc : Nat} {lv : List (Nat × Value)} {st : List Value} {cc : ByteArray} {nl fr lo : Nat} {ret : Option FieldType} {v : Option Value} {σe : HP} (hX : OkX X RX7 cc nl fr lo ret v σe) {j : Nat} (hj : kd j = 4) (hdg : decode cc pc = .ok (.getfield 133, 3)) (k : Z X σ (pc + 3) lv (.int (σ j 6) :: st)) : Z X σ pc lv (rf X.1 j :: st) := z_get hX uin_4 (kd_lt hj (by decide)) (cell_4 X.1 hj) rfl 6 (by decide) mf_X7_133 rfl rfl hdg k
theorem mf_X7_140 : Cond.fieldLink RX7 140 "KiteWords$State" "plan" "LKiteWords$Plan;" ∈ wsA := memT 150 (by decide +kernel) (by decide +kernel)
theorem g_X7_140 {X : CX} {σ : HP} {pc : Nat} {lv : List (Nat × Value)} {st : List Value} {cc : ByteArray} {nl fr lo : Nat} {ret : Option FieldType} {v : Option Value} {σe : HP} (hX : OkX X RX7 cc nl fr lo ret v σe) {j : Nat} (hj : kd j = 4) (hdg : decode cc pc = .ok (.getfield 140, 3)) (k : Z X σ (pc + 3) lv (rf X.1 (j + 8) :: st)) : Z X σ pc lv (rf X.1 j :: st) := z_get hX uin_4 (kd_lt hj (by decide)) (cell_4 X.1 hj) rfl 1 (by decide) mf_X7_140 rfl rfl hdg k
theorem mf_X7_150 : Cond.fieldLink RX7 150 "KiteWords$Plan" "size" "I" ∈ wsA := memT 86 (by decide +kernel) (by decide +kernel)
theorem g_X7_150 {X : CX} {σ : HP} {pc : Nat} {lv : List (Nat × Value)} {st : List Value} {cc : ByteArray} {nl fr lo : Nat} {ret : Option FieldType} {v : Option Value} {σe : HP} (hX : OkX X RX7 cc nl fr lo ret v σe) {j : Nat} (hj : kd j = 1) (hdg : decode cc pc = .ok (.getfield 150, 3)) (k : Z X σ (pc + 3) lv (.int (σ j 3) :: st)) : Z X σ pc lv (rf X.1 j :: st) := z_get hX uin_1 (kd_lt hj (by decide)) (cell_1 X.1 hj) rfl 3 (by decide) mf_X7_150 rfl rfl hdg k
theorem mf_X7_156 : Cond.fieldLink RX7 156 "KiteWords$State" "inNorth" "Z" ∈ wsA := memT 165 (by decide +kernel) (by decide +kernel)
theorem g_X7_156 {X : CX} {σ : HP} {pc : Nat} {lv : List (Nat × Value)} {st : List Value} {cc : ByteArray} {nl fr lo : Nat} {ret : Option FieldType} {v : Option Value} {σe : HP} (hX : OkX X RX7 cc nl fr lo ret v σe) {j : Nat} (hj : kd j = 4) (hdg : decode cc pc = .ok (.getfield 156, 3)) (k : Z X σ (pc + 3) lv (.int (σ j 7) :: st)) : Z X σ pc lv (rf X.1 j :: st) := z_get hX uin_4 (kd_lt hj (by decide)) (cell_4 X.1 hj) rfl 7 (by decide) mf_X7_156 rfl rfl hdg k
theorem p_X7_156 {X : CX} {σ : HP} {pc : Nat} {lv : List (Nat × Value)} {st : List Value} {cc : ByteArray} {nl fr lo : Nat} {ret : Option FieldType} {v : Option Value} {σe : HP} (hX : OkX X RX7 cc nl fr lo ret v σe) {j : Nat} {x : Int32} (hj : kd j = 4) (hb : x = 0 ∨ x = 1) (hdg : decode cc pc = .ok (.putfield 156, 3)) (k : Z X (wr σ j 7 x) (pc + 3) lv st) : Z X σ pc lv (.int x :: rf X.1 j :: st) := z_put hX uin_4 tyX4 tyX4_ok nmX4 (kd_lt hj (by decide)) (cell_4 X.1 hj) rfl 7 (by decide) mf_X7_156 rfl rfl (ty := .boolean) (by decide +kernel) (by rcases hb with rfl | rfl <;> rfl) (by rcases hb with rfl | rfl <;> rfl) (Nat.le_of_ble_eq_true rfl) (by rw [cell_4 X.1 hj]; simp [wr, wrA, upd]) hdg k
theorem mf_X7_162 : Cond.fieldLink RX7 162 "KiteWords$State" "tangleMinutes" "I" ∈ wsA := memT 167 (by decide +kernel) (by decide +kernel)
theorem g_X7_162 {X : CX} {σ : HP} {pc : Nat} {lv : List (Nat × Value)} {st : List Value} {cc : ByteArray} {nl fr lo : Nat} {ret : Option FieldType} {v : Option Value} {σe : HP} (hX : OkX X RX7 cc nl fr lo ret v σe) {j : Nat} (hj : kd j = 4) (hdg : decode cc pc = .ok (.getfield 162, 3)) (k : Z X σ (pc + 3) lv (.int (σ j 8) :: st)) : Z X σ pc lv (rf X.1 j :: st) := z_get hX uin_4 (kd_lt hj (by decide)) (cell_4 X.1 hj) rfl 8 (by decide) mf_X7_162 rfl rfl hdg k
theorem p_X7_162 {X : CX} {σ : HP} {pc : Nat} {lv : List (Nat × Value)} {st : List Value} {cc : ByteArray} {nl fr lo : Nat} {ret : Option FieldType} {v : Option Value} {σe : HP} (hX : OkX X RX7 cc nl fr lo ret v σe) {j : Nat} {x : Int32} (hj : kd j = 4) (hdg : decode cc pc = .ok (.putfield 162, 3)) (k : Z X (wr σ j 8 x) (pc + 3) lv st) : Z X σ pc lv (.int x :: rf X.1 j :: st) := z_put hX uin_4 tyX4 tyX4_ok nmX4 (kd_lt hj (by decide)) (cell_4 X.1 hj) rfl 8 (by decide) mf_X7_162 rfl rfl (ty := .int) (by decide +kernel) rfl rfl (Nat.le_of_ble_eq_true rfl) (by rw [cell_4 X.1 hj]; simp [wr, wrA, upd]) hdg k
theorem mf_X7_168 : Cond.fieldLink RX7 168 "KiteWords$State" "word" "LKiteWords$Word;" ∈ wsA := memT 155 (by decide +kernel) (by decide +kernel)
theorem g_X7_168 {X : CX} {σ : HP} {pc : Nat} {lv : List (Nat × Value)} {st : List Value} {cc : ByteArray} {nl fr lo : Nat} {ret : Option FieldType} {v : Option Value} {σe : HP} (hX : OkX X RX7 cc nl fr lo ret v σe) {j : Nat} (hj : kd j = 4) (hdg : decode cc pc = .ok (.getfield 168, 3)) (k : Z X σ (pc + 3) lv (rf X.1 (j + 17) :: st)) : Z X σ pc lv (rf X.1 j :: st) := z_get hX uin_4 (kd_lt hj (by decide)) (cell_4 X.1 hj) rfl 3 (by decide) mf_X7_168 rfl rfl hdg k
theorem mf_X7_182 : Cond.fieldLink RX7 182 "KiteWords$Word" "size" "I" ∈ wsA := memT 138 (by decide +kernel) (by decide +kernel)
theorem g_X7_182 {X : CX} {σ : HP} {pc : Nat} {lv : List (Nat × Value)} {st : List Value} {cc : ByteArray} {nl fr lo : Nat} {ret : Option FieldType} {v : Option Value} {σe : HP} (hX : OkX X RX7 cc nl fr lo ret v σe) {j : Nat} (hj : kd j = 6) (hdg : decode cc pc = .ok (.getfield 182, 3)) (k : Z X σ (pc + 3) lv (.int (σ j 1) :: st)) : Z X σ pc lv (rf X.1 j :: st) := z_get hX uin_6 (kd_lt hj (by decide)) (cell_6 X.1 hj) rfl 1 (by decide) mf_X7_182 rfl rfl hdg k
theorem mf_X7_187 : Cond.fieldLink RX7 187 "KiteWords$Row" "number" "[I" ∈ wsA := memT 34 (by decide +kernel) (by decide +kernel)
theorem g_X7_187 {X : CX} {σ : HP} {pc : Nat} {lv : List (Nat × Value)} {st : List Value} {cc : ByteArray} {nl fr lo : Nat} {ret : Option FieldType} {v : Option Value} {σe : HP} (hX : OkX X RX7 cc nl fr lo ret v σe) {j : Nat} (hj : kd j = 3) (hdg : decode cc pc = .ok (.getfield 187, 3)) (k : Z X σ (pc + 3) lv (rf X.1 (j + 1) :: st)) : Z X σ pc lv (rf X.1 j :: st) := z_get hX uin_3 (kd_lt hj (by decide)) (cell_3 X.1 hj) rfl 0 (by decide) mf_X7_187 rfl rfl hdg k
theorem mf_X7_190 : Cond.fieldLink RX7 190 "KiteWords$Row" "letter" "[I" ∈ wsA := memT 37 (by decide +kernel) (by decide +kernel)
theorem g_X7_190 {X : CX} {σ : HP} {pc : Nat} {lv : List (Nat × Value)} {st : List Value} {cc : ByteArray} {nl fr lo : Nat} {ret : Option FieldType} {v : Option Value} {σe : HP} (hX : OkX X RX7 cc nl fr lo ret v σe) {j : Nat} (hj : kd j = 3) (hdg : decode cc pc = .ok (.getfield 190, 3)) (k : Z X σ (pc + 3) lv (rf X.1 (j + 2) :: st)) : Z X σ pc lv (rf X.1 j :: st) := z_get hX uin_3 (kd_lt hj (by decide)) (cell_3 X.1 hj) rfl 1 (by decide) mf_X7_190 rfl rfl hdg k
theorem mf_X7_199 : Cond.fieldLink RX7 199 "KiteWords$Row" "mate" "[I" ∈ wsA := memT 41 (by decide +kernel) (by decide +kernel)
theorem g_X7_199 {X : CX} {σ : HP} {pc : Nat} {lv : List (Nat × Value)} {st : List Value} {cc : ByteArray} {nl fr lo : Nat} {ret : Option FieldType} {v : Option Value} {σe : HP} (hX : OkX X RX7 cc nl fr lo ret v σe) {j : Nat} (hj : kd j = 3) (hdg : decode cc pc = .ok (.getfield 199, 3)) (k : Z X σ (pc + 3) lv (rf X.1 (j + 4) :: st)) : Z X σ pc lv (rf X.1 j :: st) := z_get hX uin_3 (kd_lt hj (by decide)) (cell_3 X.1 hj) rfl 3 (by decide) mf_X7_199 rfl rfl hdg k
theorem mf_X7_202 : Cond.fieldLink RX7 202 "KiteWords$Row" "minutesLeft" "[I" ∈ wsA := memT 43 (by decide +kernel) (by decide +kernel)
theorem g_X7_202 {X : CX} {σ : HP} {pc : Nat} {lv : List (Nat × Value)} {st : List Value} {cc : ByteArray} {nl fr lo : Nat} {ret : Option FieldType} {v : Option Value} {σe : HP} (hX : OkX X RX7 cc nl fr lo ret v σe) {j : Nat} (hj : kd j = 3) (hdg : decode cc pc = .ok (.getfield 202, 3)) (k : Z X σ (pc + 3) lv (rf X.1 (j + 5) :: st)) : Z X σ pc lv (rf X.1 j :: st) := z_get hX uin_3 (kd_lt hj (by decide)) (cell_3 X.1 hj) rfl 4 (by decide) mf_X7_202 rfl rfl hdg k
theorem mf_X7_208 : Cond.fieldLink RX7 208 "KiteWords$Row" "trades" "[I" ∈ wsA := memT 45 (by decide +kernel) (by decide +kernel)
theorem g_X7_208 {X : CX} {σ : HP} {pc : Nat} {lv : List (Nat × Value)} {st : List Value} {cc : ByteArray} {nl fr lo : Nat} {ret : Option FieldType} {v : Option Value} {σe : HP} (hX : OkX X RX7 cc nl fr lo ret v σe) {j : Nat} (hj : kd j = 3) (hdg : decode cc pc = .ok (.getfield 208, 3)) (k : Z X σ (pc + 3) lv (rf X.1 (j + 6) :: st)) : Z X σ pc lv (rf X.1 j :: st) := z_get hX uin_3 (kd_lt hj (by decide)) (cell_3 X.1 hj) rfl 5 (by decide) mf_X7_208 rfl rfl hdg k
theorem mf_X7_214 : Cond.fieldLink RX7 214 "KiteWords$Reading" "size" "I" ∈ wsA := memT 201 (by decide +kernel) (by decide +kernel)
theorem g_X7_214 {X : CX} {σ : HP} {pc : Nat} {lv : List (Nat × Value)} {st : List Value} {cc : ByteArray} {nl fr lo : Nat} {ret : Option FieldType} {v : Option Value} {σe : HP} (hX : OkX X RX7 cc nl fr lo ret v σe) {j : Nat} (hj : kd j = 2) (hdg : decode cc pc = .ok (.getfield 214, 3)) (k : Z X σ (pc + 3) lv (.int (σ j 1) :: st)) : Z X σ pc lv (rf X.1 j :: st) := z_get hX uin_2 (kd_lt hj (by decide)) (cell_2 X.1 hj) rfl 1 (by decide) mf_X7_214 rfl rfl hdg k
theorem mf_X7_215 : Cond.fieldLink RX7 215 "KiteWords$Reading" "places" "[I" ∈ wsA := memT 199 (by decide +kernel) (by decide +kernel)
theorem g_X7_215 {X : CX} {σ : HP} {pc : Nat} {lv : List (Nat × Value)} {st : List Value} {cc : ByteArray} {nl fr lo : Nat} {ret : Option FieldType} {v : Option Value} {σe : HP} (hX : OkX X RX7 cc nl fr lo ret v σe) {j : Nat} (hj : kd j = 2) (hdg : decode cc pc = .ok (.getfield 215, 3)) (k : Z X σ (pc + 3) lv (rf X.1 (j + 1) :: st)) : Z X σ pc lv (rf X.1 j :: st) := z_get hX uin_2 (kd_lt hj (by decide)) (cell_2 X.1 hj) rfl 0 (by decide) mf_X7_215 rfl rfl hdg k
theorem mf_X7_224 : Cond.fieldLink RX7 224 "KiteWords$Aim" "isPossible" "Z" ∈ wsA := memT 216 (by decide +kernel) (by decide +kernel)
theorem g_X7_224 {X : CX} {σ : HP} {pc : Nat} {lv : List (Nat × Value)} {st : List Value} {cc : ByteArray} {nl fr lo : Nat} {ret : Option FieldType} {v : Option Value} {σe : HP} (hX : OkX X RX7 cc nl fr lo ret v σe) {j : Nat} (hj : kd j = 0) (hdg : decode cc pc = .ok (.getfield 224, 3)) (k : Z X σ (pc + 3) lv (.int (σ j 2) :: st)) : Z X σ pc lv (rf X.1 j :: st) := z_get hX uin_0 (kd_lt hj (by decide)) (cell_0 X.1 hj) rfl 2 (by decide) mf_X7_224 rfl rfl hdg k
theorem mf_X7_246 : Cond.fieldLink RX7 246 "KiteWords$Plan" "minute" "[I" ∈ wsA := memT 77 (by decide +kernel) (by decide +kernel)
theorem g_X7_246 {X : CX} {σ : HP} {pc : Nat} {lv : List (Nat × Value)} {st : List Value} {cc : ByteArray} {nl fr lo : Nat} {ret : Option FieldType} {v : Option Value} {σe : HP} (hX : OkX X RX7 cc nl fr lo ret v σe) {j : Nat} (hj : kd j = 1) (hdg : decode cc pc = .ok (.getfield 246, 3)) (k : Z X σ (pc + 3) lv (rf X.1 (j + 1) :: st)) : Z X σ pc lv (rf X.1 j :: st) := z_get hX uin_1 (kd_lt hj (by decide)) (cell_1 X.1 hj) rfl 0 (by decide) mf_X7_246 rfl rfl hdg k
theorem mf_X7_249 : Cond.fieldLink RX7 249 "KiteWords$Plan" "side" "[I" ∈ wsA := memT 80 (by decide +kernel) (by decide +kernel)
theorem g_X7_249 {X : CX} {σ : HP} {pc : Nat} {lv : List (Nat × Value)} {st : List Value} {cc : ByteArray} {nl fr lo : Nat} {ret : Option FieldType} {v : Option Value} {σe : HP} (hX : OkX X RX7 cc nl fr lo ret v σe) {j : Nat} (hj : kd j = 1) (hdg : decode cc pc = .ok (.getfield 249, 3)) (k : Z X σ (pc + 3) lv (rf X.1 (j + 2) :: st)) : Z X σ pc lv (rf X.1 j :: st) := z_get hX uin_1 (kd_lt hj (by decide)) (cell_1 X.1 hj) rfl 1 (by decide) mf_X7_249 rfl rfl hdg k
theorem mf_X7_251 : Cond.fieldLink RX7 251 "KiteWords$Plan" "strength" "[I" ∈ wsA := memT 83 (by decide +kernel) (by decide +kernel)
theorem g_X7_251 {X : CX} {σ : HP} {pc : Nat} {lv : List (Nat × Value)} {st : List Value} {cc : ByteArray} {nl fr lo : Nat} {ret : Option FieldType} {v : Option Value} {σe : HP} (hX : OkX X RX7 cc nl fr lo ret v σe) {j : Nat} (hj : kd j = 1) (hdg : decode cc pc = .ok (.getfield 251, 3)) (k : Z X σ (pc + 3) lv (rf X.1 (j + 3) :: st)) : Z X σ pc lv (rf X.1 j :: st) := z_get hX uin_1 (kd_lt hj (by decide)) (cell_1 X.1 hj) rfl 2 (by decide) mf_X7_251 rfl rfl hdg k
theorem mf_X7_253 : Cond.fieldLink RX7 253 "KiteWords$State" "log" "LKiteWords$TangleLog;" ∈ wsA := memT 152 (by decide +kernel) (by decide +kernel)
theorem g_X7_253 {X : CX} {σ : HP} {pc : Nat} {lv : List (Nat × Value)} {st : List Value} {cc : ByteArray} {nl fr lo : Nat} {ret : Option FieldType} {v : Option Value} {σe : HP} (hX : OkX X RX7 cc nl fr lo ret v σe) {j : Nat} (hj : kd j = 4) (hdg : decode cc pc = .ok (.getfield 253, 3)) (k : Z X σ (pc + 3) lv (rf X.1 (j + 12) :: st)) : Z X σ pc lv (rf X.1 j :: st) := z_get hX uin_4 (kd_lt hj (by decide)) (cell_4 X.1 hj) rfl 2 (by decide) mf_X7_253 rfl rfl hdg k
theorem mf_X7_257 : Cond.fieldLink RX7 257 "KiteWords$TangleLog" "size" "I" ∈ wsA := memT 111 (by decide +kernel) (by decide +kernel)
theorem g_X7_257 {X : CX} {σ : HP} {pc : Nat} {lv : List (Nat × Value)} {st : List Value} {cc : ByteArray} {nl fr lo : Nat} {ret : Option FieldType} {v : Option Value} {σe : HP} (hX : OkX X RX7 cc nl fr lo ret v σe) {j : Nat} (hj : kd j = 5) (hdg : decode cc pc = .ok (.getfield 257, 3)) (k : Z X σ (pc + 3) lv (.int (σ j 4) :: st)) : Z X σ pc lv (rf X.1 j :: st) := z_get hX uin_5 (kd_lt hj (by decide)) (cell_5 X.1 hj) rfl 4 (by decide) mf_X7_257 rfl rfl hdg k
theorem mf_X7_260 : Cond.fieldLink RX7 260 "KiteWords$TangleLog" "minute" "[I" ∈ wsA := memT 103 (by decide +kernel) (by decide +kernel)
theorem g_X7_260 {X : CX} {σ : HP} {pc : Nat} {lv : List (Nat × Value)} {st : List Value} {cc : ByteArray} {nl fr lo : Nat} {ret : Option FieldType} {v : Option Value} {σe : HP} (hX : OkX X RX7 cc nl fr lo ret v σe) {j : Nat} (hj : kd j = 5) (hdg : decode cc pc = .ok (.getfield 260, 3)) (k : Z X σ (pc + 3) lv (rf X.1 (j + 1) :: st)) : Z X σ pc lv (rf X.1 j :: st) := z_get hX uin_5 (kd_lt hj (by decide)) (cell_5 X.1 hj) rfl 0 (by decide) mf_X7_260 rfl rfl hdg k
theorem mf_X7_261 : Cond.fieldLink RX7 261 "KiteWords$TangleLog" "western" "[I" ∈ wsA := memT 105 (by decide +kernel) (by decide +kernel)
theorem g_X7_261 {X : CX} {σ : HP} {pc : Nat} {lv : List (Nat × Value)} {st : List Value} {cc : ByteArray} {nl fr lo : Nat} {ret : Option FieldType} {v : Option Value} {σe : HP} (hX : OkX X RX7 cc nl fr lo ret v σe) {j : Nat} (hj : kd j = 5) (hdg : decode cc pc = .ok (.getfield 261, 3)) (k : Z X σ (pc + 3) lv (rf X.1 (j + 2) :: st)) : Z X σ pc lv (rf X.1 j :: st) := z_get hX uin_5 (kd_lt hj (by decide)) (cell_5 X.1 hj) rfl 1 (by decide) mf_X7_261 rfl rfl hdg k
theorem mf_X7_264 : Cond.fieldLink RX7 264 "KiteWords$TangleLog" "eastern" "[I" ∈ wsA := memT 107 (by decide +kernel) (by decide +kernel)
theorem g_X7_264 {X : CX} {σ : HP} {pc : Nat} {lv : List (Nat × Value)} {st : List Value} {cc : ByteArray} {nl fr lo : Nat} {ret : Option FieldType} {v : Option Value} {σe : HP} (hX : OkX X RX7 cc nl fr lo ret v σe) {j : Nat} (hj : kd j = 5) (hdg : decode cc pc = .ok (.getfield 264, 3)) (k : Z X σ (pc + 3) lv (rf X.1 (j + 3) :: st)) : Z X σ pc lv (rf X.1 j :: st) := z_get hX uin_5 (kd_lt hj (by decide)) (cell_5 X.1 hj) rfl 2 (by decide) mf_X7_264 rfl rfl hdg k
theorem mf_X7_267 : Cond.fieldLink RX7 267 "KiteWords$TangleLog" "byTrade" "[I" ∈ wsA := memT 109 (by decide +kernel) (by decide +kernel)
theorem g_X7_267 {X : CX} {σ : HP} {pc : Nat} {lv : List (Nat × Value)} {st : List Value} {cc : ByteArray} {nl fr lo : Nat} {ret : Option FieldType} {v : Option Value} {σe : HP} (hX : OkX X RX7 cc nl fr lo ret v σe) {j : Nat} (hj : kd j = 5) (hdg : decode cc pc = .ok (.getfield 267, 3)) (k : Z X σ (pc + 3) lv (rf X.1 (j + 4) :: st)) : Z X σ pc lv (rf X.1 j :: st) := z_get hX uin_5 (kd_lt hj (by decide)) (cell_5 X.1 hj) rfl 3 (by decide) mf_X7_267 rfl rfl hdg k
theorem mf_X7_273 : Cond.fieldLink RX7 273 "KiteWords$State" "tradesSoFar" "I" ∈ wsA := memT 169 (by decide +kernel) (by decide +kernel)
theorem g_X7_273 {X : CX} {σ : HP} {pc : Nat} {lv : List (Nat × Value)} {st : List Value} {cc : ByteArray} {nl fr lo : Nat} {ret : Option FieldType} {v : Option Value} {σe : HP} (hX : OkX X RX7 cc nl fr lo ret v σe) {j : Nat} (hj : kd j = 4) (hdg : decode cc pc = .ok (.getfield 273, 3)) (k : Z X σ (pc + 3) lv (.int (σ j 9) :: st)) : Z X σ pc lv (rf X.1 j :: st) := z_get hX uin_4 (kd_lt hj (by decide)) (cell_4 X.1 hj) rfl 9 (by decide) mf_X7_273 rfl rfl hdg k
theorem mf_X7_276 : Cond.fieldLink RX7 276 "KiteWords$TangleLog" "soFar" "I" ∈ wsA := memT 113 (by decide +kernel) (by decide +kernel)
theorem g_X7_276 {X : CX} {σ : HP} {pc : Nat} {lv : List (Nat × Value)} {st : List Value} {cc : ByteArray} {nl fr lo : Nat} {ret : Option FieldType} {v : Option Value} {σe : HP} (hX : OkX X RX7 cc nl fr lo ret v σe) {j : Nat} (hj : kd j = 5) (hdg : decode cc pc = .ok (.getfield 276, 3)) (k : Z X σ (pc + 3) lv (.int (σ j 5) :: st)) : Z X σ pc lv (rf X.1 j :: st) := z_get hX uin_5 (kd_lt hj (by decide)) (cell_5 X.1 hj) rfl 5 (by decide) mf_X7_276 rfl rfl hdg k
theorem mf_X7_279 : Cond.fieldLink RX7 279 "KiteWords$Aim" "fewest" "I" ∈ wsA := memT 218 (by decide +kernel) (by decide +kernel)
theorem g_X7_279 {X : CX} {σ : HP} {pc : Nat} {lv : List (Nat × Value)} {st : List Value} {cc : ByteArray} {nl fr lo : Nat} {ret : Option FieldType} {v : Option Value} {σe : HP} (hX : OkX X RX7 cc nl fr lo ret v σe) {j : Nat} (hj : kd j = 0) (hdg : decode cc pc = .ok (.getfield 279, 3)) (k : Z X σ (pc + 3) lv (.int (σ j 3) :: st)) : Z X σ pc lv (rf X.1 j :: st) := z_get hX uin_0 (kd_lt hj (by decide)) (cell_0 X.1 hj) rfl 3 (by decide) mf_X7_279 rfl rfl hdg k
theorem mf_X7_282 : Cond.fieldLink RX7 282 "KiteWords$Word" "letters" "[C" ∈ wsA := memT 135 (by decide +kernel) (by decide +kernel)
theorem g_X7_282 {X : CX} {σ : HP} {pc : Nat} {lv : List (Nat × Value)} {st : List Value} {cc : ByteArray} {nl fr lo : Nat} {ret : Option FieldType} {v : Option Value} {σe : HP} (hX : OkX X RX7 cc nl fr lo ret v σe) {j : Nat} (hj : kd j = 6) (hdg : decode cc pc = .ok (.getfield 282, 3)) (k : Z X σ (pc + 3) lv (rf X.1 (j + 1) :: st)) : Z X σ pc lv (rf X.1 j :: st) := z_get hX uin_6 (kd_lt hj (by decide)) (cell_6 X.1 hj) rfl 0 (by decide) mf_X7_282 rfl rfl hdg k
theorem mf_X0_9 : Cond.fieldLink RX0 9 "KiteWords$Aim" "target" "[I" ∈ wsA := memT 213 (by decide +kernel) (by decide +kernel)
theorem g_X0_9 {X : CX} {σ : HP} {pc : Nat} {lv : List (Nat × Value)} {st : List Value} {cc : ByteArray} {nl fr lo : Nat} {ret : Option FieldType} {v : Option Value} {σe : HP} (hX : OkX X RX0 cc nl fr lo ret v σe) {j : Nat} (hj : kd j = 0) (hdg : decode cc pc = .ok (.getfield 9, 3)) (k : Z X σ (pc + 3) lv (rf X.1 (j + 1) :: st)) : Z X σ pc lv (rf X.1 j :: st) := z_get hX uin_0 (kd_lt hj (by decide)) (cell_0 X.1 hj) rfl 0 (by decide) mf_X0_9 rfl rfl hdg k
theorem mf_X0_15 : Cond.fieldLink RX0 15 "KiteWords$Aim" "inNorth" "Z" ∈ wsA := memT 214 (by decide +kernel) (by decide +kernel)
theorem g_X0_15 {X : CX} {σ : HP} {pc : Nat} {lv : List (Nat × Value)} {st : List Value} {cc : ByteArray} {nl fr lo : Nat} {ret : Option FieldType} {v : Option Value} {σe : HP} (hX : OkX X RX0 cc nl fr lo ret v σe) {j : Nat} (hj : kd j = 0) (hdg : decode cc pc = .ok (.getfield 15, 3)) (k : Z X σ (pc + 3) lv (.int (σ j 1) :: st)) : Z X σ pc lv (rf X.1 j :: st) := z_get hX uin_0 (kd_lt hj (by decide)) (cell_0 X.1 hj) rfl 1 (by decide) mf_X0_15 rfl rfl hdg k
theorem p_X0_15 {X : CX} {σ : HP} {pc : Nat} {lv : List (Nat × Value)} {st : List Value} {cc : ByteArray} {nl fr lo : Nat} {ret : Option FieldType} {v : Option Value} {σe : HP} (hX : OkX X RX0 cc nl fr lo ret v σe) {j : Nat} {x : Int32} (hj : kd j = 0) (hb : x = 0 ∨ x = 1) (hdg : decode cc pc = .ok (.putfield 15, 3)) (k : Z X (wr σ j 1 x) (pc + 3) lv st) : Z X σ pc lv (.int x :: rf X.1 j :: st) := z_put hX uin_0 tyX0 tyX0_ok nmX0 (kd_lt hj (by decide)) (cell_0 X.1 hj) rfl 1 (by decide) mf_X0_15 rfl rfl (ty := .boolean) (by decide +kernel) (by rcases hb with rfl | rfl <;> rfl) (by rcases hb with rfl | rfl <;> rfl) (Nat.le_of_ble_eq_true rfl) (by rw [cell_0 X.1 hj]; simp [wr, wrA, upd]) hdg k
theorem mf_X0_19 : Cond.fieldLink RX0 19 "KiteWords$Aim" "isPossible" "Z" ∈ wsA := memT 215 (by decide +kernel) (by decide +kernel)
theorem g_X0_19 {X : CX} {σ : HP} {pc : Nat} {lv : List (Nat × Value)} {st : List Value} {cc : ByteArray} {nl fr lo : Nat} {ret : Option FieldType} {v : Option Value} {σe : HP} (hX : OkX X RX0 cc nl fr lo ret v σe) {j : Nat} (hj : kd j = 0) (hdg : decode cc pc = .ok (.getfield 19, 3)) (k : Z X σ (pc + 3) lv (.int (σ j 2) :: st)) : Z X σ pc lv (rf X.1 j :: st) := z_get hX uin_0 (kd_lt hj (by decide)) (cell_0 X.1 hj) rfl 2 (by decide) mf_X0_19 rfl rfl hdg k
theorem p_X0_19 {X : CX} {σ : HP} {pc : Nat} {lv : List (Nat × Value)} {st : List Value} {cc : ByteArray} {nl fr lo : Nat} {ret : Option FieldType} {v : Option Value} {σe : HP} (hX : OkX X RX0 cc nl fr lo ret v σe) {j : Nat} {x : Int32} (hj : kd j = 0) (hb : x = 0 ∨ x = 1) (hdg : decode cc pc = .ok (.putfield 19, 3)) (k : Z X (wr σ j 2 x) (pc + 3) lv st) : Z X σ pc lv (.int x :: rf X.1 j :: st) := z_put hX uin_0 tyX0 tyX0_ok nmX0 (kd_lt hj (by decide)) (cell_0 X.1 hj) rfl 2 (by decide) mf_X0_19 rfl rfl (ty := .boolean) (by decide +kernel) (by rcases hb with rfl | rfl <;> rfl) (by rcases hb with rfl | rfl <;> rfl) (Nat.le_of_ble_eq_true rfl) (by rw [cell_0 X.1 hj]; simp [wr, wrA, upd]) hdg k
theorem mf_X0_22 : Cond.fieldLink RX0 22 "KiteWords$Aim" "fewest" "I" ∈ wsA := memT 217 (by decide +kernel) (by decide +kernel)
theorem g_X0_22 {X : CX} {σ : HP} {pc : Nat} {lv : List (Nat × Value)} {st : List Value} {cc : ByteArray} {nl fr lo : Nat} {ret : Option FieldType} {v : Option Value} {σe : HP} (hX : OkX X RX0 cc nl fr lo ret v σe) {j : Nat} (hj : kd j = 0) (hdg : decode cc pc = .ok (.getfield 22, 3)) (k : Z X σ (pc + 3) lv (.int (σ j 3) :: st)) : Z X σ pc lv (rf X.1 j :: st) := z_get hX uin_0 (kd_lt hj (by decide)) (cell_0 X.1 hj) rfl 3 (by decide) mf_X0_22 rfl rfl hdg k
theorem p_X0_22 {X : CX} {σ : HP} {pc : Nat} {lv : List (Nat × Value)} {st : List Value} {cc : ByteArray} {nl fr lo : Nat} {ret : Option FieldType} {v : Option Value} {σe : HP} (hX : OkX X RX0 cc nl fr lo ret v σe) {j : Nat} {x : Int32} (hj : kd j = 0) (hdg : decode cc pc = .ok (.putfield 22, 3)) (k : Z X (wr σ j 3 x) (pc + 3) lv st) : Z X σ pc lv (.int x :: rf X.1 j :: st) := z_put hX uin_0 tyX0 tyX0_ok nmX0 (kd_lt hj (by decide)) (cell_0 X.1 hj) rfl 3 (by decide) mf_X0_22 rfl rfl (ty := .int) (by decide +kernel) rfl rfl (Nat.le_of_ble_eq_true rfl) (by rw [cell_0 X.1 hj]; simp [wr, wrA, upd]) hdg k
theorem mf_X0_26 : Cond.fieldLink RX0 26 "KiteWords$State" "inNorth" "Z" ∈ wsA := memT 163 (by decide +kernel) (by decide +kernel)
theorem g_X0_26 {X : CX} {σ : HP} {pc : Nat} {lv : List (Nat × Value)} {st : List Value} {cc : ByteArray} {nl fr lo : Nat} {ret : Option FieldType} {v : Option Value} {σe : HP} (hX : OkX X RX0 cc nl fr lo ret v σe) {j : Nat} (hj : kd j = 4) (hdg : decode cc pc = .ok (.getfield 26, 3)) (k : Z X σ (pc + 3) lv (.int (σ j 7) :: st)) : Z X σ pc lv (rf X.1 j :: st) := z_get hX uin_4 (kd_lt hj (by decide)) (cell_4 X.1 hj) rfl 7 (by decide) mf_X0_26 rfl rfl hdg k
theorem mf_X0_29 : Cond.fieldLink RX0 29 "KiteWords$State" "word" "LKiteWords$Word;" ∈ wsA := memT 154 (by decide +kernel) (by decide +kernel)
theorem g_X0_29 {X : CX} {σ : HP} {pc : Nat} {lv : List (Nat × Value)} {st : List Value} {cc : ByteArray} {nl fr lo : Nat} {ret : Option FieldType} {v : Option Value} {σe : HP} (hX : OkX X RX0 cc nl fr lo ret v σe) {j : Nat} (hj : kd j = 4) (hdg : decode cc pc = .ok (.getfield 29, 3)) (k : Z X σ (pc + 3) lv (rf X.1 (j + 17) :: st)) : Z X σ pc lv (rf X.1 j :: st) := z_get hX uin_4 (kd_lt hj (by decide)) (cell_4 X.1 hj) rfl 3 (by decide) mf_X0_29 rfl rfl hdg k
theorem mf_X0_33 : Cond.fieldLink RX0 33 "KiteWords$Word" "size" "I" ∈ wsA := memT 137 (by decide +kernel) (by decide +kernel)
theorem g_X0_33 {X : CX} {σ : HP} {pc : Nat} {lv : List (Nat × Value)} {st : List Value} {cc : ByteArray} {nl fr lo : Nat} {ret : Option FieldType} {v : Option Value} {σe : HP} (hX : OkX X RX0 cc nl fr lo ret v σe) {j : Nat} (hj : kd j = 6) (hdg : decode cc pc = .ok (.getfield 33, 3)) (k : Z X σ (pc + 3) lv (.int (σ j 1) :: st)) : Z X σ pc lv (rf X.1 j :: st) := z_get hX uin_6 (kd_lt hj (by decide)) (cell_6 X.1 hj) rfl 1 (by decide) mf_X0_33 rfl rfl hdg k
theorem mf_X0_38 : Cond.fieldLink RX0 38 "KiteWords$State" "row" "LKiteWords$Row;" ∈ wsA := memT 148 (by decide +kernel) (by decide +kernel)
theorem g_X0_38 {X : CX} {σ : HP} {pc : Nat} {lv : List (Nat × Value)} {st : List Value} {cc : ByteArray} {nl fr lo : Nat} {ret : Option FieldType} {v : Option Value} {σe : HP} (hX : OkX X RX0 cc nl fr lo ret v σe) {j : Nat} (hj : kd j = 4) (hdg : decode cc pc = .ok (.getfield 38, 3)) (k : Z X σ (pc + 3) lv (rf X.1 (j + 1) :: st)) : Z X σ pc lv (rf X.1 j :: st) := z_get hX uin_4 (kd_lt hj (by decide)) (cell_4 X.1 hj) rfl 0 (by decide) mf_X0_38 rfl rfl hdg k
theorem mf_X0_42 : Cond.fieldLink RX0 42 "KiteWords$Row" "size" "I" ∈ wsA := memT 48 (by decide +kernel) (by decide +kernel)
theorem g_X0_42 {X : CX} {σ : HP} {pc : Nat} {lv : List (Nat × Value)} {st : List Value} {cc : ByteArray} {nl fr lo : Nat} {ret : Option FieldType} {v : Option Value} {σe : HP} (hX : OkX X RX0 cc nl fr lo ret v σe) {j : Nat} (hj : kd j = 3) (hdg : decode cc pc = .ok (.getfield 42, 3)) (k : Z X σ (pc + 3) lv (.int (σ j 6) :: st)) : Z X σ pc lv (rf X.1 j :: st) := z_get hX uin_3 (kd_lt hj (by decide)) (cell_3 X.1 hj) rfl 6 (by decide) mf_X0_42 rfl rfl hdg k
theorem mf_X0_53 : Cond.fieldLink RX0 53 "KiteWords$Row" "letter" "[I" ∈ wsA := memT 36 (by decide +kernel) (by decide +kernel)
theorem g_X0_53 {X : CX} {σ : HP} {pc : Nat} {lv : List (Nat × Value)} {st : List Value} {cc : ByteArray} {nl fr lo : Nat} {ret : Option FieldType} {v : Option Value} {σe : HP} (hX : OkX X RX0 cc nl fr lo ret v σe) {j : Nat} (hj : kd j = 3) (hdg : decode cc pc = .ok (.getfield 53, 3)) (k : Z X σ (pc + 3) lv (rf X.1 (j + 2) :: st)) : Z X σ pc lv (rf X.1 j :: st) := z_get hX uin_3 (kd_lt hj (by decide)) (cell_3 X.1 hj) rfl 1 (by decide) mf_X0_53 rfl rfl hdg k
theorem mf_X0_60 : Cond.fieldLink RX0 60 "KiteWords$Word" "letters" "[C" ∈ wsA := memT 134 (by decide +kernel) (by decide +kernel)
theorem g_X0_60 {X : CX} {σ : HP} {pc : Nat} {lv : List (Nat × Value)} {st : List Value} {cc : ByteArray} {nl fr lo : Nat} {ret : Option FieldType} {v : Option Value} {σe : HP} (hX : OkX X RX0 cc nl fr lo ret v σe) {j : Nat} (hj : kd j = 6) (hdg : decode cc pc = .ok (.getfield 60, 3)) (k : Z X σ (pc + 3) lv (rf X.1 (j + 1) :: st)) : Z X σ pc lv (rf X.1 j :: st) := z_get hX uin_6 (kd_lt hj (by decide)) (cell_6 X.1 hj) rfl 0 (by decide) mf_X0_60 rfl rfl hdg k
theorem mf_X1_9 : Cond.fieldLink RX1 9 "KiteWords$Plan" "minute" "[I" ∈ wsA := memT 76 (by decide +kernel) (by decide +kernel)
theorem g_X1_9 {X : CX} {σ : HP} {pc : Nat} {lv : List (Nat × Value)} {st : List Value} {cc : ByteArray} {nl fr lo : Nat} {ret : Option FieldType} {v : Option Value} {σe : HP} (hX : OkX X RX1 cc nl fr lo ret v σe) {j : Nat} (hj : kd j = 1) (hdg : decode cc pc = .ok (.getfield 9, 3)) (k : Z X σ (pc + 3) lv (rf X.1 (j + 1) :: st)) : Z X σ pc lv (rf X.1 j :: st) := z_get hX uin_1 (kd_lt hj (by decide)) (cell_1 X.1 hj) rfl 0 (by decide) mf_X1_9 rfl rfl hdg k
theorem mf_X1_15 : Cond.fieldLink RX1 15 "KiteWords$Plan" "side" "[I" ∈ wsA := memT 78 (by decide +kernel) (by decide +kernel)
theorem g_X1_15 {X : CX} {σ : HP} {pc : Nat} {lv : List (Nat × Value)} {st : List Value} {cc : ByteArray} {nl fr lo : Nat} {ret : Option FieldType} {v : Option Value} {σe : HP} (hX : OkX X RX1 cc nl fr lo ret v σe) {j : Nat} (hj : kd j = 1) (hdg : decode cc pc = .ok (.getfield 15, 3)) (k : Z X σ (pc + 3) lv (rf X.1 (j + 2) :: st)) : Z X σ pc lv (rf X.1 j :: st) := z_get hX uin_1 (kd_lt hj (by decide)) (cell_1 X.1 hj) rfl 1 (by decide) mf_X1_15 rfl rfl hdg k
theorem mf_X1_18 : Cond.fieldLink RX1 18 "KiteWords$Plan" "strength" "[I" ∈ wsA := memT 81 (by decide +kernel) (by decide +kernel)
theorem g_X1_18 {X : CX} {σ : HP} {pc : Nat} {lv : List (Nat × Value)} {st : List Value} {cc : ByteArray} {nl fr lo : Nat} {ret : Option FieldType} {v : Option Value} {σe : HP} (hX : OkX X RX1 cc nl fr lo ret v σe) {j : Nat} (hj : kd j = 1) (hdg : decode cc pc = .ok (.getfield 18, 3)) (k : Z X σ (pc + 3) lv (rf X.1 (j + 3) :: st)) : Z X σ pc lv (rf X.1 j :: st) := z_get hX uin_1 (kd_lt hj (by decide)) (cell_1 X.1 hj) rfl 2 (by decide) mf_X1_18 rfl rfl hdg k
theorem mf_X1_21 : Cond.fieldLink RX1 21 "KiteWords$Plan" "size" "I" ∈ wsA := memT 84 (by decide +kernel) (by decide +kernel)
theorem g_X1_21 {X : CX} {σ : HP} {pc : Nat} {lv : List (Nat × Value)} {st : List Value} {cc : ByteArray} {nl fr lo : Nat} {ret : Option FieldType} {v : Option Value} {σe : HP} (hX : OkX X RX1 cc nl fr lo ret v σe) {j : Nat} (hj : kd j = 1) (hdg : decode cc pc = .ok (.getfield 21, 3)) (k : Z X σ (pc + 3) lv (.int (σ j 3) :: st)) : Z X σ pc lv (rf X.1 j :: st) := z_get hX uin_1 (kd_lt hj (by decide)) (cell_1 X.1 hj) rfl 3 (by decide) mf_X1_21 rfl rfl hdg k
theorem p_X1_21 {X : CX} {σ : HP} {pc : Nat} {lv : List (Nat × Value)} {st : List Value} {cc : ByteArray} {nl fr lo : Nat} {ret : Option FieldType} {v : Option Value} {σe : HP} (hX : OkX X RX1 cc nl fr lo ret v σe) {j : Nat} {x : Int32} (hj : kd j = 1) (hdg : decode cc pc = .ok (.putfield 21, 3)) (k : Z X (wr σ j 3 x) (pc + 3) lv st) : Z X σ pc lv (.int x :: rf X.1 j :: st) := z_put hX uin_1 tyX1 tyX1_ok nmX1 (kd_lt hj (by decide)) (cell_1 X.1 hj) rfl 3 (by decide) mf_X1_21 rfl rfl (ty := .int) (by decide +kernel) rfl rfl (Nat.le_of_ble_eq_true rfl) (by rw [cell_1 X.1 hj]; simp [wr, wrA, upd]) hdg k
theorem mf_X2_9 : Cond.fieldLink RX2 9 "KiteWords$Reading" "places" "[I" ∈ wsA := memT 198 (by decide +kernel) (by decide +kernel)
theorem g_X2_9 {X : CX} {σ : HP} {pc : Nat} {lv : List (Nat × Value)} {st : List Value} {cc : ByteArray} {nl fr lo : Nat} {ret : Option FieldType} {v : Option Value} {σe : HP} (hX : OkX X RX2 cc nl fr lo ret v σe) {j : Nat} (hj : kd j = 2) (hdg : decode cc pc = .ok (.getfield 9, 3)) (k : Z X σ (pc + 3) lv (rf X.1 (j + 1) :: st)) : Z X σ pc lv (rf X.1 j :: st) := z_get hX uin_2 (kd_lt hj (by decide)) (cell_2 X.1 hj) rfl 0 (by decide) mf_X2_9 rfl rfl hdg k
theorem mf_X2_15 : Cond.fieldLink RX2 15 "KiteWords$Reading" "size" "I" ∈ wsA := memT 200 (by decide +kernel) (by decide +kernel)
theorem g_X2_15 {X : CX} {σ : HP} {pc : Nat} {lv : List (Nat × Value)} {st : List Value} {cc : ByteArray} {nl fr lo : Nat} {ret : Option FieldType} {v : Option Value} {σe : HP} (hX : OkX X RX2 cc nl fr lo ret v σe) {j : Nat} (hj : kd j = 2) (hdg : decode cc pc = .ok (.getfield 15, 3)) (k : Z X σ (pc + 3) lv (.int (σ j 1) :: st)) : Z X σ pc lv (rf X.1 j :: st) := z_get hX uin_2 (kd_lt hj (by decide)) (cell_2 X.1 hj) rfl 1 (by decide) mf_X2_15 rfl rfl hdg k
theorem p_X2_15 {X : CX} {σ : HP} {pc : Nat} {lv : List (Nat × Value)} {st : List Value} {cc : ByteArray} {nl fr lo : Nat} {ret : Option FieldType} {v : Option Value} {σe : HP} (hX : OkX X RX2 cc nl fr lo ret v σe) {j : Nat} {x : Int32} (hj : kd j = 2) (hdg : decode cc pc = .ok (.putfield 15, 3)) (k : Z X (wr σ j 1 x) (pc + 3) lv st) : Z X σ pc lv (.int x :: rf X.1 j :: st) := z_put hX uin_2 tyX2 tyX2_ok nmX2 (kd_lt hj (by decide)) (cell_2 X.1 hj) rfl 1 (by decide) mf_X2_15 rfl rfl (ty := .int) (by decide +kernel) rfl rfl (Nat.le_of_ble_eq_true rfl) (by rw [cell_2 X.1 hj]; simp [wr, wrA, upd]) hdg k
theorem mf_X2_25 : Cond.fieldLink RX2 25 "KiteWords$State" "row" "LKiteWords$Row;" ∈ wsA := memT 146 (by decide +kernel) (by decide +kernel)
theorem g_X2_25 {X : CX} {σ : HP} {pc : Nat} {lv : List (Nat × Value)} {st : List Value} {cc : ByteArray} {nl fr lo : Nat} {ret : Option FieldType} {v : Option Value} {σe : HP} (hX : OkX X RX2 cc nl fr lo ret v σe) {j : Nat} (hj : kd j = 4) (hdg : decode cc pc = .ok (.getfield 25, 3)) (k : Z X σ (pc + 3) lv (rf X.1 (j + 1) :: st)) : Z X σ pc lv (rf X.1 j :: st) := z_get hX uin_4 (kd_lt hj (by decide)) (cell_4 X.1 hj) rfl 0 (by decide) mf_X2_25 rfl rfl hdg k
theorem mf_X2_29 : Cond.fieldLink RX2 29 "KiteWords$Row" "size" "I" ∈ wsA := memT 47 (by decide +kernel) (by decide +kernel)
theorem g_X2_29 {X : CX} {σ : HP} {pc : Nat} {lv : List (Nat × Value)} {st : List Value} {cc : ByteArray} {nl fr lo : Nat} {ret : Option FieldType} {v : Option Value} {σe : HP} (hX : OkX X RX2 cc nl fr lo ret v σe) {j : Nat} (hj : kd j = 3) (hdg : decode cc pc = .ok (.getfield 29, 3)) (k : Z X σ (pc + 3) lv (.int (σ j 6) :: st)) : Z X σ pc lv (rf X.1 j :: st) := z_get hX uin_3 (kd_lt hj (by decide)) (cell_3 X.1 hj) rfl 6 (by decide) mf_X2_29 rfl rfl hdg k
theorem mf_X2_44 : Cond.fieldLink RX2 44 "KiteWords$State" "inNorth" "Z" ∈ wsA := memT 164 (by decide +kernel) (by decide +kernel)
theorem g_X2_44 {X : CX} {σ : HP} {pc : Nat} {lv : List (Nat × Value)} {st : List Value} {cc : ByteArray} {nl fr lo : Nat} {ret : Option FieldType} {v : Option Value} {σe : HP} (hX : OkX X RX2 cc nl fr lo ret v σe) {j : Nat} (hj : kd j = 4) (hdg : decode cc pc = .ok (.getfield 44, 3)) (k : Z X σ (pc + 3) lv (.int (σ j 7) :: st)) : Z X σ pc lv (rf X.1 j :: st) := z_get hX uin_4 (kd_lt hj (by decide)) (cell_4 X.1 hj) rfl 7 (by decide) mf_X2_44 rfl rfl hdg k
theorem mf_X3_9 : Cond.fieldLink RX3 9 "KiteWords$Row" "number" "[I" ∈ wsA := memT 32 (by decide +kernel) (by decide +kernel)
theorem g_X3_9 {X : CX} {σ : HP} {pc : Nat} {lv : List (Nat × Value)} {st : List Value} {cc : ByteArray} {nl fr lo : Nat} {ret : Option FieldType} {v : Option Value} {σe : HP} (hX : OkX X RX3 cc nl fr lo ret v σe) {j : Nat} (hj : kd j = 3) (hdg : decode cc pc = .ok (.getfield 9, 3)) (k : Z X σ (pc + 3) lv (rf X.1 (j + 1) :: st)) : Z X σ pc lv (rf X.1 j :: st) := z_get hX uin_3 (kd_lt hj (by decide)) (cell_3 X.1 hj) rfl 0 (by decide) mf_X3_9 rfl rfl hdg k
theorem mf_X3_15 : Cond.fieldLink RX3 15 "KiteWords$Row" "letter" "[I" ∈ wsA := memT 35 (by decide +kernel) (by decide +kernel)
theorem g_X3_15 {X : CX} {σ : HP} {pc : Nat} {lv : List (Nat × Value)} {st : List Value} {cc : ByteArray} {nl fr lo : Nat} {ret : Option FieldType} {v : Option Value} {σe : HP} (hX : OkX X RX3 cc nl fr lo ret v σe) {j : Nat} (hj : kd j = 3) (hdg : decode cc pc = .ok (.getfield 15, 3)) (k : Z X σ (pc + 3) lv (rf X.1 (j + 2) :: st)) : Z X σ pc lv (rf X.1 j :: st) := z_get hX uin_3 (kd_lt hj (by decide)) (cell_3 X.1 hj) rfl 1 (by decide) mf_X3_15 rfl rfl hdg k
theorem mf_X3_18 : Cond.fieldLink RX3 18 "KiteWords$Row" "length" "[I" ∈ wsA := memT 38 (by decide +kernel) (by decide +kernel)
theorem g_X3_18 {X : CX} {σ : HP} {pc : Nat} {lv : List (Nat × Value)} {st : List Value} {cc : ByteArray} {nl fr lo : Nat} {ret : Option FieldType} {v : Option Value} {σe : HP} (hX : OkX X RX3 cc nl fr lo ret v σe) {j : Nat} (hj : kd j = 3) (hdg : decode cc pc = .ok (.getfield 18, 3)) (k : Z X σ (pc + 3) lv (rf X.1 (j + 3) :: st)) : Z X σ pc lv (rf X.1 j :: st) := z_get hX uin_3 (kd_lt hj (by decide)) (cell_3 X.1 hj) rfl 2 (by decide) mf_X3_18 rfl rfl hdg k
theorem mf_X3_21 : Cond.fieldLink RX3 21 "KiteWords$Row" "mate" "[I" ∈ wsA := memT 40 (by decide +kernel) (by decide +kernel)
theorem g_X3_21 {X : CX} {σ : HP} {pc : Nat} {lv : List (Nat × Value)} {st : List Value} {cc : ByteArray} {nl fr lo : Nat} {ret : Option FieldType} {v : Option Value} {σe : HP} (hX : OkX X RX3 cc nl fr lo ret v σe) {j : Nat} (hj : kd j = 3) (hdg : decode cc pc = .ok (.getfield 21, 3)) (k : Z X σ (pc + 3) lv (rf X.1 (j + 4) :: st)) : Z X σ pc lv (rf X.1 j :: st) := z_get hX uin_3 (kd_lt hj (by decide)) (cell_3 X.1 hj) rfl 3 (by decide) mf_X3_21 rfl rfl hdg k
theorem mf_X3_24 : Cond.fieldLink RX3 24 "KiteWords$Row" "minutesLeft" "[I" ∈ wsA := memT 42 (by decide +kernel) (by decide +kernel)
theorem g_X3_24 {X : CX} {σ : HP} {pc : Nat} {lv : List (Nat × Value)} {st : List Value} {cc : ByteArray} {nl fr lo : Nat} {ret : Option FieldType} {v : Option Value} {σe : HP} (hX : OkX X RX3 cc nl fr lo ret v σe) {j : Nat} (hj : kd j = 3) (hdg : decode cc pc = .ok (.getfield 24, 3)) (k : Z X σ (pc + 3) lv (rf X.1 (j + 5) :: st)) : Z X σ pc lv (rf X.1 j :: st) := z_get hX uin_3 (kd_lt hj (by decide)) (cell_3 X.1 hj) rfl 4 (by decide) mf_X3_24 rfl rfl hdg k
theorem mf_X3_27 : Cond.fieldLink RX3 27 "KiteWords$Row" "trades" "[I" ∈ wsA := memT 44 (by decide +kernel) (by decide +kernel)
theorem g_X3_27 {X : CX} {σ : HP} {pc : Nat} {lv : List (Nat × Value)} {st : List Value} {cc : ByteArray} {nl fr lo : Nat} {ret : Option FieldType} {v : Option Value} {σe : HP} (hX : OkX X RX3 cc nl fr lo ret v σe) {j : Nat} (hj : kd j = 3) (hdg : decode cc pc = .ok (.getfield 27, 3)) (k : Z X σ (pc + 3) lv (rf X.1 (j + 6) :: st)) : Z X σ pc lv (rf X.1 j :: st) := z_get hX uin_3 (kd_lt hj (by decide)) (cell_3 X.1 hj) rfl 5 (by decide) mf_X3_27 rfl rfl hdg k
theorem mf_X3_30 : Cond.fieldLink RX3 30 "KiteWords$Row" "size" "I" ∈ wsA := memT 46 (by decide +kernel) (by decide +kernel)
theorem g_X3_30 {X : CX} {σ : HP} {pc : Nat} {lv : List (Nat × Value)} {st : List Value} {cc : ByteArray} {nl fr lo : Nat} {ret : Option FieldType} {v : Option Value} {σe : HP} (hX : OkX X RX3 cc nl fr lo ret v σe) {j : Nat} (hj : kd j = 3) (hdg : decode cc pc = .ok (.getfield 30, 3)) (k : Z X σ (pc + 3) lv (.int (σ j 6) :: st)) : Z X σ pc lv (rf X.1 j :: st) := z_get hX uin_3 (kd_lt hj (by decide)) (cell_3 X.1 hj) rfl 6 (by decide) mf_X3_30 rfl rfl hdg k
theorem p_X3_30 {X : CX} {σ : HP} {pc : Nat} {lv : List (Nat × Value)} {st : List Value} {cc : ByteArray} {nl fr lo : Nat} {ret : Option FieldType} {v : Option Value} {σe : HP} (hX : OkX X RX3 cc nl fr lo ret v σe) {j : Nat} {x : Int32} (hj : kd j = 3) (hdg : decode cc pc = .ok (.putfield 30, 3)) (k : Z X (wr σ j 6 x) (pc + 3) lv st) : Z X σ pc lv (.int x :: rf X.1 j :: st) := z_put hX uin_3 tyX3 tyX3_ok nmX3 (kd_lt hj (by decide)) (cell_3 X.1 hj) rfl 6 (by decide) mf_X3_30 rfl rfl (ty := .int) (by decide +kernel) rfl rfl (Nat.le_of_ble_eq_true rfl) (by rw [cell_3 X.1 hj]; simp [wr, wrA, upd]) hdg k
theorem mf_X3_34 : Cond.fieldLink RX3 34 "KiteWords$Row" "everCame" "I" ∈ wsA := memT 51 (by decide +kernel) (by decide +kernel)
theorem g_X3_34 {X : CX} {σ : HP} {pc : Nat} {lv : List (Nat × Value)} {st : List Value} {cc : ByteArray} {nl fr lo : Nat} {ret : Option FieldType} {v : Option Value} {σe : HP} (hX : OkX X RX3 cc nl fr lo ret v σe) {j : Nat} (hj : kd j = 3) (hdg : decode cc pc = .ok (.getfield 34, 3)) (k : Z X σ (pc + 3) lv (.int (σ j 7) :: st)) : Z X σ pc lv (rf X.1 j :: st) := z_get hX uin_3 (kd_lt hj (by decide)) (cell_3 X.1 hj) rfl 7 (by decide) mf_X3_34 rfl rfl hdg k
theorem p_X3_34 {X : CX} {σ : HP} {pc : Nat} {lv : List (Nat × Value)} {st : List Value} {cc : ByteArray} {nl fr lo : Nat} {ret : Option FieldType} {v : Option Value} {σe : HP} (hX : OkX X RX3 cc nl fr lo ret v σe) {j : Nat} {x : Int32} (hj : kd j = 3) (hdg : decode cc pc = .ok (.putfield 34, 3)) (k : Z X (wr σ j 7 x) (pc + 3) lv st) : Z X σ pc lv (.int x :: rf X.1 j :: st) := z_put hX uin_3 tyX3 tyX3_ok nmX3 (kd_lt hj (by decide)) (cell_3 X.1 hj) rfl 7 (by decide) mf_X3_34 rfl rfl (ty := .int) (by decide +kernel) rfl rfl (Nat.le_of_ble_eq_true rfl) (by rw [cell_3 X.1 hj]; simp [wr, wrA, upd]) hdg k
theorem mf_X4_12 : Cond.fieldLink RX4 12 "KiteWords$State" "row" "LKiteWords$Row;" ∈ wsA := memT 145 (by decide +kernel) (by decide +kernel)
theorem g_X4_12 {X : CX} {σ : HP} {pc : Nat} {lv : List (Nat × Value)} {st : List Value} {cc : ByteArray} {nl fr lo : Nat} {ret : Option FieldType} {v : Option Value} {σe : HP} (hX : OkX X RX4 cc nl fr lo ret v σe) {j : Nat} (hj : kd j = 4) (hdg : decode cc pc = .ok (.getfield 12, 3)) (k : Z X σ (pc + 3) lv (rf X.1 (j + 1) :: st)) : Z X σ pc lv (rf X.1 j :: st) := z_get hX uin_4 (kd_lt hj (by decide)) (cell_4 X.1 hj) rfl 0 (by decide) mf_X4_12 rfl rfl hdg k
theorem mf_X4_21 : Cond.fieldLink RX4 21 "KiteWords$State" "plan" "LKiteWords$Plan;" ∈ wsA := memT 149 (by decide +kernel) (by decide +kernel)
theorem g_X4_21 {X : CX} {σ : HP} {pc : Nat} {lv : List (Nat × Value)} {st : List Value} {cc : ByteArray} {nl fr lo : Nat} {ret : Option FieldType} {v : Option Value} {σe : HP} (hX : OkX X RX4 cc nl fr lo ret v σe) {j : Nat} (hj : kd j = 4) (hdg : decode cc pc = .ok (.getfield 21, 3)) (k : Z X σ (pc + 3) lv (rf X.1 (j + 8) :: st)) : Z X σ pc lv (rf X.1 j :: st) := z_get hX uin_4 (kd_lt hj (by decide)) (cell_4 X.1 hj) rfl 1 (by decide) mf_X4_21 rfl rfl hdg k
theorem mf_X4_28 : Cond.fieldLink RX4 28 "KiteWords$State" "log" "LKiteWords$TangleLog;" ∈ wsA := memT 151 (by decide +kernel) (by decide +kernel)
theorem g_X4_28 {X : CX} {σ : HP} {pc : Nat} {lv : List (Nat × Value)} {st : List Value} {cc : ByteArray} {nl fr lo : Nat} {ret : Option FieldType} {v : Option Value} {σe : HP} (hX : OkX X RX4 cc nl fr lo ret v σe) {j : Nat} (hj : kd j = 4) (hdg : decode cc pc = .ok (.getfield 28, 3)) (k : Z X σ (pc + 3) lv (rf X.1 (j + 12) :: st)) : Z X σ pc lv (rf X.1 j :: st) := z_get hX uin_4 (kd_lt hj (by decide)) (cell_4 X.1 hj) rfl 2 (by decide) mf_X4_28 rfl rfl hdg k
theorem mf_X4_35 : Cond.fieldLink RX4 35 "KiteWords$State" "word" "LKiteWords$Word;" ∈ wsA := memT 153 (by decide +kernel) (by decide +kernel)
theorem g_X4_35 {X : CX} {σ : HP} {pc : Nat} {lv : List (Nat × Value)} {st : List Value} {cc : ByteArray} {nl fr lo : Nat} {ret : Option FieldType} {v : Option Value} {σe : HP} (hX : OkX X RX4 cc nl fr lo ret v σe) {j : Nat} (hj : kd j = 4) (hdg : decode cc pc = .ok (.getfield 35, 3)) (k : Z X σ (pc + 3) lv (rf X.1 (j + 17) :: st)) : Z X σ pc lv (rf X.1 j :: st) := z_get hX uin_4 (kd_lt hj (by decide)) (cell_4 X.1 hj) rfl 3 (by decide) mf_X4_35 rfl rfl hdg k
theorem mf_X4_39 : Cond.fieldLink RX4 39 "KiteWords$State" "minutes" "I" ∈ wsA := memT 156 (by decide +kernel) (by decide +kernel)
theorem g_X4_39 {X : CX} {σ : HP} {pc : Nat} {lv : List (Nat × Value)} {st : List Value} {cc : ByteArray} {nl fr lo : Nat} {ret : Option FieldType} {v : Option Value} {σe : HP} (hX : OkX X RX4 cc nl fr lo ret v σe) {j : Nat} (hj : kd j = 4) (hdg : decode cc pc = .ok (.getfield 39, 3)) (k : Z X σ (pc + 3) lv (.int (σ j 4) :: st)) : Z X σ pc lv (rf X.1 j :: st) := z_get hX uin_4 (kd_lt hj (by decide)) (cell_4 X.1 hj) rfl 4 (by decide) mf_X4_39 rfl rfl hdg k
theorem p_X4_39 {X : CX} {σ : HP} {pc : Nat} {lv : List (Nat × Value)} {st : List Value} {cc : ByteArray} {nl fr lo : Nat} {ret : Option FieldType} {v : Option Value} {σe : HP} (hX : OkX X RX4 cc nl fr lo ret v σe) {j : Nat} {x : Int32} (hj : kd j = 4) (hdg : decode cc pc = .ok (.putfield 39, 3)) (k : Z X (wr σ j 4 x) (pc + 3) lv st) : Z X σ pc lv (.int x :: rf X.1 j :: st) := z_put hX uin_4 tyX4 tyX4_ok nmX4 (kd_lt hj (by decide)) (cell_4 X.1 hj) rfl 4 (by decide) mf_X4_39 rfl rfl (ty := .int) (by decide +kernel) rfl rfl (Nat.le_of_ble_eq_true rfl) (by rw [cell_4 X.1 hj]; simp [wr, wrA, upd]) hdg k
theorem mf_X4_43 : Cond.fieldLink RX4 43 "KiteWords$State" "side" "I" ∈ wsA := memT 158 (by decide +kernel) (by decide +kernel)
theorem g_X4_43 {X : CX} {σ : HP} {pc : Nat} {lv : List (Nat × Value)} {st : List Value} {cc : ByteArray} {nl fr lo : Nat} {ret : Option FieldType} {v : Option Value} {σe : HP} (hX : OkX X RX4 cc nl fr lo ret v σe) {j : Nat} (hj : kd j = 4) (hdg : decode cc pc = .ok (.getfield 43, 3)) (k : Z X σ (pc + 3) lv (.int (σ j 5) :: st)) : Z X σ pc lv (rf X.1 j :: st) := z_get hX uin_4 (kd_lt hj (by decide)) (cell_4 X.1 hj) rfl 5 (by decide) mf_X4_43 rfl rfl hdg k
theorem p_X4_43 {X : CX} {σ : HP} {pc : Nat} {lv : List (Nat × Value)} {st : List Value} {cc : ByteArray} {nl fr lo : Nat} {ret : Option FieldType} {v : Option Value} {σe : HP} (hX : OkX X RX4 cc nl fr lo ret v σe) {j : Nat} {x : Int32} (hj : kd j = 4) (hdg : decode cc pc = .ok (.putfield 43, 3)) (k : Z X (wr σ j 5 x) (pc + 3) lv st) : Z X σ pc lv (.int x :: rf X.1 j :: st) := z_put hX uin_4 tyX4 tyX4_ok nmX4 (kd_lt hj (by decide)) (cell_4 X.1 hj) rfl 5 (by decide) mf_X4_43 rfl rfl (ty := .int) (by decide +kernel) rfl rfl (Nat.le_of_ble_eq_true rfl) (by rw [cell_4 X.1 hj]; simp [wr, wrA, upd]) hdg k
theorem mf_X4_46 : Cond.fieldLink RX4 46 "KiteWords$State" "strength" "I" ∈ wsA := memT 160 (by decide +kernel) (by decide +kernel)
theorem g_X4_46 {X : CX} {σ : HP} {pc : Nat} {lv : List (Nat × Value)} {st : List Value} {cc : ByteArray} {nl fr lo : Nat} {ret : Option FieldType} {v : Option Value} {σe : HP} (hX : OkX X RX4 cc nl fr lo ret v σe) {j : Nat} (hj : kd j = 4) (hdg : decode cc pc = .ok (.getfield 46, 3)) (k : Z X σ (pc + 3) lv (.int (σ j 6) :: st)) : Z X σ pc lv (rf X.1 j :: st) := z_get hX uin_4 (kd_lt hj (by decide)) (cell_4 X.1 hj) rfl 6 (by decide) mf_X4_46 rfl rfl hdg k
theorem p_X4_46 {X : CX} {σ : HP} {pc : Nat} {lv : List (Nat × Value)} {st : List Value} {cc : ByteArray} {nl fr lo : Nat} {ret : Option FieldType} {v : Option Value} {σe : HP} (hX : OkX X RX4 cc nl fr lo ret v σe) {j : Nat} {x : Int32} (hj : kd j = 4) (hdg : decode cc pc = .ok (.putfield 46, 3)) (k : Z X (wr σ j 6 x) (pc + 3) lv st) : Z X σ pc lv (.int x :: rf X.1 j :: st) := z_put hX uin_4 tyX4 tyX4_ok nmX4 (kd_lt hj (by decide)) (cell_4 X.1 hj) rfl 6 (by decide) mf_X4_46 rfl rfl (ty := .int) (by decide +kernel) rfl rfl (Nat.le_of_ble_eq_true rfl) (by rw [cell_4 X.1 hj]; simp [wr, wrA, upd]) hdg k
theorem mf_X4_49 : Cond.fieldLink RX4 49 "KiteWords$State" "inNorth" "Z" ∈ wsA := memT 162 (by decide +kernel) (by decide +kernel)
theorem g_X4_49 {X : CX} {σ : HP} {pc : Nat} {lv : List (Nat × Value)} {st : List Value} {cc : ByteArray} {nl fr lo : Nat} {ret : Option FieldType} {v : Option Value} {σe : HP} (hX : OkX X RX4 cc nl fr lo ret v σe) {j : Nat} (hj : kd j = 4) (hdg : decode cc pc = .ok (.getfield 49, 3)) (k : Z X σ (pc + 3) lv (.int (σ j 7) :: st)) : Z X σ pc lv (rf X.1 j :: st) := z_get hX uin_4 (kd_lt hj (by decide)) (cell_4 X.1 hj) rfl 7 (by decide) mf_X4_49 rfl rfl hdg k
theorem p_X4_49 {X : CX} {σ : HP} {pc : Nat} {lv : List (Nat × Value)} {st : List Value} {cc : ByteArray} {nl fr lo : Nat} {ret : Option FieldType} {v : Option Value} {σe : HP} (hX : OkX X RX4 cc nl fr lo ret v σe) {j : Nat} {x : Int32} (hj : kd j = 4) (hb : x = 0 ∨ x = 1) (hdg : decode cc pc = .ok (.putfield 49, 3)) (k : Z X (wr σ j 7 x) (pc + 3) lv st) : Z X σ pc lv (.int x :: rf X.1 j :: st) := z_put hX uin_4 tyX4 tyX4_ok nmX4 (kd_lt hj (by decide)) (cell_4 X.1 hj) rfl 7 (by decide) mf_X4_49 rfl rfl (ty := .boolean) (by decide +kernel) (by rcases hb with rfl | rfl <;> rfl) (by rcases hb with rfl | rfl <;> rfl) (Nat.le_of_ble_eq_true rfl) (by rw [cell_4 X.1 hj]; simp [wr, wrA, upd]) hdg k
theorem mf_X4_53 : Cond.fieldLink RX4 53 "KiteWords$State" "tangleMinutes" "I" ∈ wsA := memT 166 (by decide +kernel) (by decide +kernel)
theorem g_X4_53 {X : CX} {σ : HP} {pc : Nat} {lv : List (Nat × Value)} {st : List Value} {cc : ByteArray} {nl fr lo : Nat} {ret : Option FieldType} {v : Option Value} {σe : HP} (hX : OkX X RX4 cc nl fr lo ret v σe) {j : Nat} (hj : kd j = 4) (hdg : decode cc pc = .ok (.getfield 53, 3)) (k : Z X σ (pc + 3) lv (.int (σ j 8) :: st)) : Z X σ pc lv (rf X.1 j :: st) := z_get hX uin_4 (kd_lt hj (by decide)) (cell_4 X.1 hj) rfl 8 (by decide) mf_X4_53 rfl rfl hdg k
theorem p_X4_53 {X : CX} {σ : HP} {pc : Nat} {lv : List (Nat × Value)} {st : List Value} {cc : ByteArray} {nl fr lo : Nat} {ret : Option FieldType} {v : Option Value} {σe : HP} (hX : OkX X RX4 cc nl fr lo ret v σe) {j : Nat} {x : Int32} (hj : kd j = 4) (hdg : decode cc pc = .ok (.putfield 53, 3)) (k : Z X (wr σ j 8 x) (pc + 3) lv st) : Z X σ pc lv (.int x :: rf X.1 j :: st) := z_put hX uin_4 tyX4 tyX4_ok nmX4 (kd_lt hj (by decide)) (cell_4 X.1 hj) rfl 8 (by decide) mf_X4_53 rfl rfl (ty := .int) (by decide +kernel) rfl rfl (Nat.le_of_ble_eq_true rfl) (by rw [cell_4 X.1 hj]; simp [wr, wrA, upd]) hdg k
theorem mf_X4_56 : Cond.fieldLink RX4 56 "KiteWords$State" "tradesSoFar" "I" ∈ wsA := memT 168 (by decide +kernel) (by decide +kernel)
theorem g_X4_56 {X : CX} {σ : HP} {pc : Nat} {lv : List (Nat × Value)} {st : List Value} {cc : ByteArray} {nl fr lo : Nat} {ret : Option FieldType} {v : Option Value} {σe : HP} (hX : OkX X RX4 cc nl fr lo ret v σe) {j : Nat} (hj : kd j = 4) (hdg : decode cc pc = .ok (.getfield 56, 3)) (k : Z X σ (pc + 3) lv (.int (σ j 9) :: st)) : Z X σ pc lv (rf X.1 j :: st) := z_get hX uin_4 (kd_lt hj (by decide)) (cell_4 X.1 hj) rfl 9 (by decide) mf_X4_56 rfl rfl hdg k
theorem p_X4_56 {X : CX} {σ : HP} {pc : Nat} {lv : List (Nat × Value)} {st : List Value} {cc : ByteArray} {nl fr lo : Nat} {ret : Option FieldType} {v : Option Value} {σe : HP} (hX : OkX X RX4 cc nl fr lo ret v σe) {j : Nat} {x : Int32} (hj : kd j = 4) (hdg : decode cc pc = .ok (.putfield 56, 3)) (k : Z X (wr σ j 9 x) (pc + 3) lv st) : Z X σ pc lv (.int x :: rf X.1 j :: st) := z_put hX uin_4 tyX4 tyX4_ok nmX4 (kd_lt hj (by decide)) (cell_4 X.1 hj) rfl 9 (by decide) mf_X4_56 rfl rfl (ty := .int) (by decide +kernel) rfl rfl (Nat.le_of_ble_eq_true rfl) (by rw [cell_4 X.1 hj]; simp [wr, wrA, upd]) hdg k
theorem mf_X4_98 : Cond.fieldLink RX4 98 "KiteWords$Plan" "side" "[I" ∈ wsA := memT 79 (by decide +kernel) (by decide +kernel)
theorem g_X4_98 {X : CX} {σ : HP} {pc : Nat} {lv : List (Nat × Value)} {st : List Value} {cc : ByteArray} {nl fr lo : Nat} {ret : Option FieldType} {v : Option Value} {σe : HP} (hX : OkX X RX4 cc nl fr lo ret v σe) {j : Nat} (hj : kd j = 1) (hdg : decode cc pc = .ok (.getfield 98, 3)) (k : Z X σ (pc + 3) lv (rf X.1 (j + 2) :: st)) : Z X σ pc lv (rf X.1 j :: st) := z_get hX uin_1 (kd_lt hj (by decide)) (cell_1 X.1 hj) rfl 1 (by decide) mf_X4_98 rfl rfl hdg k
theorem mf_X4_101 : Cond.fieldLink RX4 101 "KiteWords$Plan" "strength" "[I" ∈ wsA := memT 82 (by decide +kernel) (by decide +kernel)
theorem g_X4_101 {X : CX} {σ : HP} {pc : Nat} {lv : List (Nat × Value)} {st : List Value} {cc : ByteArray} {nl fr lo : Nat} {ret : Option FieldType} {v : Option Value} {σe : HP} (hX : OkX X RX4 cc nl fr lo ret v σe) {j : Nat} (hj : kd j = 1) (hdg : decode cc pc = .ok (.getfield 101, 3)) (k : Z X σ (pc + 3) lv (rf X.1 (j + 3) :: st)) : Z X σ pc lv (rf X.1 j :: st) := z_get hX uin_1 (kd_lt hj (by decide)) (cell_1 X.1 hj) rfl 2 (by decide) mf_X4_101 rfl rfl hdg k
theorem mf_X4_110 : Cond.fieldLink RX4 110 "KiteWords$Row" "size" "I" ∈ wsA := memT 50 (by decide +kernel) (by decide +kernel)
theorem g_X4_110 {X : CX} {σ : HP} {pc : Nat} {lv : List (Nat × Value)} {st : List Value} {cc : ByteArray} {nl fr lo : Nat} {ret : Option FieldType} {v : Option Value} {σe : HP} (hX : OkX X RX4 cc nl fr lo ret v σe) {j : Nat} (hj : kd j = 3) (hdg : decode cc pc = .ok (.getfield 110, 3)) (k : Z X σ (pc + 3) lv (.int (σ j 6) :: st)) : Z X σ pc lv (rf X.1 j :: st) := z_get hX uin_3 (kd_lt hj (by decide)) (cell_3 X.1 hj) rfl 6 (by decide) mf_X4_110 rfl rfl hdg k
theorem mf_X4_120 : Cond.fieldLink RX4 120 "KiteWords$Plan" "size" "I" ∈ wsA := memT 85 (by decide +kernel) (by decide +kernel)
theorem g_X4_120 {X : CX} {σ : HP} {pc : Nat} {lv : List (Nat × Value)} {st : List Value} {cc : ByteArray} {nl fr lo : Nat} {ret : Option FieldType} {v : Option Value} {σe : HP} (hX : OkX X RX4 cc nl fr lo ret v σe) {j : Nat} (hj : kd j = 1) (hdg : decode cc pc = .ok (.getfield 120, 3)) (k : Z X σ (pc + 3) lv (.int (σ j 3) :: st)) : Z X σ pc lv (rf X.1 j :: st) := z_get hX uin_1 (kd_lt hj (by decide)) (cell_1 X.1 hj) rfl 3 (by decide) mf_X4_120 rfl rfl hdg k
theorem mf_X4_128 : Cond.fieldLink RX4 128 "KiteWords$Row" "number" "[I" ∈ wsA := memT 33 (by decide +kernel) (by decide +kernel)
theorem g_X4_128 {X : CX} {σ : HP} {pc : Nat} {lv : List (Nat × Value)} {st : List Value} {cc : ByteArray} {nl fr lo : Nat} {ret : Option FieldType} {v : Option Value} {σe : HP} (hX : OkX X RX4 cc nl fr lo ret v σe) {j : Nat} (hj : kd j = 3) (hdg : decode cc pc = .ok (.getfield 128, 3)) (k : Z X σ (pc + 3) lv (rf X.1 (j + 1) :: st)) : Z X σ pc lv (rf X.1 j :: st) := z_get hX uin_3 (kd_lt hj (by decide)) (cell_3 X.1 hj) rfl 0 (by decide) mf_X4_128 rfl rfl hdg k
theorem mf_X5_9 : Cond.fieldLink RX5 9 "KiteWords$TangleLog" "minute" "[I" ∈ wsA := memT 102 (by decide +kernel) (by decide +kernel)
theorem g_X5_9 {X : CX} {σ : HP} {pc : Nat} {lv : List (Nat × Value)} {st : List Value} {cc : ByteArray} {nl fr lo : Nat} {ret : Option FieldType} {v : Option Value} {σe : HP} (hX : OkX X RX5 cc nl fr lo ret v σe) {j : Nat} (hj : kd j = 5) (hdg : decode cc pc = .ok (.getfield 9, 3)) (k : Z X σ (pc + 3) lv (rf X.1 (j + 1) :: st)) : Z X σ pc lv (rf X.1 j :: st) := z_get hX uin_5 (kd_lt hj (by decide)) (cell_5 X.1 hj) rfl 0 (by decide) mf_X5_9 rfl rfl hdg k
theorem mf_X5_15 : Cond.fieldLink RX5 15 "KiteWords$TangleLog" "western" "[I" ∈ wsA := memT 104 (by decide +kernel) (by decide +kernel)
theorem g_X5_15 {X : CX} {σ : HP} {pc : Nat} {lv : List (Nat × Value)} {st : List Value} {cc : ByteArray} {nl fr lo : Nat} {ret : Option FieldType} {v : Option Value} {σe : HP} (hX : OkX X RX5 cc nl fr lo ret v σe) {j : Nat} (hj : kd j = 5) (hdg : decode cc pc = .ok (.getfield 15, 3)) (k : Z X σ (pc + 3) lv (rf X.1 (j + 2) :: st)) : Z X σ pc lv (rf X.1 j :: st) := z_get hX uin_5 (kd_lt hj (by decide)) (cell_5 X.1 hj) rfl 1 (by decide) mf_X5_15 rfl rfl hdg k
theorem mf_X5_18 : Cond.fieldLink RX5 18 "KiteWords$TangleLog" "eastern" "[I" ∈ wsA := memT 106 (by decide +kernel) (by decide +kernel)
theorem g_X5_18 {X : CX} {σ : HP} {pc : Nat} {lv : List (Nat × Value)} {st : List Value} {cc : ByteArray} {nl fr lo : Nat} {ret : Option FieldType} {v : Option Value} {σe : HP} (hX : OkX X RX5 cc nl fr lo ret v σe) {j : Nat} (hj : kd j = 5) (hdg : decode cc pc = .ok (.getfield 18, 3)) (k : Z X σ (pc + 3) lv (rf X.1 (j + 3) :: st)) : Z X σ pc lv (rf X.1 j :: st) := z_get hX uin_5 (kd_lt hj (by decide)) (cell_5 X.1 hj) rfl 2 (by decide) mf_X5_18 rfl rfl hdg k
theorem mf_X5_21 : Cond.fieldLink RX5 21 "KiteWords$TangleLog" "byTrade" "[I" ∈ wsA := memT 108 (by decide +kernel) (by decide +kernel)
theorem g_X5_21 {X : CX} {σ : HP} {pc : Nat} {lv : List (Nat × Value)} {st : List Value} {cc : ByteArray} {nl fr lo : Nat} {ret : Option FieldType} {v : Option Value} {σe : HP} (hX : OkX X RX5 cc nl fr lo ret v σe) {j : Nat} (hj : kd j = 5) (hdg : decode cc pc = .ok (.getfield 21, 3)) (k : Z X σ (pc + 3) lv (rf X.1 (j + 4) :: st)) : Z X σ pc lv (rf X.1 j :: st) := z_get hX uin_5 (kd_lt hj (by decide)) (cell_5 X.1 hj) rfl 3 (by decide) mf_X5_21 rfl rfl hdg k
theorem mf_X5_24 : Cond.fieldLink RX5 24 "KiteWords$TangleLog" "size" "I" ∈ wsA := memT 110 (by decide +kernel) (by decide +kernel)
theorem g_X5_24 {X : CX} {σ : HP} {pc : Nat} {lv : List (Nat × Value)} {st : List Value} {cc : ByteArray} {nl fr lo : Nat} {ret : Option FieldType} {v : Option Value} {σe : HP} (hX : OkX X RX5 cc nl fr lo ret v σe) {j : Nat} (hj : kd j = 5) (hdg : decode cc pc = .ok (.getfield 24, 3)) (k : Z X σ (pc + 3) lv (.int (σ j 4) :: st)) : Z X σ pc lv (rf X.1 j :: st) := z_get hX uin_5 (kd_lt hj (by decide)) (cell_5 X.1 hj) rfl 4 (by decide) mf_X5_24 rfl rfl hdg k
theorem p_X5_24 {X : CX} {σ : HP} {pc : Nat} {lv : List (Nat × Value)} {st : List Value} {cc : ByteArray} {nl fr lo : Nat} {ret : Option FieldType} {v : Option Value} {σe : HP} (hX : OkX X RX5 cc nl fr lo ret v σe) {j : Nat} {x : Int32} (hj : kd j = 5) (hdg : decode cc pc = .ok (.putfield 24, 3)) (k : Z X (wr σ j 4 x) (pc + 3) lv st) : Z X σ pc lv (.int x :: rf X.1 j :: st) := z_put hX uin_5 tyX5 tyX5_ok nmX5 (kd_lt hj (by decide)) (cell_5 X.1 hj) rfl 4 (by decide) mf_X5_24 rfl rfl (ty := .int) (by decide +kernel) rfl rfl (Nat.le_of_ble_eq_true rfl) (by rw [cell_5 X.1 hj]; simp [wr, wrA, upd]) hdg k
theorem mf_X5_28 : Cond.fieldLink RX5 28 "KiteWords$TangleLog" "soFar" "I" ∈ wsA := memT 112 (by decide +kernel) (by decide +kernel)
theorem g_X5_28 {X : CX} {σ : HP} {pc : Nat} {lv : List (Nat × Value)} {st : List Value} {cc : ByteArray} {nl fr lo : Nat} {ret : Option FieldType} {v : Option Value} {σe : HP} (hX : OkX X RX5 cc nl fr lo ret v σe) {j : Nat} (hj : kd j = 5) (hdg : decode cc pc = .ok (.getfield 28, 3)) (k : Z X σ (pc + 3) lv (.int (σ j 5) :: st)) : Z X σ pc lv (rf X.1 j :: st) := z_get hX uin_5 (kd_lt hj (by decide)) (cell_5 X.1 hj) rfl 5 (by decide) mf_X5_28 rfl rfl hdg k
theorem p_X5_28 {X : CX} {σ : HP} {pc : Nat} {lv : List (Nat × Value)} {st : List Value} {cc : ByteArray} {nl fr lo : Nat} {ret : Option FieldType} {v : Option Value} {σe : HP} (hX : OkX X RX5 cc nl fr lo ret v σe) {j : Nat} {x : Int32} (hj : kd j = 5) (hdg : decode cc pc = .ok (.putfield 28, 3)) (k : Z X (wr σ j 5 x) (pc + 3) lv st) : Z X σ pc lv (.int x :: rf X.1 j :: st) := z_put hX uin_5 tyX5 tyX5_ok nmX5 (kd_lt hj (by decide)) (cell_5 X.1 hj) rfl 5 (by decide) mf_X5_28 rfl rfl (ty := .int) (by decide +kernel) rfl rfl (Nat.le_of_ble_eq_true rfl) (by rw [cell_5 X.1 hj]; simp [wr, wrA, upd]) hdg k
theorem mf_X6_9 : Cond.fieldLink RX6 9 "KiteWords$Word" "letters" "[C" ∈ wsA := memT 133 (by decide +kernel) (by decide +kernel)
theorem g_X6_9 {X : CX} {σ : HP} {pc : Nat} {lv : List (Nat × Value)} {st : List Value} {cc : ByteArray} {nl fr lo : Nat} {ret : Option FieldType} {v : Option Value} {σe : HP} (hX : OkX X RX6 cc nl fr lo ret v σe) {j : Nat} (hj : kd j = 6) (hdg : decode cc pc = .ok (.getfield 9, 3)) (k : Z X σ (pc + 3) lv (rf X.1 (j + 1) :: st)) : Z X σ pc lv (rf X.1 j :: st) := z_get hX uin_6 (kd_lt hj (by decide)) (cell_6 X.1 hj) rfl 0 (by decide) mf_X6_9 rfl rfl hdg k
theorem mf_X6_15 : Cond.fieldLink RX6 15 "KiteWords$Word" "size" "I" ∈ wsA := memT 136 (by decide +kernel) (by decide +kernel)
theorem g_X6_15 {X : CX} {σ : HP} {pc : Nat} {lv : List (Nat × Value)} {st : List Value} {cc : ByteArray} {nl fr lo : Nat} {ret : Option FieldType} {v : Option Value} {σe : HP} (hX : OkX X RX6 cc nl fr lo ret v σe) {j : Nat} (hj : kd j = 6) (hdg : decode cc pc = .ok (.getfield 15, 3)) (k : Z X σ (pc + 3) lv (.int (σ j 1) :: st)) : Z X σ pc lv (rf X.1 j :: st) := z_get hX uin_6 (kd_lt hj (by decide)) (cell_6 X.1 hj) rfl 1 (by decide) mf_X6_15 rfl rfl hdg k
theorem p_X6_15 {X : CX} {σ : HP} {pc : Nat} {lv : List (Nat × Value)} {st : List Value} {cc : ByteArray} {nl fr lo : Nat} {ret : Option FieldType} {v : Option Value} {σe : HP} (hX : OkX X RX6 cc nl fr lo ret v σe) {j : Nat} {x : Int32} (hj : kd j = 6) (hdg : decode cc pc = .ok (.putfield 15, 3)) (k : Z X (wr σ j 1 x) (pc + 3) lv st) : Z X σ pc lv (.int x :: rf X.1 j :: st) := z_put hX uin_6 tyX6 tyX6_ok nmX6 (kd_lt hj (by decide)) (cell_6 X.1 hj) rfl 1 (by decide) mf_X6_15 rfl rfl (ty := .int) (by decide +kernel) rfl rfl (Nat.le_of_ble_eq_true rfl) (by rw [cell_6 X.1 hj]; simp [wr, wrA, upd]) hdg k
theorem mf_X8_7 : Cond.fieldLink RX8 7 "KiteWordsModel" "now" "[I" ∈ wsA := memT 620 (by decide +kernel) (by decide +kernel)
theorem g_X8_7 {X : CX} {σ : HP} {pc : Nat} {lv : List (Nat × Value)} {st : List Value} {cc : ByteArray} {nl fr lo : Nat} {ret : Option FieldType} {v : Option Value} {σe : HP} (hX : OkX X RX8 cc nl fr lo ret v σe) {j : Nat} (hj : kd j = 8) (hdg : decode cc pc = .ok (.getfield 7, 3)) (k : Z X σ (pc + 3) lv (rf X.1 (j + 1) :: st)) : Z X σ pc lv (rf X.1 j :: st) := z_get hX uin_8 (kd_lt hj (by decide)) (cell_8 X.1 hj) rfl 0 (by decide) mf_X8_7 rfl rfl hdg k
theorem mf_X8_13 : Cond.fieldLink RX8 13 "KiteWordsModel" "then" "[I" ∈ wsA := memT 621 (by decide +kernel) (by decide +kernel)
theorem g_X8_13 {X : CX} {σ : HP} {pc : Nat} {lv : List (Nat × Value)} {st : List Value} {cc : ByteArray} {nl fr lo : Nat} {ret : Option FieldType} {v : Option Value} {σe : HP} (hX : OkX X RX8 cc nl fr lo ret v σe) {j : Nat} (hj : kd j = 8) (hdg : decode cc pc = .ok (.getfield 13, 3)) (k : Z X σ (pc + 3) lv (rf X.1 (j + 2) :: st)) : Z X σ pc lv (rf X.1 j :: st) := z_get hX uin_8 (kd_lt hj (by decide)) (cell_8 X.1 hj) rfl 1 (by decide) mf_X8_13 rfl rfl hdg k
theorem mf_X8_16 : Cond.fieldLink RX8 16 "KiteWordsModel" "past" "[I" ∈ wsA := memT 622 (by decide +kernel) (by decide +kernel)
theorem g_X8_16 {X : CX} {σ : HP} {pc : Nat} {lv : List (Nat × Value)} {st : List Value} {cc : ByteArray} {nl fr lo : Nat} {ret : Option FieldType} {v : Option Value} {σe : HP} (hX : OkX X RX8 cc nl fr lo ret v σe) {j : Nat} (hj : kd j = 8) (hdg : decode cc pc = .ok (.getfield 16, 3)) (k : Z X σ (pc + 3) lv (rf X.1 (j + 3) :: st)) : Z X σ pc lv (rf X.1 j :: st) := z_get hX uin_8 (kd_lt hj (by decide)) (cell_8 X.1 hj) rfl 2 (by decide) mf_X8_16 rfl rfl hdg k
theorem mf_X8_19 : Cond.fieldLink RX8 19 "KiteWordsModel" "snapshot" "[I" ∈ wsA := memT 624 (by decide +kernel) (by decide +kernel)
theorem g_X8_19 {X : CX} {σ : HP} {pc : Nat} {lv : List (Nat × Value)} {st : List Value} {cc : ByteArray} {nl fr lo : Nat} {ret : Option FieldType} {v : Option Value} {σe : HP} (hX : OkX X RX8 cc nl fr lo ret v σe) {j : Nat} (hj : kd j = 8) (hdg : decode cc pc = .ok (.getfield 19, 3)) (k : Z X σ (pc + 3) lv (rf X.1 (j + 4) :: st)) : Z X σ pc lv (rf X.1 j :: st) := z_get hX uin_8 (kd_lt hj (by decide)) (cell_8 X.1 hj) rfl 4 (by decide) mf_X8_19 rfl rfl hdg k
theorem mf_X8_22 : Cond.fieldLink RX8 22 "KiteWordsModel" "text" "[C" ∈ wsA := memT 626 (by decide +kernel) (by decide +kernel)
theorem g_X8_22 {X : CX} {σ : HP} {pc : Nat} {lv : List (Nat × Value)} {st : List Value} {cc : ByteArray} {nl fr lo : Nat} {ret : Option FieldType} {v : Option Value} {σe : HP} (hX : OkX X RX8 cc nl fr lo ret v σe) {j : Nat} (hj : kd j = 8) (hdg : decode cc pc = .ok (.getfield 22, 3)) (k : Z X σ (pc + 3) lv (rf X.1 (j + 5) :: st)) : Z X σ pc lv (rf X.1 j :: st) := z_get hX uin_8 (kd_lt hj (by decide)) (cell_8 X.1 hj) rfl 6 (by decide) mf_X8_22 rfl rfl hdg k
theorem mf_X8_26 : Cond.fieldLink RX8 26 "KiteWordsModel" "taken" "[Z" ∈ wsA := memT 628 (by decide +kernel) (by decide +kernel)
theorem g_X8_26 {X : CX} {σ : HP} {pc : Nat} {lv : List (Nat × Value)} {st : List Value} {cc : ByteArray} {nl fr lo : Nat} {ret : Option FieldType} {v : Option Value} {σe : HP} (hX : OkX X RX8 cc nl fr lo ret v σe) {j : Nat} (hj : kd j = 8) (hdg : decode cc pc = .ok (.getfield 26, 3)) (k : Z X σ (pc + 3) lv (rf X.1 (j + 6) :: st)) : Z X σ pc lv (rf X.1 j :: st) := z_get hX uin_8 (kd_lt hj (by decide)) (cell_8 X.1 hj) rfl 8 (by decide) mf_X8_26 rfl rfl hdg k
theorem mf_X8_30 : Cond.fieldLink RX8 30 "KiteWordsModel" "goal" "[I" ∈ wsA := memT 629 (by decide +kernel) (by decide +kernel)
theorem g_X8_30 {X : CX} {σ : HP} {pc : Nat} {lv : List (Nat × Value)} {st : List Value} {cc : ByteArray} {nl fr lo : Nat} {ret : Option FieldType} {v : Option Value} {σe : HP} (hX : OkX X RX8 cc nl fr lo ret v σe) {j : Nat} (hj : kd j = 8) (hdg : decode cc pc = .ok (.getfield 30, 3)) (k : Z X σ (pc + 3) lv (rf X.1 (j + 7) :: st)) : Z X σ pc lv (rf X.1 j :: st) := z_get hX uin_8 (kd_lt hj (by decide)) (cell_8 X.1 hj) rfl 9 (by decide) mf_X8_30 rfl rfl hdg k
theorem mf_X8_33 : Cond.fieldLink RX8 33 "KiteWordsModel" "relations" "[I" ∈ wsA := memT 630 (by decide +kernel) (by decide +kernel)
theorem g_X8_33 {X : CX} {σ : HP} {pc : Nat} {lv : List (Nat × Value)} {st : List Value} {cc : ByteArray} {nl fr lo : Nat} {ret : Option FieldType} {v : Option Value} {σe : HP} (hX : OkX X RX8 cc nl fr lo ret v σe) {j : Nat} (hj : kd j = 8) (hdg : decode cc pc = .ok (.getfield 33, 3)) (k : Z X σ (pc + 3) lv (rf X.1 (j + 8) :: st)) : Z X σ pc lv (rf X.1 j :: st) := z_get hX uin_8 (kd_lt hj (by decide)) (cell_8 X.1 hj) rfl 10 (by decide) mf_X8_33 rfl rfl hdg k
theorem mf_X8_36 : Cond.fieldLink RX8 36 "KiteWordsModel" "turned" "[I" ∈ wsA := memT 631 (by decide +kernel) (by decide +kernel)
theorem g_X8_36 {X : CX} {σ : HP} {pc : Nat} {lv : List (Nat × Value)} {st : List Value} {cc : ByteArray} {nl fr lo : Nat} {ret : Option FieldType} {v : Option Value} {σe : HP} (hX : OkX X RX8 cc nl fr lo ret v σe) {j : Nat} (hj : kd j = 8) (hdg : decode cc pc = .ok (.getfield 36, 3)) (k : Z X σ (pc + 3) lv (rf X.1 (j + 9) :: st)) : Z X σ pc lv (rf X.1 j :: st) := z_get hX uin_8 (kd_lt hj (by decide)) (cell_8 X.1 hj) rfl 11 (by decide) mf_X8_36 rfl rfl hdg k
theorem mf_X8_39 : Cond.fieldLink RX8 39 "KiteWordsModel" "states" "I" ∈ wsA := memT 623 (by decide +kernel) (by decide +kernel)
theorem g_X8_39 {X : CX} {σ : HP} {pc : Nat} {lv : List (Nat × Value)} {st : List Value} {cc : ByteArray} {nl fr lo : Nat} {ret : Option FieldType} {v : Option Value} {σe : HP} (hX : OkX X RX8 cc nl fr lo ret v σe) {j : Nat} (hj : kd j = 8) (hdg : decode cc pc = .ok (.getfield 39, 3)) (k : Z X σ (pc + 3) lv (.int (σ j 3) :: st)) : Z X σ pc lv (rf X.1 j :: st) := z_get hX uin_8 (kd_lt hj (by decide)) (cell_8 X.1 hj) rfl 3 (by decide) mf_X8_39 rfl rfl hdg k
theorem p_X8_39 {X : CX} {σ : HP} {pc : Nat} {lv : List (Nat × Value)} {st : List Value} {cc : ByteArray} {nl fr lo : Nat} {ret : Option FieldType} {v : Option Value} {σe : HP} (hX : OkX X RX8 cc nl fr lo ret v σe) {j : Nat} {x : Int32} (hj : kd j = 8) (hdg : decode cc pc = .ok (.putfield 39, 3)) (k : Z X (wr σ j 3 x) (pc + 3) lv st) : Z X σ pc lv (.int x :: rf X.1 j :: st) := z_put hX uin_8 tyX8 tyX8_ok nmX8 (kd_lt hj (by decide)) (cell_8 X.1 hj) rfl 3 (by decide) mf_X8_39 rfl rfl (ty := .int) (by decide +kernel) rfl rfl (Nat.le_of_ble_eq_true rfl) (by rw [cell_8 X.1 hj]; simp [wr, wrA, upd]) hdg k
theorem mf_X8_141 : Cond.fieldLink RX8 141 "KiteWordsModel" "typed" "I" ∈ wsA := memT 627 (by decide +kernel) (by decide +kernel)
theorem g_X8_141 {X : CX} {σ : HP} {pc : Nat} {lv : List (Nat × Value)} {st : List Value} {cc : ByteArray} {nl fr lo : Nat} {ret : Option FieldType} {v : Option Value} {σe : HP} (hX : OkX X RX8 cc nl fr lo ret v σe) {j : Nat} (hj : kd j = 8) (hdg : decode cc pc = .ok (.getfield 141, 3)) (k : Z X σ (pc + 3) lv (.int (σ j 7) :: st)) : Z X σ pc lv (rf X.1 j :: st) := z_get hX uin_8 (kd_lt hj (by decide)) (cell_8 X.1 hj) rfl 7 (by decide) mf_X8_141 rfl rfl hdg k
theorem p_X8_141 {X : CX} {σ : HP} {pc : Nat} {lv : List (Nat × Value)} {st : List Value} {cc : ByteArray} {nl fr lo : Nat} {ret : Option FieldType} {v : Option Value} {σe : HP} (hX : OkX X RX8 cc nl fr lo ret v σe) {j : Nat} {x : Int32} (hj : kd j = 8) (hdg : decode cc pc = .ok (.putfield 141, 3)) (k : Z X (wr σ j 7 x) (pc + 3) lv st) : Z X σ pc lv (.int x :: rf X.1 j :: st) := z_put hX uin_8 tyX8 tyX8_ok nmX8 (kd_lt hj (by decide)) (cell_8 X.1 hj) rfl 7 (by decide) mf_X8_141 rfl rfl (ty := .int) (by decide +kernel) rfl rfl (Nat.le_of_ble_eq_true rfl) (by rw [cell_8 X.1 hj]; simp [wr, wrA, upd]) hdg k
theorem mf_X8_167 : Cond.fieldLink RX8 167 "KiteWordsModel" "isKept" "Z" ∈ wsA := memT 625 (by decide +kernel) (by decide +kernel)
theorem g_X8_167 {X : CX} {σ : HP} {pc : Nat} {lv : List (Nat × Value)} {st : List Value} {cc : ByteArray} {nl fr lo : Nat} {ret : Option FieldType} {v : Option Value} {σe : HP} (hX : OkX X RX8 cc nl fr lo ret v σe) {j : Nat} (hj : kd j = 8) (hdg : decode cc pc = .ok (.getfield 167, 3)) (k : Z X σ (pc + 3) lv (.int (σ j 5) :: st)) : Z X σ pc lv (rf X.1 j :: st) := z_get hX uin_8 (kd_lt hj (by decide)) (cell_8 X.1 hj) rfl 5 (by decide) mf_X8_167 rfl rfl hdg k
theorem p_X8_167 {X : CX} {σ : HP} {pc : Nat} {lv : List (Nat × Value)} {st : List Value} {cc : ByteArray} {nl fr lo : Nat} {ret : Option FieldType} {v : Option Value} {σe : HP} (hX : OkX X RX8 cc nl fr lo ret v σe) {j : Nat} {x : Int32} (hj : kd j = 8) (hb : x = 0 ∨ x = 1) (hdg : decode cc pc = .ok (.putfield 167, 3)) (k : Z X (wr σ j 5 x) (pc + 3) lv st) : Z X σ pc lv (.int x :: rf X.1 j :: st) := z_put hX uin_8 tyX8 tyX8_ok nmX8 (kd_lt hj (by decide)) (cell_8 X.1 hj) rfl 5 (by decide) mf_X8_167 rfl rfl (ty := .boolean) (by decide +kernel) (by rcases hb with rfl | rfl <;> rfl) (by rcases hb with rfl | rfl <;> rfl) (Nat.le_of_ble_eq_true rfl) (by rw [cell_8 X.1 hj]; simp [wr, wrA, upd]) hdg k
theorem mc_X7_63 : Jvm.Cond.constant RX7 63 (-1000002) ∈ wsA := memT 269 (by decide +kernel) (by decide +kernel)
theorem mc_X7_74 : Jvm.Cond.constant RX7 74 (-1000003) ∈ wsA := memT 274 (by decide +kernel) (by decide +kernel)
theorem mc_X7_89 : Jvm.Cond.constant RX7 89 (-1000100) ∈ wsA := memT 324 (by decide +kernel) (by decide +kernel)
theorem mc_X7_93 : Jvm.Cond.constant RX7 93 (-1000001) ∈ wsA := memT 333 (by decide +kernel) (by decide +kernel)
theorem mc_X7_97 : Jvm.Cond.constant RX7 97 (-1000004) ∈ wsA := memT 338 (by decide +kernel) (by decide +kernel)
theorem mc_X7_106 : Jvm.Cond.constant RX7 106 (-1000005) ∈ wsA := memT 354 (by decide +kernel) (by decide +kernel)
theorem mc_X8_69 : Jvm.Cond.constant RX8 69 (-1000005) ∈ wsA := memT 693 (by decide +kernel) (by decide +kernel)
theorem mc_X8_123 : Jvm.Cond.constant RX8 123 (-1000002) ∈ wsA := memT 665 (by decide +kernel) (by decide +kernel)
theorem mc_X8_128 : Jvm.Cond.constant RX8 128 (-1000003) ∈ wsA := memT 670 (by decide +kernel) (by decide +kernel)
theorem mc_X8_140 : Jvm.Cond.constant RX8 140 (-1000100) ∈ wsA := memT 694 (by decide +kernel) (by decide +kernel)
theorem mc_X8_147 : Jvm.Cond.constant RX8 147 (-1000001) ∈ wsA := memT 703 (by decide +kernel) (by decide +kernel)
theorem mc_X8_148 : Jvm.Cond.constant RX8 148 (-1000004) ∈ wsA := memT 710 (by decide +kernel) (by decide +kernel)
theorem M_X7_asNumber : MthS yX7_asNumber cX7_asNumber 1 (some .int) 1 := ⟨⟨memT 405 (by decide +kernel) (by decide +kernel), memT 1 (by decide +kernel) (by decide +kernel), ⟨by decide +kernel, by decide +kernel⟩, by decide +kernel⟩, memT 404 (by decide +kernel) (by decide +kernel)⟩
theorem M_X7_clearText : MthV yX7_clearText cX7_clearText 2 (some .int) 0 := ⟨⟨memT 517 (by decide +kernel) (by decide +kernel), memT 1 (by decide +kernel) (by decide +kernel), ⟨by decide +kernel, by decide +kernel⟩, by decide +kernel⟩, memT 515 (by decide +kernel) (by decide +kernel), memT 516 (by decide +kernel) (by decide +kernel)⟩
theorem M_X7_come : MthV yX7_come cX7_come 3 (some .int) 2 := ⟨⟨memT 262 (by decide +kernel) (by decide +kernel), memT 1 (by decide +kernel) (by decide +kernel), ⟨by decide +kernel, by decide +kernel⟩, by decide +kernel⟩, memT 260 (by decide +kernel) (by decide +kernel), memT 261 (by decide +kernel) (by decide +kernel)⟩
theorem M_X7_count : MthV yX7_count cX7_count 2 (some .int) 1 := ⟨⟨memT 609 (by decide +kernel) (by decide +kernel), memT 1 (by decide +kernel) (by decide +kernel), ⟨by decide +kernel, by decide +kernel⟩, by decide +kernel⟩, memT 607 (by decide +kernel) (by decide +kernel), memT 608 (by decide +kernel) (by decide +kernel)⟩
theorem M_X7_crowd : MthV yX7_crowd cX7_crowd 2 (some .int) 1 := ⟨⟨memT 470 (by decide +kernel) (by decide +kernel), memT 1 (by decide +kernel) (by decide +kernel), ⟨by decide +kernel, by decide +kernel⟩, by decide +kernel⟩, memT 468 (by decide +kernel) (by decide +kernel), memT 469 (by decide +kernel) (by decide +kernel)⟩
theorem M_X7_dropOldest : MthV yX7_dropOldest cX7_dropOldest 3 none 0 := ⟨⟨memT 282 (by decide +kernel) (by decide +kernel), memT 1 (by decide +kernel) (by decide +kernel), ⟨by decide +kernel, by decide +kernel⟩, by decide +kernel⟩, memT 281 (by decide +kernel) (by decide +kernel), memP 1 (by decide +kernel) (by decide +kernel)⟩
theorem M_X7_dropTurn : MthV yX7_dropTurn cX7_dropTurn 3 (some .int) 1 := ⟨⟨memT 465 (by decide +kernel) (by decide +kernel), memT 1 (by decide +kernel) (by decide +kernel), ⟨by decide +kernel, by decide +kernel⟩, by decide +kernel⟩, memT 463 (by decide +kernel) (by decide +kernel), memT 464 (by decide +kernel) (by decide +kernel)⟩
theorem M_X7_fewestTrades : MthV yX7_fewestTrades cX7_fewestTrades 1 (some .int) 0 := ⟨⟨memT 613 (by decide +kernel) (by decide +kernel), memT 1 (by decide +kernel) (by decide +kernel), ⟨by decide +kernel, by decide +kernel⟩, by decide +kernel⟩, memT 612 (by decide +kernel) (by decide +kernel), memP 14 (by decide +kernel) (by decide +kernel)⟩
theorem M_X7_flier : MthV yX7_flier cX7_flier 3 (some .int) 2 := ⟨⟨memT 533 (by decide +kernel) (by decide +kernel), memT 1 (by decide +kernel) (by decide +kernel), ⟨by decide +kernel, by decide +kernel⟩, by decide +kernel⟩, memT 531 (by decide +kernel) (by decide +kernel), memT 532 (by decide +kernel) (by decide +kernel)⟩
theorem M_X7_go : MthV yX7_go cX7_go 2 (some .int) 1 := ⟨⟨memT 328 (by decide +kernel) (by decide +kernel), memT 1 (by decide +kernel) (by decide +kernel), ⟨by decide +kernel, by decide +kernel⟩, by decide +kernel⟩, memT 326 (by decide +kernel) (by decide +kernel), memT 327 (by decide +kernel) (by decide +kernel)⟩
theorem M_X7_ifTraded : MthV yX7_ifTraded cX7_ifTraded 3 (some .int) 2 := ⟨⟨memT 544 (by decide +kernel) (by decide +kernel), memT 1 (by decide +kernel) (by decide +kernel), ⟨by decide +kernel, by decide +kernel⟩, by decide +kernel⟩, memT 542 (by decide +kernel) (by decide +kernel), memT 543 (by decide +kernel) (by decide +kernel)⟩
theorem M_X7_isAllowedInRow : MthS yX7_isAllowedInRow cX7_isAllowedInRow 2 (some .boolean) 2 := ⟨⟨memT 323 (by decide +kernel) (by decide +kernel), memT 1 (by decide +kernel) (by decide +kernel), ⟨by decide +kernel, by decide +kernel⟩, by decide +kernel⟩, memT 322 (by decide +kernel) (by decide +kernel)⟩
theorem M_X7_isLetter : MthS yX7_isLetter cX7_isLetter 1 (some .boolean) 1 := ⟨⟨memT 265 (by decide +kernel) (by decide +kernel), memT 1 (by decide +kernel) (by decide +kernel), ⟨by decide +kernel, by decide +kernel⟩, by decide +kernel⟩, memT 264 (by decide +kernel) (by decide +kernel)⟩
theorem M_X7_isSpelled : MthV yX7_isSpelled cX7_isSpelled 3 (some .boolean) 1 := ⟨⟨memT 592 (by decide +kernel) (by decide +kernel), memT 1 (by decide +kernel) (by decide +kernel), ⟨by decide +kernel, by decide +kernel⟩, by decide +kernel⟩, memT 591 (by decide +kernel) (by decide +kernel), memP 13 (by decide +kernel) (by decide +kernel)⟩
theorem M_X7_isWind : MthS yX7_isWind cX7_isWind 2 (some .boolean) 2 := ⟨⟨memT 451 (by decide +kernel) (by decide +kernel), memT 1 (by decide +kernel) (by decide +kernel), ⟨by decide +kernel, by decide +kernel⟩, by decide +kernel⟩, memT 450 (by decide +kernel) (by decide +kernel)⟩
theorem M_X7_isWithin : MthS yX7_isWithin cX7_isWithin 3 (some .boolean) 3 := ⟨⟨memT 268 (by decide +kernel) (by decide +kernel), memT 1 (by decide +kernel) (by decide +kernel), ⟨by decide +kernel, by decide +kernel⟩, by decide +kernel⟩, memT 267 (by decide +kernel) (by decide +kernel)⟩
theorem M_X7_keep : MthV yX7_keep cX7_keep 1 (some .int) 0 := ⟨⟨memT 525 (by decide +kernel) (by decide +kernel), memT 1 (by decide +kernel) (by decide +kernel), ⟨by decide +kernel, by decide +kernel⟩, by decide +kernel⟩, memT 523 (by decide +kernel) (by decide +kernel), memT 524 (by decide +kernel) (by decide +kernel)⟩
theorem M_X7_nextPlace : MthV yX7_nextPlace cX7_nextPlace 3 (some .int) 1 := ⟨⟨memT 584 (by decide +kernel) (by decide +kernel), memT 1 (by decide +kernel) (by decide +kernel), ⟨by decide +kernel, by decide +kernel⟩, by decide +kernel⟩, memT 583 (by decide +kernel) (by decide +kernel), memP 12 (by decide +kernel) (by decide +kernel)⟩
theorem M_X7_nextTrade : MthV yX7_nextTrade cX7_nextTrade 2 (some .int) 0 := ⟨⟨memT 580 (by decide +kernel) (by decide +kernel), memT 1 (by decide +kernel) (by decide +kernel), ⟨by decide +kernel, by decide +kernel⟩, by decide +kernel⟩, memT 578 (by decide +kernel) (by decide +kernel), memT 579 (by decide +kernel) (by decide +kernel)⟩
theorem M_X7_pass : MthV yX7_pass cX7_pass 4 (some .int) 1 := ⟨⟨memT 443 (by decide +kernel) (by decide +kernel), memT 1 (by decide +kernel) (by decide +kernel), ⟨by decide +kernel, by decide +kernel⟩, by decide +kernel⟩, memT 441 (by decide +kernel) (by decide +kernel), memT 442 (by decide +kernel) (by decide +kernel)⟩
theorem M_X7_pay : MthV yX7_pay cX7_pay 4 (some .int) 2 := ⟨⟨memT 353 (by decide +kernel) (by decide +kernel), memT 1 (by decide +kernel) (by decide +kernel), ⟨by decide +kernel, by decide +kernel⟩, by decide +kernel⟩, memT 351 (by decide +kernel) (by decide +kernel), memT 352 (by decide +kernel) (by decide +kernel)⟩
theorem M_X7_planTurn : MthV yX7_planTurn cX7_planTurn 4 (some .int) 3 := ⟨⟨memT 456 (by decide +kernel) (by decide +kernel), memT 1 (by decide +kernel) (by decide +kernel), ⟨by decide +kernel, by decide +kernel⟩, by decide +kernel⟩, memT 454 (by decide +kernel) (by decide +kernel), memT 455 (by decide +kernel) (by decide +kernel)⟩
theorem M_X7_readRow : MthV yX7_readRow cX7_readRow 3 (some .int) 0 := ⟨⟨memT 316 (by decide +kernel) (by decide +kernel), memT 1 (by decide +kernel) (by decide +kernel), ⟨by decide +kernel, by decide +kernel⟩, by decide +kernel⟩, memT 314 (by decide +kernel) (by decide +kernel), memT 315 (by decide +kernel) (by decide +kernel)⟩
theorem M_X7_readableKites : MthV yX7_readableKites cX7_readableKites 1 (some .int) 0 := ⟨⟨memT 474 (by decide +kernel) (by decide +kernel), memT 1 (by decide +kernel) (by decide +kernel), ⟨by decide +kernel, by decide +kernel⟩, by decide +kernel⟩, memT 473 (by decide +kernel) (by decide +kernel), memP 6 (by decide +kernel) (by decide +kernel)⟩
theorem M_X7_reads : MthV yX7_reads cX7_reads 2 (some .int) 1 := ⟨⟨memT 540 (by decide +kernel) (by decide +kernel), memT 1 (by decide +kernel) (by decide +kernel), ⟨by decide +kernel, by decide +kernel⟩, by decide +kernel⟩, memT 538 (by decide +kernel) (by decide +kernel), memT 539 (by decide +kernel) (by decide +kernel)⟩
theorem M_X7_record : MthV yX7_record cX7_record 1 none 0 := ⟨⟨memT 278 (by decide +kernel) (by decide +kernel), memT 1 (by decide +kernel) (by decide +kernel), ⟨by decide +kernel, by decide +kernel⟩, by decide +kernel⟩, memT 277 (by decide +kernel) (by decide +kernel), memP 0 (by decide +kernel) (by decide +kernel)⟩
theorem M_X7_restore : MthV yX7_restore cX7_restore 1 (some .int) 0 := ⟨⟨memT 529 (by decide +kernel) (by decide +kernel), memT 1 (by decide +kernel) (by decide +kernel), ⟨by decide +kernel, by decide +kernel⟩, by decide +kernel⟩, memT 527 (by decide +kernel) (by decide +kernel), memT 528 (by decide +kernel) (by decide +kernel)⟩
theorem M_X7_rowFault : MthV yX7_rowFault cX7_rowFault 2 (some .int) 0 := ⟨⟨memT 320 (by decide +kernel) (by decide +kernel), memT 1 (by decide +kernel) (by decide +kernel), ⟨by decide +kernel, by decide +kernel⟩, by decide +kernel⟩, memT 319 (by decide +kernel) (by decide +kernel), memP 2 (by decide +kernel) (by decide +kernel)⟩
theorem M_X7_setTangle : MthV yX7_setTangle cX7_setTangle 3 (some .int) 1 := ⟨⟨memT 492 (by decide +kernel) (by decide +kernel), memT 1 (by decide +kernel) (by decide +kernel), ⟨by decide +kernel, by decide +kernel⟩, by decide +kernel⟩, memT 490 (by decide +kernel) (by decide +kernel), memT 491 (by decide +kernel) (by decide +kernel)⟩
theorem M_X7_sideOf : MthS yX7_sideOf cX7_sideOf 2 (some .int) 2 := ⟨⟨memT 390 (by decide +kernel) (by decide +kernel), memT 1 (by decide +kernel) (by decide +kernel), ⟨by decide +kernel, by decide +kernel⟩, by decide +kernel⟩, memT 389 (by decide +kernel) (by decide +kernel)⟩
theorem M_X7_spelledIn : MthV yX7_spelledIn cX7_spelledIn 3 (some .int) 0 := ⟨⟨memT 588 (by decide +kernel) (by decide +kernel), memT 1 (by decide +kernel) (by decide +kernel), ⟨by decide +kernel, by decide +kernel⟩, by decide +kernel⟩, memT 586 (by decide +kernel) (by decide +kernel), memT 587 (by decide +kernel) (by decide +kernel)⟩
theorem M_X7_tangle : MthV yX7_tangle cX7_tangle 3 (some .int) 2 := ⟨⟨memT 605 (by decide +kernel) (by decide +kernel), memT 1 (by decide +kernel) (by decide +kernel), ⟨by decide +kernel, by decide +kernel⟩, by decide +kernel⟩, memT 603 (by decide +kernel) (by decide +kernel), memT 604 (by decide +kernel) (by decide +kernel)⟩
theorem M_X7_trade : MthV yX7_trade cX7_trade 2 (some .int) 1 := ⟨⟨memT 358 (by decide +kernel) (by decide +kernel), memT 1 (by decide +kernel) (by decide +kernel), ⟨by decide +kernel, by decide +kernel⟩, by decide +kernel⟩, memT 356 (by decide +kernel) (by decide +kernel), memT 357 (by decide +kernel) (by decide +kernel)⟩
theorem M_X7_turnOf : MthV yX7_turnOf cX7_turnOf 3 (some .int) 2 := ⟨⟨memT 601 (by decide +kernel) (by decide +kernel), memT 1 (by decide +kernel) (by decide +kernel), ⟨by decide +kernel, by decide +kernel⟩, by decide +kernel⟩, memT 599 (by decide +kernel) (by decide +kernel), memT 600 (by decide +kernel) (by decide +kernel)⟩
theorem M_X7_type : MthV yX7_type cX7_type 2 (some .int) 1 := ⟨⟨memT 513 (by decide +kernel) (by decide +kernel), memT 1 (by decide +kernel) (by decide +kernel), ⟨by decide +kernel, by decide +kernel⟩, by decide +kernel⟩, memT 511 (by decide +kernel) (by decide +kernel), memT 512 (by decide +kernel) (by decide +kernel)⟩
theorem M_X7_undo : MthV yX7_undo cX7_undo 1 (some .int) 0 := ⟨⟨memT 521 (by decide +kernel) (by decide +kernel), memT 1 (by decide +kernel) (by decide +kernel), ⟨by decide +kernel, by decide +kernel⟩, by decide +kernel⟩, memT 519 (by decide +kernel) (by decide +kernel), memT 520 (by decide +kernel) (by decide +kernel)⟩
theorem M_X7_want : MthV yX7_want cX7_want 2 (some .int) 0 := ⟨⟨memT 496 (by decide +kernel) (by decide +kernel), memT 1 (by decide +kernel) (by decide +kernel), ⟨by decide +kernel, by decide +kernel⟩, by decide +kernel⟩, memT 494 (by decide +kernel) (by decide +kernel), memT 495 (by decide +kernel) (by decide +kernel)⟩
theorem M_X7_wind : MthV yX7_wind cX7_wind 3 (some .int) 2 := ⟨⟨memT 448 (by decide +kernel) (by decide +kernel), memT 1 (by decide +kernel) (by decide +kernel), ⟨by decide +kernel, by decide +kernel⟩, by decide +kernel⟩, memT 446 (by decide +kernel) (by decide +kernel), memT 447 (by decide +kernel) (by decide +kernel)⟩
theorem M_X7_wordFault : MthV yX7_wordFault cX7_wordFault 2 (some .int) 0 := ⟨⟨memT 500 (by decide +kernel) (by decide +kernel), memT 1 (by decide +kernel) (by decide +kernel), ⟨by decide +kernel, by decide +kernel⟩, by decide +kernel⟩, memT 499 (by decide +kernel) (by decide +kernel), memP 8 (by decide +kernel) (by decide +kernel)⟩
theorem M_X0_countWrongPairs : MthV yX0_countWrongPairs cX0_countWrongPairs 5 (some .int) 1 := ⟨⟨memT 563 (by decide +kernel) (by decide +kernel), memT 8 (by decide +kernel) (by decide +kernel), ⟨by decide +kernel, by decide +kernel⟩, by decide +kernel⟩, memT 562 (by decide +kernel) (by decide +kernel), memP 10 (by decide +kernel) (by decide +kernel)⟩
theorem M_X0_fewestBehind : MthV yX0_fewestBehind cX0_fewestBehind 3 (some .int) 2 := ⟨⟨memT 575 (by decide +kernel) (by decide +kernel), memT 8 (by decide +kernel) (by decide +kernel), ⟨by decide +kernel, by decide +kernel⟩, by decide +kernel⟩, memT 573 (by decide +kernel) (by decide +kernel), memT 574 (by decide +kernel) (by decide +kernel)⟩
theorem M_X0_findTargets : MthV yX0_findTargets cX0_findTargets 7 (some .boolean) 2 := ⟨⟨memT 556 (by decide +kernel) (by decide +kernel), memT 8 (by decide +kernel) (by decide +kernel), ⟨by decide +kernel, by decide +kernel⟩, by decide +kernel⟩, memT 555 (by decide +kernel) (by decide +kernel), memP 9 (by decide +kernel) (by decide +kernel)⟩
theorem M_X0_firstFree : MthS yX0_firstFree cX0_firstFree 4 (some .int) 3 := ⟨⟨memT 559 (by decide +kernel) (by decide +kernel), memT 8 (by decide +kernel) (by decide +kernel), ⟨by decide +kernel, by decide +kernel⟩, by decide +kernel⟩, memT 558 (by decide +kernel) (by decide +kernel)⟩
theorem M_X0_isGood : MthV yX0_isGood cX0_isGood 2 (some .boolean) 1 := ⟨⟨memT 571 (by decide +kernel) (by decide +kernel), memT 8 (by decide +kernel) (by decide +kernel), ⟨by decide +kernel, by decide +kernel⟩, by decide +kernel⟩, memT 569 (by decide +kernel) (by decide +kernel), memT 570 (by decide +kernel) (by decide +kernel)⟩
theorem M_X0_isWrongPair : MthV yX0_isWrongPair cX0_isWrongPair 3 (some .boolean) 2 := ⟨⟨memT 567 (by decide +kernel) (by decide +kernel), memT 8 (by decide +kernel) (by decide +kernel), ⟨by decide +kernel, by decide +kernel⟩, by decide +kernel⟩, memT 566 (by decide +kernel) (by decide +kernel), memP 11 (by decide +kernel) (by decide +kernel)⟩
theorem M_X0_match : MthV yX0_match cX0_match 2 none 1 := ⟨⟨memT 552 (by decide +kernel) (by decide +kernel), memT 8 (by decide +kernel) (by decide +kernel), ⟨by decide +kernel, by decide +kernel⟩, by decide +kernel⟩, memT 550 (by decide +kernel) (by decide +kernel), memT 551 (by decide +kernel) (by decide +kernel)⟩
theorem M_X1_copyFrom : MthV yX1_copyFrom cX1_copyFrom 2 none 1 := ⟨⟨memT 297 (by decide +kernel) (by decide +kernel), memT 4 (by decide +kernel) (by decide +kernel), ⟨by decide +kernel, by decide +kernel⟩, by decide +kernel⟩, memT 295 (by decide +kernel) (by decide +kernel), memT 296 (by decide +kernel) (by decide +kernel)⟩
theorem M_X1_insert : MthV yX1_insert cX1_insert 5 none 3 := ⟨⟨memT 461 (by decide +kernel) (by decide +kernel), memT 4 (by decide +kernel) (by decide +kernel), ⟨by decide +kernel, by decide +kernel⟩, by decide +kernel⟩, memT 459 (by decide +kernel) (by decide +kernel), memT 460 (by decide +kernel) (by decide +kernel)⟩
theorem M_X1_move : MthV yX1_move cX1_move 3 none 2 := ⟨⟨memT 432 (by decide +kernel) (by decide +kernel), memT 4 (by decide +kernel) (by decide +kernel), ⟨by decide +kernel, by decide +kernel⟩, by decide +kernel⟩, memT 431 (by decide +kernel) (by decide +kernel), memP 5 (by decide +kernel) (by decide +kernel)⟩
theorem M_X1_rankOf : MthV yX1_rankOf cX1_rankOf 3 (some .int) 1 := ⟨⟨memT 424 (by decide +kernel) (by decide +kernel), memT 4 (by decide +kernel) (by decide +kernel), ⟨by decide +kernel, by decide +kernel⟩, by decide +kernel⟩, memT 422 (by decide +kernel) (by decide +kernel), memT 423 (by decide +kernel) (by decide +kernel)⟩
theorem M_X1_remove : MthV yX1_remove cX1_remove 3 none 1 := ⟨⟨memT 428 (by decide +kernel) (by decide +kernel), memT 4 (by decide +kernel) (by decide +kernel), ⟨by decide +kernel, by decide +kernel⟩, by decide +kernel⟩, memT 426 (by decide +kernel) (by decide +kernel), memT 427 (by decide +kernel) (by decide +kernel)⟩
theorem M_X2_insert : MthV yX2_insert cX2_insert 7 none 3 := ⟨⟨memT 487 (by decide +kernel) (by decide +kernel), memT 7 (by decide +kernel) (by decide +kernel), ⟨by decide +kernel, by decide +kernel⟩, by decide +kernel⟩, memT 486 (by decide +kernel) (by decide +kernel), memP 7 (by decide +kernel) (by decide +kernel)⟩
theorem M_X2_look : MthV yX2_look cX2_look 4 none 1 := ⟨⟨memT 478 (by decide +kernel) (by decide +kernel), memT 7 (by decide +kernel) (by decide +kernel), ⟨by decide +kernel, by decide +kernel⟩, by decide +kernel⟩, memT 476 (by decide +kernel) (by decide +kernel), memT 477 (by decide +kernel) (by decide +kernel)⟩
theorem M_X3_append : MthV yX3_append cX3_append 3 none 2 := ⟨⟨memT 312 (by decide +kernel) (by decide +kernel), memT 3 (by decide +kernel) (by decide +kernel), ⟨by decide +kernel, by decide +kernel⟩, by decide +kernel⟩, memT 310 (by decide +kernel) (by decide +kernel), memT 311 (by decide +kernel) (by decide +kernel)⟩
theorem M_X3_canBeRead : MthV yX3_canBeRead cX3_canBeRead 5 (some .boolean) 2 := ⟨⟨memT 483 (by decide +kernel) (by decide +kernel), memT 3 (by decide +kernel) (by decide +kernel), ⟨by decide +kernel, by decide +kernel⟩, by decide +kernel⟩, memT 481 (by decide +kernel) (by decide +kernel), memT 482 (by decide +kernel) (by decide +kernel)⟩
theorem M_X3_copyFrom : MthV yX3_copyFrom cX3_copyFrom 2 none 1 := ⟨⟨memT 290 (by decide +kernel) (by decide +kernel), memT 3 (by decide +kernel) (by decide +kernel), ⟨by decide +kernel, by decide +kernel⟩, by decide +kernel⟩, memT 288 (by decide +kernel) (by decide +kernel), memT 289 (by decide +kernel) (by decide +kernel)⟩
theorem M_X3_hasPairAt : MthV yX3_hasPairAt cX3_hasPairAt 2 (some .boolean) 1 := ⟨⟨memT 362 (by decide +kernel) (by decide +kernel), memT 3 (by decide +kernel) (by decide +kernel), ⟨by decide +kernel, by decide +kernel⟩, by decide +kernel⟩, memT 360 (by decide +kernel) (by decide +kernel), memT 361 (by decide +kernel) (by decide +kernel)⟩
theorem M_X3_hasPlace : MthV yX3_hasPlace cX3_hasPlace 2 (some .boolean) 1 := ⟨⟨memT 332 (by decide +kernel) (by decide +kernel), memT 3 (by decide +kernel) (by decide +kernel), ⟨by decide +kernel, by decide +kernel⟩, by decide +kernel⟩, memT 330 (by decide +kernel) (by decide +kernel), memT 331 (by decide +kernel) (by decide +kernel)⟩
theorem M_X3_hasRoomFor : MthV yX3_hasRoomFor cX3_hasRoomFor 2 (some .boolean) 1 := ⟨⟨memT 273 (by decide +kernel) (by decide +kernel), memT 3 (by decide +kernel) (by decide +kernel), ⟨by decide +kernel, by decide +kernel⟩, by decide +kernel⟩, memT 271 (by decide +kernel) (by decide +kernel), memT 272 (by decide +kernel) (by decide +kernel)⟩
theorem M_X3_isPairFree : MthV yX3_isPairFree cX3_isPairFree 2 (some .boolean) 1 := ⟨⟨memT 366 (by decide +kernel) (by decide +kernel), memT 3 (by decide +kernel) (by decide +kernel), ⟨by decide +kernel, by decide +kernel⟩, by decide +kernel⟩, memT 364 (by decide +kernel) (by decide +kernel), memT 365 (by decide +kernel) (by decide +kernel)⟩
theorem M_X3_isTangled : MthV yX3_isTangled cX3_isTangled 2 (some .boolean) 1 := ⟨⟨memT 337 (by decide +kernel) (by decide +kernel), memT 3 (by decide +kernel) (by decide +kernel), ⟨by decide +kernel, by decide +kernel⟩, by decide +kernel⟩, memT 335 (by decide +kernel) (by decide +kernel), memT 336 (by decide +kernel) (by decide +kernel)⟩
theorem M_X3_loosen : MthV yX3_loosen cX3_loosen 2 none 0 := ⟨⟨memT 420 (by decide +kernel) (by decide +kernel), memT 3 (by decide +kernel) (by decide +kernel), ⟨by decide +kernel, by decide +kernel⟩, by decide +kernel⟩, memT 418 (by decide +kernel) (by decide +kernel), memT 419 (by decide +kernel) (by decide +kernel)⟩
theorem M_X3_remove : MthV yX3_remove cX3_remove 3 none 1 := ⟨⟨memT 342 (by decide +kernel) (by decide +kernel), memT 3 (by decide +kernel) (by decide +kernel), ⟨by decide +kernel, by decide +kernel⟩, by decide +kernel⟩, memT 340 (by decide +kernel) (by decide +kernel), memT 341 (by decide +kernel) (by decide +kernel)⟩
theorem M_X3_shownAt : MthV yX3_shownAt cX3_shownAt 3 (some .int) 2 := ⟨⟨memT 387 (by decide +kernel) (by decide +kernel), memT 3 (by decide +kernel) (by decide +kernel), ⟨by decide +kernel, by decide +kernel⟩, by decide +kernel⟩, memT 385 (by decide +kernel) (by decide +kernel), memT 386 (by decide +kernel) (by decide +kernel)⟩
theorem M_X3_sideAt : MthV yX3_sideAt cX3_sideAt 3 (some .int) 2 := ⟨⟨memT 383 (by decide +kernel) (by decide +kernel), memT 3 (by decide +kernel) (by decide +kernel), ⟨by decide +kernel, by decide +kernel⟩, by decide +kernel⟩, memT 381 (by decide +kernel) (by decide +kernel), memT 382 (by decide +kernel) (by decide +kernel)⟩
theorem M_X3_swap : MthV yX3_swap cX3_swap 2 none 1 := ⟨⟨memT 394 (by decide +kernel) (by decide +kernel), memT 3 (by decide +kernel) (by decide +kernel), ⟨by decide +kernel, by decide +kernel⟩, by decide +kernel⟩, memT 392 (by decide +kernel) (by decide +kernel), memT 393 (by decide +kernel) (by decide +kernel)⟩
theorem M_X3_swapEntries : MthV yX3_swapEntries cX3_swapEntries 2 none 1 := ⟨⟨memT 346 (by decide +kernel) (by decide +kernel), memT 3 (by decide +kernel) (by decide +kernel), ⟨by decide +kernel, by decide +kernel⟩, by decide +kernel⟩, memT 345 (by decide +kernel) (by decide +kernel), memP 3 (by decide +kernel) (by decide +kernel)⟩
theorem M_X3_swapWithNext : MthS yX3_swapWithNext cX3_swapWithNext 3 none 2 := ⟨⟨memT 349 (by decide +kernel) (by decide +kernel), memT 3 (by decide +kernel) (by decide +kernel), ⟨by decide +kernel, by decide +kernel⟩, by decide +kernel⟩, memT 348 (by decide +kernel) (by decide +kernel)⟩
theorem M_X3_tie : MthV yX3_tie cX3_tie 3 none 2 := ⟨⟨memT 402 (by decide +kernel) (by decide +kernel), memT 3 (by decide +kernel) (by decide +kernel), ⟨by decide +kernel, by decide +kernel⟩, by decide +kernel⟩, memT 400 (by decide +kernel) (by decide +kernel), memT 401 (by decide +kernel) (by decide +kernel)⟩
theorem M_X3_wouldTangle : MthV yX3_wouldTangle cX3_wouldTangle 5 (some .boolean) 2 := ⟨⟨memT 379 (by decide +kernel) (by decide +kernel), memT 3 (by decide +kernel) (by decide +kernel), ⟨by decide +kernel, by decide +kernel⟩, by decide +kernel⟩, memT 377 (by decide +kernel) (by decide +kernel), memT 378 (by decide +kernel) (by decide +kernel)⟩
theorem M_X4_copyFrom : MthV yX4_copyFrom cX4_copyFrom 2 none 1 := ⟨⟨memT 286 (by decide +kernel) (by decide +kernel), memT 2 (by decide +kernel) (by decide +kernel), ⟨by decide +kernel, by decide +kernel⟩, by decide +kernel⟩, memT 284 (by decide +kernel) (by decide +kernel), memT 285 (by decide +kernel) (by decide +kernel)⟩
theorem M_X4_drift : MthV yX4_drift cX4_drift 1 (some .int) 0 := ⟨⟨memT 375 (by decide +kernel) (by decide +kernel), memT 2 (by decide +kernel) (by decide +kernel), ⟨by decide +kernel, by decide +kernel⟩, by decide +kernel⟩, memT 373 (by decide +kernel) (by decide +kernel), memT 374 (by decide +kernel) (by decide +kernel)⟩
theorem M_X4_isAtRest : MthV yX4_isAtRest cX4_isAtRest 2 (some .boolean) 0 := ⟨⟨memT 596 (by decide +kernel) (by decide +kernel), memT 2 (by decide +kernel) (by decide +kernel), ⟨by decide +kernel, by decide +kernel⟩, by decide +kernel⟩, memT 594 (by decide +kernel) (by decide +kernel), memT 595 (by decide +kernel) (by decide +kernel)⟩
theorem M_X4_isSafe : MthV yX4_isSafe cX4_isSafe 2 (some .boolean) 1 := ⟨⟨memT 548 (by decide +kernel) (by decide +kernel), memT 2 (by decide +kernel) (by decide +kernel), ⟨by decide +kernel, by decide +kernel⟩, by decide +kernel⟩, memT 546 (by decide +kernel) (by decide +kernel), memT 547 (by decide +kernel) (by decide +kernel)⟩
theorem M_X4_passMinute : MthV yX4_passMinute cX4_passMinute 4 (some .int) 0 := ⟨⟨memT 416 (by decide +kernel) (by decide +kernel), memT 2 (by decide +kernel) (by decide +kernel), ⟨by decide +kernel, by decide +kernel⟩, by decide +kernel⟩, memT 414 (by decide +kernel) (by decide +kernel), memT 415 (by decide +kernel) (by decide +kernel)⟩
theorem M_X4_tangleAt : MthV yX4_tangleAt cX4_tangleAt 3 none 2 := ⟨⟨memT 398 (by decide +kernel) (by decide +kernel), memT 2 (by decide +kernel) (by decide +kernel), ⟨by decide +kernel, by decide +kernel⟩, by decide +kernel⟩, memT 397 (by decide +kernel) (by decide +kernel), memP 4 (by decide +kernel) (by decide +kernel)⟩
theorem M_X4_tradePlaces : MthV yX4_tradePlaces cX4_tradePlaces 3 (some .boolean) 1 := ⟨⟨memT 371 (by decide +kernel) (by decide +kernel), memT 2 (by decide +kernel) (by decide +kernel), ⟨by decide +kernel, by decide +kernel⟩, by decide +kernel⟩, memT 369 (by decide +kernel) (by decide +kernel), memT 370 (by decide +kernel) (by decide +kernel)⟩
theorem M_X4_turnWind : MthV yX4_turnWind cX4_turnWind 6 (some .int) 2 := ⟨⟨memT 436 (by decide +kernel) (by decide +kernel), memT 2 (by decide +kernel) (by decide +kernel), ⟨by decide +kernel, by decide +kernel⟩, by decide +kernel⟩, memT 434 (by decide +kernel) (by decide +kernel), memT 435 (by decide +kernel) (by decide +kernel)⟩
theorem M_X5_add : MthV yX5_add cX5_add 6 none 4 := ⟨⟨memT 409 (by decide +kernel) (by decide +kernel), memT 5 (by decide +kernel) (by decide +kernel), ⟨by decide +kernel, by decide +kernel⟩, by decide +kernel⟩, memT 407 (by decide +kernel) (by decide +kernel), memT 408 (by decide +kernel) (by decide +kernel)⟩
theorem M_X5_copyFrom : MthV yX5_copyFrom cX5_copyFrom 2 none 1 := ⟨⟨memT 302 (by decide +kernel) (by decide +kernel), memT 5 (by decide +kernel) (by decide +kernel), ⟨by decide +kernel, by decide +kernel⟩, by decide +kernel⟩, memT 300 (by decide +kernel) (by decide +kernel), memT 301 (by decide +kernel) (by decide +kernel)⟩
theorem M_X6_become : MthV yX6_become cX6_become 3 none 2 := ⟨⟨memT 508 (by decide +kernel) (by decide +kernel), memT 6 (by decide +kernel) (by decide +kernel), ⟨by decide +kernel, by decide +kernel⟩, by decide +kernel⟩, memT 506 (by decide +kernel) (by decide +kernel), memT 507 (by decide +kernel) (by decide +kernel)⟩
theorem M_X6_copyFrom : MthV yX6_copyFrom cX6_copyFrom 2 none 1 := ⟨⟨memT 307 (by decide +kernel) (by decide +kernel), memT 6 (by decide +kernel) (by decide +kernel), ⟨by decide +kernel, by decide +kernel⟩, by decide +kernel⟩, memT 305 (by decide +kernel) (by decide +kernel), memT 306 (by decide +kernel) (by decide +kernel)⟩
theorem M_X6_isSame : MthV yX6_isSame cX6_isSame 4 (some .boolean) 2 := ⟨⟨memT 504 (by decide +kernel) (by decide +kernel), memT 6 (by decide +kernel) (by decide +kernel), ⟨by decide +kernel, by decide +kernel⟩, by decide +kernel⟩, memT 502 (by decide +kernel) (by decide +kernel), memT 503 (by decide +kernel) (by decide +kernel)⟩
theorem M_X8_aside : MthS yX8_aside cX8_aside 3 (some .int) 2 := ⟨⟨memT 728 (by decide +kernel) (by decide +kernel), memT 9 (by decide +kernel) (by decide +kernel), ⟨by decide +kernel, by decide +kernel⟩, by decide +kernel⟩, memT 727 (by decide +kernel) (by decide +kernel)⟩
theorem M_X8_behind : MthV yX8_behind cX8_behind 3 (some .int) 2 := ⟨⟨memT 860 (by decide +kernel) (by decide +kernel), memT 9 (by decide +kernel) (by decide +kernel), ⟨by decide +kernel, by decide +kernel⟩, by decide +kernel⟩, memT 859 (by decide +kernel) (by decide +kernel), memP 29 (by decide +kernel) (by decide +kernel)⟩
theorem M_X8_blows : MthV yX8_blows cX8_blows 6 (some .int) 3 := ⟨⟨memT 748 (by decide +kernel) (by decide +kernel), memT 9 (by decide +kernel) (by decide +kernel), ⟨by decide +kernel, by decide +kernel⟩, by decide +kernel⟩, memT 747 (by decide +kernel) (by decide +kernel), memP 22 (by decide +kernel) (by decide +kernel)⟩
theorem M_X8_clearText : MthV yX8_clearText cX8_clearText 2 (some .int) 0 := ⟨⟨memT 811 (by decide +kernel) (by decide +kernel), memT 9 (by decide +kernel) (by decide +kernel), ⟨by decide +kernel, by decide +kernel⟩, by decide +kernel⟩, memT 809 (by decide +kernel) (by decide +kernel), memT 810 (by decide +kernel) (by decide +kernel)⟩
theorem M_X8_come : MthV yX8_come cX8_come 3 (some .int) 2 := ⟨⟨memT 661 (by decide +kernel) (by decide +kernel), memT 9 (by decide +kernel) (by decide +kernel), ⟨by decide +kernel, by decide +kernel⟩, by decide +kernel⟩, memT 659 (by decide +kernel) (by decide +kernel), memT 660 (by decide +kernel) (by decide +kernel)⟩
theorem M_X8_comes : MthV yX8_comes cX8_comes 4 none 2 := ⟨⟨memT 681 (by decide +kernel) (by decide +kernel), memT 9 (by decide +kernel) (by decide +kernel), ⟨by decide +kernel, by decide +kernel⟩, by decide +kernel⟩, memT 680 (by decide +kernel) (by decide +kernel), memP 17 (by decide +kernel) (by decide +kernel)⟩
theorem M_X8_count : MthV yX8_count cX8_count 2 (some .int) 1 := ⟨⟨memT 887 (by decide +kernel) (by decide +kernel), memT 9 (by decide +kernel) (by decide +kernel), ⟨by decide +kernel, by decide +kernel⟩, by decide +kernel⟩, memT 885 (by decide +kernel) (by decide +kernel), memT 886 (by decide +kernel) (by decide +kernel)⟩
theorem M_X8_crowd : MthV yX8_crowd cX8_crowd 3 (some .int) 1 := ⟨⟨memT 781 (by decide +kernel) (by decide +kernel), memT 9 (by decide +kernel) (by decide +kernel), ⟨by decide +kernel, by decide +kernel⟩, by decide +kernel⟩, memT 779 (by decide +kernel) (by decide +kernel), memT 780 (by decide +kernel) (by decide +kernel)⟩
theorem M_X8_dropTurn : MthV yX8_dropTurn cX8_dropTurn 3 (some .int) 1 := ⟨⟨memT 777 (by decide +kernel) (by decide +kernel), memT 9 (by decide +kernel) (by decide +kernel), ⟨by decide +kernel, by decide +kernel⟩, by decide +kernel⟩, memT 775 (by decide +kernel) (by decide +kernel), memT 776 (by decide +kernel) (by decide +kernel)⟩
theorem M_X8_dropsTurn : MthS yX8_dropsTurn cX8_dropsTurn 3 none 2 := ⟨⟨memT 744 (by decide +kernel) (by decide +kernel), memT 9 (by decide +kernel) (by decide +kernel), ⟨by decide +kernel, by decide +kernel⟩, by decide +kernel⟩, memT 743 (by decide +kernel) (by decide +kernel)⟩
theorem M_X8_fewest : MthV yX8_fewest cX8_fewest 5 (some .int) 1 := ⟨⟨memT 849 (by decide +kernel) (by decide +kernel), memT 9 (by decide +kernel) (by decide +kernel), ⟨by decide +kernel, by decide +kernel⟩, by decide +kernel⟩, memT 848 (by decide +kernel) (by decide +kernel), memP 27 (by decide +kernel) (by decide +kernel)⟩
theorem M_X8_flier : MthV yX8_flier cX8_flier 3 (some .int) 2 := ⟨⟨memT 827 (by decide +kernel) (by decide +kernel), memT 9 (by decide +kernel) (by decide +kernel), ⟨by decide +kernel, by decide +kernel⟩, by decide +kernel⟩, memT 825 (by decide +kernel) (by decide +kernel), memT 826 (by decide +kernel) (by decide +kernel)⟩
theorem M_X8_go : MthV yX8_go cX8_go 3 (some .int) 1 := ⟨⟨memT 698 (by decide +kernel) (by decide +kernel), memT 9 (by decide +kernel) (by decide +kernel), ⟨by decide +kernel, by decide +kernel⟩, by decide +kernel⟩, memT 696 (by decide +kernel) (by decide +kernel), memT 697 (by decide +kernel) (by decide +kernel)⟩
theorem M_X8_ifTraded : MthV yX8_ifTraded cX8_ifTraded 5 (some .int) 2 := ⟨⟨memT 842 (by decide +kernel) (by decide +kernel), memT 9 (by decide +kernel) (by decide +kernel), ⟨by decide +kernel, by decide +kernel⟩, by decide +kernel⟩, memT 840 (by decide +kernel) (by decide +kernel), memT 841 (by decide +kernel) (by decide +kernel)⟩
theorem M_X8_in : MthS yX8_in cX8_in 3 (some .boolean) 3 := ⟨⟨memT 664 (by decide +kernel) (by decide +kernel), memT 9 (by decide +kernel) (by decide +kernel), ⟨by decide +kernel, by decide +kernel⟩, by decide +kernel⟩, memT 663 (by decide +kernel) (by decide +kernel)⟩
theorem M_X8_isPlace : MthV yX8_isPlace cX8_isPlace 2 (some .boolean) 1 := ⟨⟨memT 702 (by decide +kernel) (by decide +kernel), memT 9 (by decide +kernel) (by decide +kernel), ⟨by decide +kernel, by decide +kernel⟩, by decide +kernel⟩, memT 701 (by decide +kernel) (by decide +kernel), memP 19 (by decide +kernel) (by decide +kernel)⟩
theorem M_X8_isRead : MthS yX8_isRead cX8_isRead 4 (some .boolean) 2 := ⟨⟨memT 787 (by decide +kernel) (by decide +kernel), memT 9 (by decide +kernel) (by decide +kernel), ⟨by decide +kernel, by decide +kernel⟩, by decide +kernel⟩, memT 786 (by decide +kernel) (by decide +kernel)⟩
theorem M_X8_isRoom : MthV yX8_isRoom cX8_isRoom 2 (some .boolean) 1 := ⟨⟨memT 669 (by decide +kernel) (by decide +kernel), memT 9 (by decide +kernel) (by decide +kernel), ⟨by decide +kernel, by decide +kernel⟩, by decide +kernel⟩, memT 668 (by decide +kernel) (by decide +kernel), memP 15 (by decide +kernel) (by decide +kernel)⟩
theorem M_X8_isSafe : MthS yX8_isSafe cX8_isSafe 2 (some .boolean) 2 := ⟨⟨memT 845 (by decide +kernel) (by decide +kernel), memT 9 (by decide +kernel) (by decide +kernel), ⟨by decide +kernel, by decide +kernel⟩, by decide +kernel⟩, memT 844 (by decide +kernel) (by decide +kernel)⟩
theorem M_X8_isSpelled : MthS yX8_isSpelled cX8_isSpelled 3 (some .boolean) 1 := ⟨⟨memT 875 (by decide +kernel) (by decide +kernel), memT 9 (by decide +kernel) (by decide +kernel), ⟨by decide +kernel, by decide +kernel⟩, by decide +kernel⟩, memT 874 (by decide +kernel) (by decide +kernel)⟩
theorem M_X8_isTangled : MthS yX8_isTangled cX8_isTangled 2 (some .boolean) 2 := ⟨⟨memT 706 (by decide +kernel) (by decide +kernel), memT 9 (by decide +kernel) (by decide +kernel), ⟨by decide +kernel, by decide +kernel⟩, by decide +kernel⟩, memT 705 (by decide +kernel) (by decide +kernel)⟩
theorem M_X8_isWind : MthS yX8_isWind cX8_isWind 2 (some .boolean) 2 := ⟨⟨memT 765 (by decide +kernel) (by decide +kernel), memT 9 (by decide +kernel) (by decide +kernel), ⟨by decide +kernel, by decide +kernel⟩, by decide +kernel⟩, memT 764 (by decide +kernel) (by decide +kernel)⟩
theorem M_X8_isWord : MthV yX8_isWord cX8_isWord 3 (some .boolean) 0 := ⟨⟨memT 803 (by decide +kernel) (by decide +kernel), memT 9 (by decide +kernel) (by decide +kernel), ⟨by decide +kernel, by decide +kernel⟩, by decide +kernel⟩, memT 802 (by decide +kernel) (by decide +kernel), memP 25 (by decide +kernel) (by decide +kernel)⟩
theorem M_X8_keep : MthV yX8_keep cX8_keep 1 (some .int) 0 := ⟨⟨memT 819 (by decide +kernel) (by decide +kernel), memT 9 (by decide +kernel) (by decide +kernel), ⟨by decide +kernel, by decide +kernel⟩, by decide +kernel⟩, memT 817 (by decide +kernel) (by decide +kernel), memT 818 (by decide +kernel) (by decide +kernel)⟩
theorem M_X8_lays : MthS yX8_lays cX8_lays 5 none 4 := ⟨⟨memT 677 (by decide +kernel) (by decide +kernel), memT 9 (by decide +kernel) (by decide +kernel), ⟨by decide +kernel, by decide +kernel⟩, by decide +kernel⟩, memT 676 (by decide +kernel) (by decide +kernel)⟩
theorem M_X8_laysGoal : MthV yX8_laysGoal cX8_laysGoal 5 (some .boolean) 1 := ⟨⟨memT 853 (by decide +kernel) (by decide +kernel), memT 9 (by decide +kernel) (by decide +kernel), ⟨by decide +kernel, by decide +kernel⟩, by decide +kernel⟩, memT 852 (by decide +kernel) (by decide +kernel), memP 28 (by decide +kernel) (by decide +kernel)⟩
theorem M_X8_letterAt : MthS yX8_letterAt cX8_letterAt 2 (some .int) 2 := ⟨⟨memT 856 (by decide +kernel) (by decide +kernel), memT 9 (by decide +kernel) (by decide +kernel), ⟨by decide +kernel, by decide +kernel⟩, by decide +kernel⟩, memT 855 (by decide +kernel) (by decide +kernel)⟩
theorem M_X8_logs : MthS yX8_logs cX8_logs 4 none 3 := ⟨⟨memT 737 (by decide +kernel) (by decide +kernel), memT 9 (by decide +kernel) (by decide +kernel), ⟨by decide +kernel, by decide +kernel⟩, by decide +kernel⟩, memT 736 (by decide +kernel) (by decide +kernel)⟩
theorem M_X8_minute : MthV yX8_minute cX8_minute 4 (some .int) 1 := ⟨⟨memT 741 (by decide +kernel) (by decide +kernel), memT 9 (by decide +kernel) (by decide +kernel), ⟨by decide +kernel, by decide +kernel⟩, by decide +kernel⟩, memT 740 (by decide +kernel) (by decide +kernel), memP 21 (by decide +kernel) (by decide +kernel)⟩
theorem M_X8_next : MthV yX8_next cX8_next 4 (some .int) 1 := ⟨⟨memT 868 (by decide +kernel) (by decide +kernel), memT 9 (by decide +kernel) (by decide +kernel), ⟨by decide +kernel, by decide +kernel⟩, by decide +kernel⟩, memT 867 (by decide +kernel) (by decide +kernel), memP 30 (by decide +kernel) (by decide +kernel)⟩
theorem M_X8_nextTrade : MthV yX8_nextTrade cX8_nextTrade 1 (some .int) 0 := ⟨⟨memT 864 (by decide +kernel) (by decide +kernel), memT 9 (by decide +kernel) (by decide +kernel), ⟨by decide +kernel, by decide +kernel⟩, by decide +kernel⟩, memT 862 (by decide +kernel) (by decide +kernel), memT 863 (by decide +kernel) (by decide +kernel)⟩
theorem M_X8_of : MthS yX8_of cX8_of 3 (some .int) 3 := ⟨⟨memT 709 (by decide +kernel) (by decide +kernel), memT 9 (by decide +kernel) (by decide +kernel), ⟨by decide +kernel, by decide +kernel⟩, by decide +kernel⟩, memT 708 (by decide +kernel) (by decide +kernel)⟩
theorem M_X8_partner : MthV yX8_partner cX8_partner 4 (some .int) 1 := ⟨⟨memT 831 (by decide +kernel) (by decide +kernel), memT 9 (by decide +kernel) (by decide +kernel), ⟨by decide +kernel, by decide +kernel⟩, by decide +kernel⟩, memT 830 (by decide +kernel) (by decide +kernel), memP 26 (by decide +kernel) (by decide +kernel)⟩
theorem M_X8_pass : MthV yX8_pass cX8_pass 4 (some .int) 1 := ⟨⟨memT 758 (by decide +kernel) (by decide +kernel), memT 9 (by decide +kernel) (by decide +kernel), ⟨by decide +kernel, by decide +kernel⟩, by decide +kernel⟩, memT 756 (by decide +kernel) (by decide +kernel), memT 757 (by decide +kernel) (by decide +kernel)⟩
theorem M_X8_pay : MthV yX8_pay cX8_pay 4 (some .int) 2 := ⟨⟨memT 714 (by decide +kernel) (by decide +kernel), memT 9 (by decide +kernel) (by decide +kernel), ⟨by decide +kernel, by decide +kernel⟩, by decide +kernel⟩, memT 712 (by decide +kernel) (by decide +kernel), memT 713 (by decide +kernel) (by decide +kernel)⟩
theorem M_X8_planTurn : MthV yX8_planTurn cX8_planTurn 6 (some .int) 3 := ⟨⟨memT 769 (by decide +kernel) (by decide +kernel), memT 9 (by decide +kernel) (by decide +kernel), ⟨by decide +kernel, by decide +kernel⟩, by decide +kernel⟩, memT 767 (by decide +kernel) (by decide +kernel), memT 768 (by decide +kernel) (by decide +kernel)⟩
theorem M_X8_puts : MthS yX8_puts cX8_puts 4 none 4 := ⟨⟨memT 684 (by decide +kernel) (by decide +kernel), memT 9 (by decide +kernel) (by decide +kernel), ⟨by decide +kernel, by decide +kernel⟩, by decide +kernel⟩, memT 683 (by decide +kernel) (by decide +kernel)⟩
theorem M_X8_ranked : MthS yX8_ranked cX8_ranked 6 (some .int) 2 := ⟨⟨memT 838 (by decide +kernel) (by decide +kernel), memT 9 (by decide +kernel) (by decide +kernel), ⟨by decide +kernel, by decide +kernel⟩, by decide +kernel⟩, memT 837 (by decide +kernel) (by decide +kernel)⟩
theorem M_X8_readRow : MthV yX8_readRow cX8_readRow 4 (some .int) 0 := ⟨⟨memT 688 (by decide +kernel) (by decide +kernel), memT 9 (by decide +kernel) (by decide +kernel), ⟨by decide +kernel, by decide +kernel⟩, by decide +kernel⟩, memT 686 (by decide +kernel) (by decide +kernel), memT 687 (by decide +kernel) (by decide +kernel)⟩
theorem M_X8_readable : MthS yX8_readable cX8_readable 3 (some .int) 1 := ⟨⟨memT 784 (by decide +kernel) (by decide +kernel), memT 9 (by decide +kernel) (by decide +kernel), ⟨by decide +kernel, by decide +kernel⟩, by decide +kernel⟩, memT 783 (by decide +kernel) (by decide +kernel)⟩
theorem M_X8_reads : MthV yX8_reads cX8_reads 3 (some .int) 1 := ⟨⟨memT 835 (by decide +kernel) (by decide +kernel), memT 9 (by decide +kernel) (by decide +kernel), ⟨by decide +kernel, by decide +kernel⟩, by decide +kernel⟩, memT 833 (by decide +kernel) (by decide +kernel), memT 834 (by decide +kernel) (by decide +kernel)⟩
theorem M_X8_records : MthV yX8_records cX8_records 2 none 0 := ⟨⟨memT 674 (by decide +kernel) (by decide +kernel), memT 9 (by decide +kernel) (by decide +kernel), ⟨by decide +kernel, by decide +kernel⟩, by decide +kernel⟩, memT 673 (by decide +kernel) (by decide +kernel), memP 16 (by decide +kernel) (by decide +kernel)⟩
theorem M_X8_relation : MthS yX8_relation cX8_relation 3 (some .int) 2 := ⟨⟨memT 751 (by decide +kernel) (by decide +kernel), memT 9 (by decide +kernel) (by decide +kernel), ⟨by decide +kernel, by decide +kernel⟩, by decide +kernel⟩, memT 750 (by decide +kernel) (by decide +kernel)⟩
theorem M_X8_restore : MthV yX8_restore cX8_restore 1 (some .int) 0 := ⟨⟨memT 823 (by decide +kernel) (by decide +kernel), memT 9 (by decide +kernel) (by decide +kernel), ⟨by decide +kernel, by decide +kernel⟩, by decide +kernel⟩, memT 821 (by decide +kernel) (by decide +kernel), memT 822 (by decide +kernel) (by decide +kernel)⟩
theorem M_X8_rowFault : MthV yX8_rowFault cX8_rowFault 3 (some .int) 0 := ⟨⟨memT 692 (by decide +kernel) (by decide +kernel), memT 9 (by decide +kernel) (by decide +kernel), ⟨by decide +kernel, by decide +kernel⟩, by decide +kernel⟩, memT 691 (by decide +kernel) (by decide +kernel), memP 18 (by decide +kernel) (by decide +kernel)⟩
theorem M_X8_setTangle : MthV yX8_setTangle cX8_setTangle 3 (some .int) 1 := ⟨⟨memT 791 (by decide +kernel) (by decide +kernel), memT 9 (by decide +kernel) (by decide +kernel), ⟨by decide +kernel, by decide +kernel⟩, by decide +kernel⟩, memT 789 (by decide +kernel) (by decide +kernel), memT 790 (by decide +kernel) (by decide +kernel)⟩
theorem M_X8_shown : MthS yX8_shown cX8_shown 2 (some .int) 2 := ⟨⟨memT 754 (by decide +kernel) (by decide +kernel), memT 9 (by decide +kernel) (by decide +kernel), ⟨by decide +kernel, by decide +kernel⟩, by decide +kernel⟩, memT 753 (by decide +kernel) (by decide +kernel)⟩
theorem M_X8_spelledIn : MthV yX8_spelledIn cX8_spelledIn 5 (some .int) 0 := ⟨⟨memT 872 (by decide +kernel) (by decide +kernel), memT 9 (by decide +kernel) (by decide +kernel), ⟨by decide +kernel, by decide +kernel⟩, by decide +kernel⟩, memT 870 (by decide +kernel) (by decide +kernel), memT 871 (by decide +kernel) (by decide +kernel)⟩
theorem M_X8_swaps : MthS yX8_swaps cX8_swaps 4 none 2 := ⟨⟨memT 731 (by decide +kernel) (by decide +kernel), memT 9 (by decide +kernel) (by decide +kernel), ⟨by decide +kernel, by decide +kernel⟩, by decide +kernel⟩, memT 730 (by decide +kernel) (by decide +kernel)⟩
theorem M_X8_tangle : MthV yX8_tangle cX8_tangle 3 (some .int) 2 := ⟨⟨memT 883 (by decide +kernel) (by decide +kernel), memT 9 (by decide +kernel) (by decide +kernel), ⟨by decide +kernel, by decide +kernel⟩, by decide +kernel⟩, memT 881 (by decide +kernel) (by decide +kernel), memT 882 (by decide +kernel) (by decide +kernel)⟩
theorem M_X8_tangles : MthS yX8_tangles cX8_tangles 3 none 3 := ⟨⟨memT 734 (by decide +kernel) (by decide +kernel), memT 9 (by decide +kernel) (by decide +kernel), ⟨by decide +kernel, by decide +kernel⟩, by decide +kernel⟩, memT 733 (by decide +kernel) (by decide +kernel)⟩
theorem M_X8_trade : MthV yX8_trade cX8_trade 2 (some .int) 1 := ⟨⟨memT 718 (by decide +kernel) (by decide +kernel), memT 9 (by decide +kernel) (by decide +kernel), ⟨by decide +kernel, by decide +kernel⟩, by decide +kernel⟩, memT 716 (by decide +kernel) (by decide +kernel), memT 717 (by decide +kernel) (by decide +kernel)⟩
theorem M_X8_trades : MthV yX8_trades cX8_trades 5 (some .boolean) 2 := ⟨⟨memT 722 (by decide +kernel) (by decide +kernel), memT 9 (by decide +kernel) (by decide +kernel), ⟨by decide +kernel, by decide +kernel⟩, by decide +kernel⟩, memT 721 (by decide +kernel) (by decide +kernel), memP 20 (by decide +kernel) (by decide +kernel)⟩
theorem M_X8_turnAt : MthV yX8_turnAt cX8_turnAt 4 (some .int) 1 := ⟨⟨memT 773 (by decide +kernel) (by decide +kernel), memT 9 (by decide +kernel) (by decide +kernel), ⟨by decide +kernel, by decide +kernel⟩, by decide +kernel⟩, memT 772 (by decide +kernel) (by decide +kernel), memP 23 (by decide +kernel) (by decide +kernel)⟩
theorem M_X8_turnOf : MthV yX8_turnOf cX8_turnOf 3 (some .int) 2 := ⟨⟨memT 879 (by decide +kernel) (by decide +kernel), memT 9 (by decide +kernel) (by decide +kernel), ⟨by decide +kernel, by decide +kernel⟩, by decide +kernel⟩, memT 877 (by decide +kernel) (by decide +kernel), memT 878 (by decide +kernel) (by decide +kernel)⟩
theorem M_X8_type : MthV yX8_type cX8_type 2 (some .int) 1 := ⟨⟨memT 807 (by decide +kernel) (by decide +kernel), memT 9 (by decide +kernel) (by decide +kernel), ⟨by decide +kernel, by decide +kernel⟩, by decide +kernel⟩, memT 805 (by decide +kernel) (by decide +kernel), memT 806 (by decide +kernel) (by decide +kernel)⟩
theorem M_X8_undo : MthV yX8_undo cX8_undo 1 (some .int) 0 := ⟨⟨memT 815 (by decide +kernel) (by decide +kernel), memT 9 (by decide +kernel) (by decide +kernel), ⟨by decide +kernel, by decide +kernel⟩, by decide +kernel⟩, memT 813 (by decide +kernel) (by decide +kernel), memT 814 (by decide +kernel) (by decide +kernel)⟩
theorem M_X8_want : MthV yX8_want cX8_want 3 (some .int) 0 := ⟨⟨memT 795 (by decide +kernel) (by decide +kernel), memT 9 (by decide +kernel) (by decide +kernel), ⟨by decide +kernel, by decide +kernel⟩, by decide +kernel⟩, memT 793 (by decide +kernel) (by decide +kernel), memT 794 (by decide +kernel) (by decide +kernel)⟩
theorem M_X8_wind : MthV yX8_wind cX8_wind 3 (some .int) 2 := ⟨⟨memT 762 (by decide +kernel) (by decide +kernel), memT 9 (by decide +kernel) (by decide +kernel), ⟨by decide +kernel, by decide +kernel⟩, by decide +kernel⟩, memT 760 (by decide +kernel) (by decide +kernel), memT 761 (by decide +kernel) (by decide +kernel)⟩
theorem M_X8_wordFault : MthV yX8_wordFault cX8_wordFault 2 (some .int) 0 := ⟨⟨memT 799 (by decide +kernel) (by decide +kernel), memT 9 (by decide +kernel) (by decide +kernel), ⟨by decide +kernel, by decide +kernel⟩, by decide +kernel⟩, memT 798 (by decide +kernel) (by decide +kernel), memP 24 (by decide +kernel) (by decide +kernel)⟩
theorem M_X8_wouldTangle : MthS yX8_wouldTangle cX8_wouldTangle 6 (some .boolean) 2 := ⟨⟨memT 725 (by decide +kernel) (by decide +kernel), memT 9 (by decide +kernel) (by decide +kernel), ⟨by decide +kernel, by decide +kernel⟩, by decide +kernel⟩, memT 724 (by decide +kernel) (by decide +kernel)⟩
theorem ml_X7_55 : Cond.methodLink RX7 55 yX7_isLetter ∈ wsA := memT 263 (by decide +kernel) (by decide +kernel)
theorem v_X7_55 {X : CX} {σ : HP} {pc : Nat} {lv : List (Nat × Value)} {st : List Value} {cc : ByteArray} {nl fr lo : Nat} {ret : Option FieldType} {v : Option Value} {σe : HP} (hX : OkX X RX7 cc nl fr lo ret v σe) {a1 : Value} {r : Int32} {σ2 : HP} {fr2 lo2 : Nat} (hC : Ct X.1 yX7_isLetter cX7_isLetter 1 (some .boolean) fr2 lo2 [a1] σ (some (.int r)) σ2) (hfr : fr2 + 1 ≤ fr) (hlo : 8 + (1 + 11) + lo2 ≤ lo) (hW : (st.map fun v => v.category).sum ≤ 8) (hdg : decode cc pc = .ok (.invokestatic 55, 3)) (k : Z X σ2 (pc + 3) lv (.int r :: st)) : Z X σ pc lv (a1 :: st) := z_callS hX M_X7_isLetter ml_X7_55 hC rfl hfr hlo rfl hW hdg k
theorem ml_X7_59 : Cond.methodLink RX7 59 yX7_isWithin ∈ wsA := memT 266 (by decide +kernel) (by decide +kernel)
theorem v_X7_59 {X : CX} {σ : HP} {pc : Nat} {lv : List (Nat × Value)} {st : List Value} {cc : ByteArray} {nl fr lo : Nat} {ret : Option FieldType} {v : Option Value} {σe : HP} (hX : OkX X RX7 cc nl fr lo ret v σe) {a1 a2 a3 : Value} {r : Int32} {σ2 : HP} {fr2 lo2 : Nat} (hC : Ct X.1 yX7_isWithin cX7_isWithin 3 (some .boolean) fr2 lo2 [a1, a2, a3] σ (some (.int r)) σ2) (hfr : fr2 + 1 ≤ fr) (hlo : 8 + (3 + 11) + lo2 ≤ lo) (hW : (st.map fun v => v.category).sum ≤ 8) (hdg : decode cc pc = .ok (.invokestatic 59, 3)) (k : Z X σ2 (pc + 3) lv (.int r :: st)) : Z X σ pc lv (a3 :: a2 :: a1 :: st) := z_callS hX M_X7_isWithin ml_X7_59 hC rfl hfr hlo rfl hW hdg k
theorem ml_X7_68 : Cond.methodLink RX7 68 yX3_hasRoomFor ∈ wsA := memT 270 (by decide +kernel) (by decide +kernel)
theorem v_X7_68 {X : CX} {σ : HP} {pc : Nat} {lv : List (Nat × Value)} {st : List Value} {cc : ByteArray} {nl fr lo : Nat} {ret : Option FieldType} {v : Option Value} {σe : HP} (hX : OkX X RX7 cc nl fr lo ret v σe) {j : Nat} (hj : kd j = 3) {a1 : Value} {r : Int32} {σ2 : HP} {fr2 lo2 : Nat} (hC : Ct X.1 yX3_hasRoomFor cX3_hasRoomFor 2 (some .boolean) fr2 lo2 [rf X.1 j, a1] σ (some (.int r)) σ2) (hfr : fr2 + 1 ≤ fr) (hlo : 8 + (2 + 11) + lo2 ≤ lo) (hW : (st.map fun v => v.category).sum ≤ 8) (hdg : decode cc pc = .ok (.invokevirtual 68, 3)) (k : Z X σ2 (pc + 3) lv (.int r :: st)) : Z X σ pc lv (a1 :: rf X.1 j :: st) := z_callV hX M_X3_hasRoomFor ml_X7_68 (kd_lt hj (by decide)) (cell_3 X.1 hj) rfl hC rfl hfr hlo rfl hW hdg k
theorem ml_X7_75 : Cond.methodLink RX7 75 yX7_record ∈ wsA := memT 275 (by decide +kernel) (by decide +kernel)
theorem v_X7_75 {X : CX} {σ : HP} {pc : Nat} {lv : List (Nat × Value)} {st : List Value} {cc : ByteArray} {nl fr lo : Nat} {ret : Option FieldType} {v : Option Value} {σe : HP} (hX : OkX X RX7 cc nl fr lo ret v σe) {j : Nat} (hj : kd j = 7) {σ2 : HP} {fr2 lo2 : Nat} (hC : Ct X.1 yX7_record cX7_record 1 none fr2 lo2 [rf X.1 j] σ none σ2) (hfr : fr2 + 1 ≤ fr) (hlo : 8 + (1 + 11) + lo2 ≤ lo) (hW : (st.map fun v => v.category).sum ≤ 8) (hdg : decode cc pc = .ok (.invokevirtual 75, 3)) (k : Z X σ2 (pc + 3) lv (st)) : Z X σ pc lv (rf X.1 j :: st) := z_callV hX M_X7_record ml_X7_75 (kd_lt hj (by decide)) (cell_7 X.1 hj) rfl hC rfl hfr hlo rfl hW hdg k
theorem ml_X7_78 : Cond.methodLink RX7 78 yX3_append ∈ wsA := memT 309 (by decide +kernel) (by decide +kernel)
theorem v_X7_78 {X : CX} {σ : HP} {pc : Nat} {lv : List (Nat × Value)} {st : List Value} {cc : ByteArray} {nl fr lo : Nat} {ret : Option FieldType} {v : Option Value} {σe : HP} (hX : OkX X RX7 cc nl fr lo ret v σe) {j : Nat} (hj : kd j = 3) {a1 a2 : Value} {σ2 : HP} {fr2 lo2 : Nat} (hC : Ct X.1 yX3_append cX3_append 3 none fr2 lo2 [rf X.1 j, a1, a2] σ none σ2) (hfr : fr2 + 1 ≤ fr) (hlo : 8 + (3 + 11) + lo2 ≤ lo) (hW : (st.map fun v => v.category).sum ≤ 8) (hdg : decode cc pc = .ok (.invokevirtual 78, 3)) (k : Z X σ2 (pc + 3) lv (st)) : Z X σ pc lv (a2 :: a1 :: rf X.1 j :: st) := z_callV hX M_X3_append ml_X7_78 (kd_lt hj (by decide)) (cell_3 X.1 hj) rfl hC rfl hfr hlo rfl hW hdg k
theorem ml_X7_85 : Cond.methodLink RX7 85 yX7_rowFault ∈ wsA := memT 317 (by decide +kernel) (by decide +kernel)
theorem v_X7_85 {X : CX} {σ : HP} {pc : Nat} {lv : List (Nat × Value)} {st : List Value} {cc : ByteArray} {nl fr lo : Nat} {ret : Option FieldType} {v : Option Value} {σe : HP} (hX : OkX X RX7 cc nl fr lo ret v σe) {j : Nat} (hj : kd j = 7) {r : Int32} {σ2 : HP} {fr2 lo2 : Nat} (hC : Ct X.1 yX7_rowFault cX7_rowFault 2 (some .int) fr2 lo2 [rf X.1 j] σ (some (.int r)) σ2) (hfr : fr2 + 1 ≤ fr) (hlo : 8 + (2 + 11) + lo2 ≤ lo) (hW : (st.map fun v => v.category).sum ≤ 8) (hdg : decode cc pc = .ok (.invokevirtual 85, 3)) (k : Z X σ2 (pc + 3) lv (.int r :: st)) : Z X σ pc lv (rf X.1 j :: st) := z_callV hX M_X7_rowFault ml_X7_85 (kd_lt hj (by decide)) (cell_7 X.1 hj) rfl hC rfl hfr hlo rfl hW hdg k
theorem ml_X7_90 : Cond.methodLink RX7 90 yX3_hasPlace ∈ wsA := memT 329 (by decide +kernel) (by decide +kernel)
theorem v_X7_90 {X : CX} {σ : HP} {pc : Nat} {lv : List (Nat × Value)} {st : List Value} {cc : ByteArray} {nl fr lo : Nat} {ret : Option FieldType} {v : Option Value} {σe : HP} (hX : OkX X RX7 cc nl fr lo ret v σe) {j : Nat} (hj : kd j = 3) {a1 : Value} {r : Int32} {σ2 : HP} {fr2 lo2 : Nat} (hC : Ct X.1 yX3_hasPlace cX3_hasPlace 2 (some .boolean) fr2 lo2 [rf X.1 j, a1] σ (some (.int r)) σ2) (hfr : fr2 + 1 ≤ fr) (hlo : 8 + (2 + 11) + lo2 ≤ lo) (hW : (st.map fun v => v.category).sum ≤ 8) (hdg : decode cc pc = .ok (.invokevirtual 90, 3)) (k : Z X σ2 (pc + 3) lv (.int r :: st)) : Z X σ pc lv (a1 :: rf X.1 j :: st) := z_callV hX M_X3_hasPlace ml_X7_90 (kd_lt hj (by decide)) (cell_3 X.1 hj) rfl hC rfl hfr hlo rfl hW hdg k
theorem ml_X7_94 : Cond.methodLink RX7 94 yX3_isTangled ∈ wsA := memT 334 (by decide +kernel) (by decide +kernel)
theorem v_X7_94 {X : CX} {σ : HP} {pc : Nat} {lv : List (Nat × Value)} {st : List Value} {cc : ByteArray} {nl fr lo : Nat} {ret : Option FieldType} {v : Option Value} {σe : HP} (hX : OkX X RX7 cc nl fr lo ret v σe) {j : Nat} (hj : kd j = 3) {a1 : Value} {r : Int32} {σ2 : HP} {fr2 lo2 : Nat} (hC : Ct X.1 yX3_isTangled cX3_isTangled 2 (some .boolean) fr2 lo2 [rf X.1 j, a1] σ (some (.int r)) σ2) (hfr : fr2 + 1 ≤ fr) (hlo : 8 + (2 + 11) + lo2 ≤ lo) (hW : (st.map fun v => v.category).sum ≤ 8) (hdg : decode cc pc = .ok (.invokevirtual 94, 3)) (k : Z X σ2 (pc + 3) lv (.int r :: st)) : Z X σ pc lv (a1 :: rf X.1 j :: st) := z_callV hX M_X3_isTangled ml_X7_94 (kd_lt hj (by decide)) (cell_3 X.1 hj) rfl hC rfl hfr hlo rfl hW hdg k
theorem ml_X7_98 : Cond.methodLink RX7 98 yX3_remove ∈ wsA := memT 339 (by decide +kernel) (by decide +kernel)
theorem v_X7_98 {X : CX} {σ : HP} {pc : Nat} {lv : List (Nat × Value)} {st : List Value} {cc : ByteArray} {nl fr lo : Nat} {ret : Option FieldType} {v : Option Value} {σe : HP} (hX : OkX X RX7 cc nl fr lo ret v σe) {j : Nat} (hj : kd j = 3) {a1 : Value} {σ2 : HP} {fr2 lo2 : Nat} (hC : Ct X.1 yX3_remove cX3_remove 3 none fr2 lo2 [rf X.1 j, a1] σ none σ2) (hfr : fr2 + 1 ≤ fr) (hlo : 8 + (3 + 11) + lo2 ≤ lo) (hW : (st.map fun v => v.category).sum ≤ 8) (hdg : decode cc pc = .ok (.invokevirtual 98, 3)) (k : Z X σ2 (pc + 3) lv (st)) : Z X σ pc lv (a1 :: rf X.1 j :: st) := z_callV hX M_X3_remove ml_X7_98 (kd_lt hj (by decide)) (cell_3 X.1 hj) rfl hC rfl hfr hlo rfl hW hdg k
theorem ml_X7_107 : Cond.methodLink RX7 107 yX3_hasPairAt ∈ wsA := memT 359 (by decide +kernel) (by decide +kernel)
theorem v_X7_107 {X : CX} {σ : HP} {pc : Nat} {lv : List (Nat × Value)} {st : List Value} {cc : ByteArray} {nl fr lo : Nat} {ret : Option FieldType} {v : Option Value} {σe : HP} (hX : OkX X RX7 cc nl fr lo ret v σe) {j : Nat} (hj : kd j = 3) {a1 : Value} {r : Int32} {σ2 : HP} {fr2 lo2 : Nat} (hC : Ct X.1 yX3_hasPairAt cX3_hasPairAt 2 (some .boolean) fr2 lo2 [rf X.1 j, a1] σ (some (.int r)) σ2) (hfr : fr2 + 1 ≤ fr) (hlo : 8 + (2 + 11) + lo2 ≤ lo) (hW : (st.map fun v => v.category).sum ≤ 8) (hdg : decode cc pc = .ok (.invokevirtual 107, 3)) (k : Z X σ2 (pc + 3) lv (.int r :: st)) : Z X σ pc lv (a1 :: rf X.1 j :: st) := z_callV hX M_X3_hasPairAt ml_X7_107 (kd_lt hj (by decide)) (cell_3 X.1 hj) rfl hC rfl hfr hlo rfl hW hdg k
theorem ml_X7_110 : Cond.methodLink RX7 110 yX3_isPairFree ∈ wsA := memT 363 (by decide +kernel) (by decide +kernel)
theorem v_X7_110 {X : CX} {σ : HP} {pc : Nat} {lv : List (Nat × Value)} {st : List Value} {cc : ByteArray} {nl fr lo : Nat} {ret : Option FieldType} {v : Option Value} {σe : HP} (hX : OkX X RX7 cc nl fr lo ret v σe) {j : Nat} (hj : kd j = 3) {a1 : Value} {r : Int32} {σ2 : HP} {fr2 lo2 : Nat} (hC : Ct X.1 yX3_isPairFree cX3_isPairFree 2 (some .boolean) fr2 lo2 [rf X.1 j, a1] σ (some (.int r)) σ2) (hfr : fr2 + 1 ≤ fr) (hlo : 8 + (2 + 11) + lo2 ≤ lo) (hW : (st.map fun v => v.category).sum ≤ 8) (hdg : decode cc pc = .ok (.invokevirtual 110, 3)) (k : Z X σ2 (pc + 3) lv (.int r :: st)) : Z X σ pc lv (a1 :: rf X.1 j :: st) := z_callV hX M_X3_isPairFree ml_X7_110 (kd_lt hj (by decide)) (cell_3 X.1 hj) rfl hC rfl hfr hlo rfl hW hdg k
theorem ml_X7_116 : Cond.methodLink RX7 116 yX4_tradePlaces ∈ wsA := memT 368 (by decide +kernel) (by decide +kernel)
theorem v_X7_116 {X : CX} {σ : HP} {pc : Nat} {lv : List (Nat × Value)} {st : List Value} {cc : ByteArray} {nl fr lo : Nat} {ret : Option FieldType} {v : Option Value} {σe : HP} (hX : OkX X RX7 cc nl fr lo ret v σe) {j : Nat} (hj : kd j = 4) {a1 : Value} {r : Int32} {σ2 : HP} {fr2 lo2 : Nat} (hC : Ct X.1 yX4_tradePlaces cX4_tradePlaces 3 (some .boolean) fr2 lo2 [rf X.1 j, a1] σ (some (.int r)) σ2) (hfr : fr2 + 1 ≤ fr) (hlo : 8 + (3 + 11) + lo2 ≤ lo) (hW : (st.map fun v => v.category).sum ≤ 8) (hdg : decode cc pc = .ok (.invokevirtual 116, 3)) (k : Z X σ2 (pc + 3) lv (.int r :: st)) : Z X σ pc lv (a1 :: rf X.1 j :: st) := z_callV hX M_X4_tradePlaces ml_X7_116 (kd_lt hj (by decide)) (cell_4 X.1 hj) rfl hC rfl hfr hlo rfl hW hdg k
theorem ml_X7_119 : Cond.methodLink RX7 119 yX7_asNumber ∈ wsA := memT 439 (by decide +kernel) (by decide +kernel)
theorem v_X7_119 {X : CX} {σ : HP} {pc : Nat} {lv : List (Nat × Value)} {st : List Value} {cc : ByteArray} {nl fr lo : Nat} {ret : Option FieldType} {v : Option Value} {σe : HP} (hX : OkX X RX7 cc nl fr lo ret v σe) {a1 : Value} {r : Int32} {σ2 : HP} {fr2 lo2 : Nat} (hC : Ct X.1 yX7_asNumber cX7_asNumber 1 (some .int) fr2 lo2 [a1] σ (some (.int r)) σ2) (hfr : fr2 + 1 ≤ fr) (hlo : 8 + (1 + 11) + lo2 ≤ lo) (hW : (st.map fun v => v.category).sum ≤ 8) (hdg : decode cc pc = .ok (.invokestatic 119, 3)) (k : Z X σ2 (pc + 3) lv (.int r :: st)) : Z X σ pc lv (a1 :: st) := z_callS hX M_X7_asNumber ml_X7_119 hC rfl hfr hlo rfl hW hdg k
theorem ml_X7_123 : Cond.methodLink RX7 123 yX4_passMinute ∈ wsA := memT 444 (by decide +kernel) (by decide +kernel)
theorem v_X7_123 {X : CX} {σ : HP} {pc : Nat} {lv : List (Nat × Value)} {st : List Value} {cc : ByteArray} {nl fr lo : Nat} {ret : Option FieldType} {v : Option Value} {σe : HP} (hX : OkX X RX7 cc nl fr lo ret v σe) {j : Nat} (hj : kd j = 4) {r : Int32} {σ2 : HP} {fr2 lo2 : Nat} (hC : Ct X.1 yX4_passMinute cX4_passMinute 4 (some .int) fr2 lo2 [rf X.1 j] σ (some (.int r)) σ2) (hfr : fr2 + 1 ≤ fr) (hlo : 8 + (4 + 11) + lo2 ≤ lo) (hW : (st.map fun v => v.category).sum ≤ 8) (hdg : decode cc pc = .ok (.invokevirtual 123, 3)) (k : Z X σ2 (pc + 3) lv (.int r :: st)) : Z X σ pc lv (rf X.1 j :: st) := z_callV hX M_X4_passMinute ml_X7_123 (kd_lt hj (by decide)) (cell_4 X.1 hj) rfl hC rfl hfr hlo rfl hW hdg k
theorem ml_X7_126 : Cond.methodLink RX7 126 yX7_isWind ∈ wsA := memT 449 (by decide +kernel) (by decide +kernel)
theorem v_X7_126 {X : CX} {σ : HP} {pc : Nat} {lv : List (Nat × Value)} {st : List Value} {cc : ByteArray} {nl fr lo : Nat} {ret : Option FieldType} {v : Option Value} {σe : HP} (hX : OkX X RX7 cc nl fr lo ret v σe) {a1 a2 : Value} {r : Int32} {σ2 : HP} {fr2 lo2 : Nat} (hC : Ct X.1 yX7_isWind cX7_isWind 2 (some .boolean) fr2 lo2 [a1, a2] σ (some (.int r)) σ2) (hfr : fr2 + 1 ≤ fr) (hlo : 8 + (2 + 11) + lo2 ≤ lo) (hW : (st.map fun v => v.category).sum ≤ 8) (hdg : decode cc pc = .ok (.invokestatic 126, 3)) (k : Z X σ2 (pc + 3) lv (.int r :: st)) : Z X σ pc lv (a2 :: a1 :: st) := z_callS hX M_X7_isWind ml_X7_126 hC rfl hfr hlo rfl hW hdg k
theorem ml_X7_136 : Cond.methodLink RX7 136 yX4_turnWind ∈ wsA := memT 452 (by decide +kernel) (by decide +kernel)
theorem v_X7_136 {X : CX} {σ : HP} {pc : Nat} {lv : List (Nat × Value)} {st : List Value} {cc : ByteArray} {nl fr lo : Nat} {ret : Option FieldType} {v : Option Value} {σe : HP} (hX : OkX X RX7 cc nl fr lo ret v σe) {j : Nat} (hj : kd j = 4) {a1 a2 : Value} {r : Int32} {σ2 : HP} {fr2 lo2 : Nat} (hC : Ct X.1 yX4_turnWind cX4_turnWind 6 (some .int) fr2 lo2 [rf X.1 j, a1, a2] σ (some (.int r)) σ2) (hfr : fr2 + 1 ≤ fr) (hlo : 8 + (6 + 11) + lo2 ≤ lo) (hW : (st.map fun v => v.category).sum ≤ 8) (hdg : decode cc pc = .ok (.invokevirtual 136, 3)) (k : Z X σ2 (pc + 3) lv (.int r :: st)) : Z X σ pc lv (a2 :: a1 :: rf X.1 j :: st) := z_callV hX M_X4_turnWind ml_X7_136 (kd_lt hj (by decide)) (cell_4 X.1 hj) rfl hC rfl hfr hlo rfl hW hdg k
theorem ml_X7_144 : Cond.methodLink RX7 144 yX1_rankOf ∈ wsA := memT 457 (by decide +kernel) (by decide +kernel)
theorem v_X7_144 {X : CX} {σ : HP} {pc : Nat} {lv : List (Nat × Value)} {st : List Value} {cc : ByteArray} {nl fr lo : Nat} {ret : Option FieldType} {v : Option Value} {σe : HP} (hX : OkX X RX7 cc nl fr lo ret v σe) {j : Nat} (hj : kd j = 1) {a1 : Value} {r : Int32} {σ2 : HP} {fr2 lo2 : Nat} (hC : Ct X.1 yX1_rankOf cX1_rankOf 3 (some .int) fr2 lo2 [rf X.1 j, a1] σ (some (.int r)) σ2) (hfr : fr2 + 1 ≤ fr) (hlo : 8 + (3 + 11) + lo2 ≤ lo) (hW : (st.map fun v => v.category).sum ≤ 8) (hdg : decode cc pc = .ok (.invokevirtual 144, 3)) (k : Z X σ2 (pc + 3) lv (.int r :: st)) : Z X σ pc lv (a1 :: rf X.1 j :: st) := z_callV hX M_X1_rankOf ml_X7_144 (kd_lt hj (by decide)) (cell_1 X.1 hj) rfl hC rfl hfr hlo rfl hW hdg k
theorem ml_X7_151 : Cond.methodLink RX7 151 yX1_insert ∈ wsA := memT 458 (by decide +kernel) (by decide +kernel)
theorem v_X7_151 {X : CX} {σ : HP} {pc : Nat} {lv : List (Nat × Value)} {st : List Value} {cc : ByteArray} {nl fr lo : Nat} {ret : Option FieldType} {v : Option Value} {σe : HP} (hX : OkX X RX7 cc nl fr lo ret v σe) {j : Nat} (hj : kd j = 1) {a1 a2 a3 : Value} {σ2 : HP} {fr2 lo2 : Nat} (hC : Ct X.1 yX1_insert cX1_insert 5 none fr2 lo2 [rf X.1 j, a1, a2, a3] σ none σ2) (hfr : fr2 + 1 ≤ fr) (hlo : 8 + (5 + 11) + lo2 ≤ lo) (hW : (st.map fun v => v.category).sum ≤ 8) (hdg : decode cc pc = .ok (.invokevirtual 151, 3)) (k : Z X σ2 (pc + 3) lv (st)) : Z X σ pc lv (a3 :: a2 :: a1 :: rf X.1 j :: st) := z_callV hX M_X1_insert ml_X7_151 (kd_lt hj (by decide)) (cell_1 X.1 hj) rfl hC rfl hfr hlo rfl hW hdg k
theorem ml_X7_155 : Cond.methodLink RX7 155 yX1_remove ∈ wsA := memT 466 (by decide +kernel) (by decide +kernel)
theorem v_X7_155 {X : CX} {σ : HP} {pc : Nat} {lv : List (Nat × Value)} {st : List Value} {cc : ByteArray} {nl fr lo : Nat} {ret : Option FieldType} {v : Option Value} {σe : HP} (hX : OkX X RX7 cc nl fr lo ret v σe) {j : Nat} (hj : kd j = 1) {a1 : Value} {σ2 : HP} {fr2 lo2 : Nat} (hC : Ct X.1 yX1_remove cX1_remove 3 none fr2 lo2 [rf X.1 j, a1] σ none σ2) (hfr : fr2 + 1 ≤ fr) (hlo : 8 + (3 + 11) + lo2 ≤ lo) (hW : (st.map fun v => v.category).sum ≤ 8) (hdg : decode cc pc = .ok (.invokevirtual 155, 3)) (k : Z X σ2 (pc + 3) lv (st)) : Z X σ pc lv (a1 :: rf X.1 j :: st) := z_callV hX M_X1_remove ml_X7_155 (kd_lt hj (by decide)) (cell_1 X.1 hj) rfl hC rfl hfr hlo rfl hW hdg k
theorem ml_X7_159 : Cond.methodLink RX7 159 yX7_readableKites ∈ wsA := memT 471 (by decide +kernel) (by decide +kernel)
theorem v_X7_159 {X : CX} {σ : HP} {pc : Nat} {lv : List (Nat × Value)} {st : List Value} {cc : ByteArray} {nl fr lo : Nat} {ret : Option FieldType} {v : Option Value} {σe : HP} (hX : OkX X RX7 cc nl fr lo ret v σe) {j : Nat} (hj : kd j = 7) {r : Int32} {σ2 : HP} {fr2 lo2 : Nat} (hC : Ct X.1 yX7_readableKites cX7_readableKites 1 (some .int) fr2 lo2 [rf X.1 j] σ (some (.int r)) σ2) (hfr : fr2 + 1 ≤ fr) (hlo : 8 + (1 + 11) + lo2 ≤ lo) (hW : (st.map fun v => v.category).sum ≤ 8) (hdg : decode cc pc = .ok (.invokevirtual 159, 3)) (k : Z X σ2 (pc + 3) lv (.int r :: st)) : Z X σ pc lv (rf X.1 j :: st) := z_callV hX M_X7_readableKites ml_X7_159 (kd_lt hj (by decide)) (cell_7 X.1 hj) rfl hC rfl hfr hlo rfl hW hdg k
theorem ml_X7_165 : Cond.methodLink RX7 165 yX7_wordFault ∈ wsA := memT 497 (by decide +kernel) (by decide +kernel)
theorem v_X7_165 {X : CX} {σ : HP} {pc : Nat} {lv : List (Nat × Value)} {st : List Value} {cc : ByteArray} {nl fr lo : Nat} {ret : Option FieldType} {v : Option Value} {σe : HP} (hX : OkX X RX7 cc nl fr lo ret v σe) {j : Nat} (hj : kd j = 7) {r : Int32} {σ2 : HP} {fr2 lo2 : Nat} (hC : Ct X.1 yX7_wordFault cX7_wordFault 2 (some .int) fr2 lo2 [rf X.1 j] σ (some (.int r)) σ2) (hfr : fr2 + 1 ≤ fr) (hlo : 8 + (2 + 11) + lo2 ≤ lo) (hW : (st.map fun v => v.category).sum ≤ 8) (hdg : decode cc pc = .ok (.invokevirtual 165, 3)) (k : Z X σ2 (pc + 3) lv (.int r :: st)) : Z X σ pc lv (rf X.1 j :: st) := z_callV hX M_X7_wordFault ml_X7_165 (kd_lt hj (by decide)) (cell_7 X.1 hj) rfl hC rfl hfr hlo rfl hW hdg k
theorem ml_X7_172 : Cond.methodLink RX7 172 yX6_isSame ∈ wsA := memT 501 (by decide +kernel) (by decide +kernel)
theorem v_X7_172 {X : CX} {σ : HP} {pc : Nat} {lv : List (Nat × Value)} {st : List Value} {cc : ByteArray} {nl fr lo : Nat} {ret : Option FieldType} {v : Option Value} {σe : HP} (hX : OkX X RX7 cc nl fr lo ret v σe) {j : Nat} (hj : kd j = 6) {a1 a2 : Value} {r : Int32} {σ2 : HP} {fr2 lo2 : Nat} (hC : Ct X.1 yX6_isSame cX6_isSame 4 (some .boolean) fr2 lo2 [rf X.1 j, a1, a2] σ (some (.int r)) σ2) (hfr : fr2 + 1 ≤ fr) (hlo : 8 + (4 + 11) + lo2 ≤ lo) (hW : (st.map fun v => v.category).sum ≤ 8) (hdg : decode cc pc = .ok (.invokevirtual 172, 3)) (k : Z X σ2 (pc + 3) lv (.int r :: st)) : Z X σ pc lv (a2 :: a1 :: rf X.1 j :: st) := z_callV hX M_X6_isSame ml_X7_172 (kd_lt hj (by decide)) (cell_6 X.1 hj) rfl hC rfl hfr hlo rfl hW hdg k
theorem ml_X7_178 : Cond.methodLink RX7 178 yX6_become ∈ wsA := memT 505 (by decide +kernel) (by decide +kernel)
theorem v_X7_178 {X : CX} {σ : HP} {pc : Nat} {lv : List (Nat × Value)} {st : List Value} {cc : ByteArray} {nl fr lo : Nat} {ret : Option FieldType} {v : Option Value} {σe : HP} (hX : OkX X RX7 cc nl fr lo ret v σe) {j : Nat} (hj : kd j = 6) {a1 a2 : Value} {σ2 : HP} {fr2 lo2 : Nat} (hC : Ct X.1 yX6_become cX6_become 3 none fr2 lo2 [rf X.1 j, a1, a2] σ none σ2) (hfr : fr2 + 1 ≤ fr) (hlo : 8 + (3 + 11) + lo2 ≤ lo) (hW : (st.map fun v => v.category).sum ≤ 8) (hdg : decode cc pc = .ok (.invokevirtual 178, 3)) (k : Z X σ2 (pc + 3) lv (st)) : Z X σ pc lv (a2 :: a1 :: rf X.1 j :: st) := z_callV hX M_X6_become ml_X7_178 (kd_lt hj (by decide)) (cell_6 X.1 hj) rfl hC rfl hfr hlo rfl hW hdg k
theorem ml_X7_183 : Cond.methodLink RX7 183 yX4_copyFrom ∈ wsA := memT 283 (by decide +kernel) (by decide +kernel)
theorem v_X7_183 {X : CX} {σ : HP} {pc : Nat} {lv : List (Nat × Value)} {st : List Value} {cc : ByteArray} {nl fr lo : Nat} {ret : Option FieldType} {v : Option Value} {σe : HP} (hX : OkX X RX7 cc nl fr lo ret v σe) {j : Nat} (hj : kd j = 4) {a1 : Value} {σ2 : HP} {fr2 lo2 : Nat} (hC : Ct X.1 yX4_copyFrom cX4_copyFrom 2 none fr2 lo2 [rf X.1 j, a1] σ none σ2) (hfr : fr2 + 1 ≤ fr) (hlo : 8 + (2 + 11) + lo2 ≤ lo) (hW : (st.map fun v => v.category).sum ≤ 8) (hdg : decode cc pc = .ok (.invokevirtual 183, 3)) (k : Z X σ2 (pc + 3) lv (st)) : Z X σ pc lv (a1 :: rf X.1 j :: st) := z_callV hX M_X4_copyFrom ml_X7_183 (kd_lt hj (by decide)) (cell_4 X.1 hj) rfl hC rfl hfr hlo rfl hW hdg k
theorem ml_X7_193 : Cond.methodLink RX7 193 yX4_drift ∈ wsA := memT 534 (by decide +kernel) (by decide +kernel)
theorem v_X7_193 {X : CX} {σ : HP} {pc : Nat} {lv : List (Nat × Value)} {st : List Value} {cc : ByteArray} {nl fr lo : Nat} {ret : Option FieldType} {v : Option Value} {σe : HP} (hX : OkX X RX7 cc nl fr lo ret v σe) {j : Nat} (hj : kd j = 4) {r : Int32} {σ2 : HP} {fr2 lo2 : Nat} (hC : Ct X.1 yX4_drift cX4_drift 1 (some .int) fr2 lo2 [rf X.1 j] σ (some (.int r)) σ2) (hfr : fr2 + 1 ≤ fr) (hlo : 8 + (1 + 11) + lo2 ≤ lo) (hW : (st.map fun v => v.category).sum ≤ 8) (hdg : decode cc pc = .ok (.invokevirtual 193, 3)) (k : Z X σ2 (pc + 3) lv (.int r :: st)) : Z X σ pc lv (rf X.1 j :: st) := z_callV hX M_X4_drift ml_X7_193 (kd_lt hj (by decide)) (cell_4 X.1 hj) rfl hC rfl hfr hlo rfl hW hdg k
theorem ml_X7_196 : Cond.methodLink RX7 196 yX3_shownAt ∈ wsA := memT 535 (by decide +kernel) (by decide +kernel)
theorem v_X7_196 {X : CX} {σ : HP} {pc : Nat} {lv : List (Nat × Value)} {st : List Value} {cc : ByteArray} {nl fr lo : Nat} {ret : Option FieldType} {v : Option Value} {σe : HP} (hX : OkX X RX7 cc nl fr lo ret v σe) {j : Nat} (hj : kd j = 3) {a1 a2 : Value} {r : Int32} {σ2 : HP} {fr2 lo2 : Nat} (hC : Ct X.1 yX3_shownAt cX3_shownAt 3 (some .int) fr2 lo2 [rf X.1 j, a1, a2] σ (some (.int r)) σ2) (hfr : fr2 + 1 ≤ fr) (hlo : 8 + (3 + 11) + lo2 ≤ lo) (hW : (st.map fun v => v.category).sum ≤ 8) (hdg : decode cc pc = .ok (.invokevirtual 196, 3)) (k : Z X σ2 (pc + 3) lv (.int r :: st)) : Z X σ pc lv (a2 :: a1 :: rf X.1 j :: st) := z_callV hX M_X3_shownAt ml_X7_196 (kd_lt hj (by decide)) (cell_3 X.1 hj) rfl hC rfl hfr hlo rfl hW hdg k
theorem ml_X7_205 : Cond.methodLink RX7 205 yX3_canBeRead ∈ wsA := memT 536 (by decide +kernel) (by decide +kernel)
theorem v_X7_205 {X : CX} {σ : HP} {pc : Nat} {lv : List (Nat × Value)} {st : List Value} {cc : ByteArray} {nl fr lo : Nat} {ret : Option FieldType} {v : Option Value} {σe : HP} (hX : OkX X RX7 cc nl fr lo ret v σe) {j : Nat} (hj : kd j = 3) {a1 a2 : Value} {r : Int32} {σ2 : HP} {fr2 lo2 : Nat} (hC : Ct X.1 yX3_canBeRead cX3_canBeRead 5 (some .boolean) fr2 lo2 [rf X.1 j, a1, a2] σ (some (.int r)) σ2) (hfr : fr2 + 1 ≤ fr) (hlo : 8 + (5 + 11) + lo2 ≤ lo) (hW : (st.map fun v => v.category).sum ≤ 8) (hdg : decode cc pc = .ok (.invokevirtual 205, 3)) (k : Z X σ2 (pc + 3) lv (.int r :: st)) : Z X σ pc lv (a2 :: a1 :: rf X.1 j :: st) := z_callV hX M_X3_canBeRead ml_X7_205 (kd_lt hj (by decide)) (cell_3 X.1 hj) rfl hC rfl hfr hlo rfl hW hdg k
theorem ml_X7_211 : Cond.methodLink RX7 211 yX2_look ∈ wsA := memT 475 (by decide +kernel) (by decide +kernel)
theorem v_X7_211 {X : CX} {σ : HP} {pc : Nat} {lv : List (Nat × Value)} {st : List Value} {cc : ByteArray} {nl fr lo : Nat} {ret : Option FieldType} {v : Option Value} {σe : HP} (hX : OkX X RX7 cc nl fr lo ret v σe) {j : Nat} (hj : kd j = 2) {a1 : Value} {σ2 : HP} {fr2 lo2 : Nat} (hC : Ct X.1 yX2_look cX2_look 4 none fr2 lo2 [rf X.1 j, a1] σ none σ2) (hfr : fr2 + 1 ≤ fr) (hlo : 8 + (4 + 11) + lo2 ≤ lo) (hW : (st.map fun v => v.category).sum ≤ 8) (hdg : decode cc pc = .ok (.invokevirtual 211, 3)) (k : Z X σ2 (pc + 3) lv (st)) : Z X σ pc lv (a1 :: rf X.1 j :: st) := z_callV hX M_X2_look ml_X7_211 (kd_lt hj (by decide)) (cell_2 X.1 hj) rfl hC rfl hfr hlo rfl hW hdg k
theorem ml_X7_218 : Cond.methodLink RX7 218 yX4_isSafe ∈ wsA := memT 545 (by decide +kernel) (by decide +kernel)
theorem v_X7_218 {X : CX} {σ : HP} {pc : Nat} {lv : List (Nat × Value)} {st : List Value} {cc : ByteArray} {nl fr lo : Nat} {ret : Option FieldType} {v : Option Value} {σe : HP} (hX : OkX X RX7 cc nl fr lo ret v σe) {j : Nat} (hj : kd j = 4) {a1 : Value} {r : Int32} {σ2 : HP} {fr2 lo2 : Nat} (hC : Ct X.1 yX4_isSafe cX4_isSafe 2 (some .boolean) fr2 lo2 [rf X.1 j, a1] σ (some (.int r)) σ2) (hfr : fr2 + 1 ≤ fr) (hlo : 8 + (2 + 11) + lo2 ≤ lo) (hW : (st.map fun v => v.category).sum ≤ 8) (hdg : decode cc pc = .ok (.invokevirtual 218, 3)) (k : Z X σ2 (pc + 3) lv (.int r :: st)) : Z X σ pc lv (a1 :: rf X.1 j :: st) := z_callV hX M_X4_isSafe ml_X7_218 (kd_lt hj (by decide)) (cell_4 X.1 hj) rfl hC rfl hfr hlo rfl hW hdg k
theorem ml_X7_221 : Cond.methodLink RX7 221 yX0_match ∈ wsA := memT 549 (by decide +kernel) (by decide +kernel)
theorem v_X7_221 {X : CX} {σ : HP} {pc : Nat} {lv : List (Nat × Value)} {st : List Value} {cc : ByteArray} {nl fr lo : Nat} {ret : Option FieldType} {v : Option Value} {σe : HP} (hX : OkX X RX7 cc nl fr lo ret v σe) {j : Nat} (hj : kd j = 0) {a1 : Value} {σ2 : HP} {fr2 lo2 : Nat} (hC : Ct X.1 yX0_match cX0_match 2 none fr2 lo2 [rf X.1 j, a1] σ none σ2) (hfr : fr2 + 1 ≤ fr) (hlo : 8 + (2 + 11) + lo2 ≤ lo) (hW : (st.map fun v => v.category).sum ≤ 8) (hdg : decode cc pc = .ok (.invokevirtual 221, 3)) (k : Z X σ2 (pc + 3) lv (st)) : Z X σ pc lv (a1 :: rf X.1 j :: st) := z_callV hX M_X0_match ml_X7_221 (kd_lt hj (by decide)) (cell_0 X.1 hj) rfl hC rfl hfr hlo rfl hW hdg k
theorem ml_X7_227 : Cond.methodLink RX7 227 yX0_isGood ∈ wsA := memT 568 (by decide +kernel) (by decide +kernel)
theorem v_X7_227 {X : CX} {σ : HP} {pc : Nat} {lv : List (Nat × Value)} {st : List Value} {cc : ByteArray} {nl fr lo : Nat} {ret : Option FieldType} {v : Option Value} {σe : HP} (hX : OkX X RX7 cc nl fr lo ret v σe) {j : Nat} (hj : kd j = 0) {a1 : Value} {r : Int32} {σ2 : HP} {fr2 lo2 : Nat} (hC : Ct X.1 yX0_isGood cX0_isGood 2 (some .boolean) fr2 lo2 [rf X.1 j, a1] σ (some (.int r)) σ2) (hfr : fr2 + 1 ≤ fr) (hlo : 8 + (2 + 11) + lo2 ≤ lo) (hW : (st.map fun v => v.category).sum ≤ 8) (hdg : decode cc pc = .ok (.invokevirtual 227, 3)) (k : Z X σ2 (pc + 3) lv (.int r :: st)) : Z X σ pc lv (a1 :: rf X.1 j :: st) := z_callV hX M_X0_isGood ml_X7_227 (kd_lt hj (by decide)) (cell_0 X.1 hj) rfl hC rfl hfr hlo rfl hW hdg k
theorem ml_X7_230 : Cond.methodLink RX7 230 yX0_fewestBehind ∈ wsA := memT 572 (by decide +kernel) (by decide +kernel)
theorem v_X7_230 {X : CX} {σ : HP} {pc : Nat} {lv : List (Nat × Value)} {st : List Value} {cc : ByteArray} {nl fr lo : Nat} {ret : Option FieldType} {v : Option Value} {σe : HP} (hX : OkX X RX7 cc nl fr lo ret v σe) {j : Nat} (hj : kd j = 0) {a1 a2 : Value} {r : Int32} {σ2 : HP} {fr2 lo2 : Nat} (hC : Ct X.1 yX0_fewestBehind cX0_fewestBehind 3 (some .int) fr2 lo2 [rf X.1 j, a1, a2] σ (some (.int r)) σ2) (hfr : fr2 + 1 ≤ fr) (hlo : 8 + (3 + 11) + lo2 ≤ lo) (hW : (st.map fun v => v.category).sum ≤ 8) (hdg : decode cc pc = .ok (.invokevirtual 230, 3)) (k : Z X σ2 (pc + 3) lv (.int r :: st)) : Z X σ pc lv (a2 :: a1 :: rf X.1 j :: st) := z_callV hX M_X0_fewestBehind ml_X7_230 (kd_lt hj (by decide)) (cell_0 X.1 hj) rfl hC rfl hfr hlo rfl hW hdg k
theorem ml_X7_234 : Cond.methodLink RX7 234 yX7_nextPlace ∈ wsA := memT 581 (by decide +kernel) (by decide +kernel)
theorem v_X7_234 {X : CX} {σ : HP} {pc : Nat} {lv : List (Nat × Value)} {st : List Value} {cc : ByteArray} {nl fr lo : Nat} {ret : Option FieldType} {v : Option Value} {σe : HP} (hX : OkX X RX7 cc nl fr lo ret v σe) {j : Nat} (hj : kd j = 7) {a1 : Value} {r : Int32} {σ2 : HP} {fr2 lo2 : Nat} (hC : Ct X.1 yX7_nextPlace cX7_nextPlace 3 (some .int) fr2 lo2 [rf X.1 j, a1] σ (some (.int r)) σ2) (hfr : fr2 + 1 ≤ fr) (hlo : 8 + (3 + 11) + lo2 ≤ lo) (hW : (st.map fun v => v.category).sum ≤ 8) (hdg : decode cc pc = .ok (.invokevirtual 234, 3)) (k : Z X σ2 (pc + 3) lv (.int r :: st)) : Z X σ pc lv (a1 :: rf X.1 j :: st) := z_callV hX M_X7_nextPlace ml_X7_234 (kd_lt hj (by decide)) (cell_7 X.1 hj) rfl hC rfl hfr hlo rfl hW hdg k
theorem ml_X7_238 : Cond.methodLink RX7 238 yX7_isSpelled ∈ wsA := memT 589 (by decide +kernel) (by decide +kernel)
theorem v_X7_238 {X : CX} {σ : HP} {pc : Nat} {lv : List (Nat × Value)} {st : List Value} {cc : ByteArray} {nl fr lo : Nat} {ret : Option FieldType} {v : Option Value} {σe : HP} (hX : OkX X RX7 cc nl fr lo ret v σe) {j : Nat} (hj : kd j = 7) {a1 : Value} {r : Int32} {σ2 : HP} {fr2 lo2 : Nat} (hC : Ct X.1 yX7_isSpelled cX7_isSpelled 3 (some .boolean) fr2 lo2 [rf X.1 j, a1] σ (some (.int r)) σ2) (hfr : fr2 + 1 ≤ fr) (hlo : 8 + (3 + 11) + lo2 ≤ lo) (hW : (st.map fun v => v.category).sum ≤ 8) (hdg : decode cc pc = .ok (.invokevirtual 238, 3)) (k : Z X σ2 (pc + 3) lv (.int r :: st)) : Z X σ pc lv (a1 :: rf X.1 j :: st) := z_callV hX M_X7_isSpelled ml_X7_238 (kd_lt hj (by decide)) (cell_7 X.1 hj) rfl hC rfl hfr hlo rfl hW hdg k
theorem ml_X7_242 : Cond.methodLink RX7 242 yX4_isAtRest ∈ wsA := memT 593 (by decide +kernel) (by decide +kernel)
theorem v_X7_242 {X : CX} {σ : HP} {pc : Nat} {lv : List (Nat × Value)} {st : List Value} {cc : ByteArray} {nl fr lo : Nat} {ret : Option FieldType} {v : Option Value} {σe : HP} (hX : OkX X RX7 cc nl fr lo ret v σe) {j : Nat} (hj : kd j = 4) {r : Int32} {σ2 : HP} {fr2 lo2 : Nat} (hC : Ct X.1 yX4_isAtRest cX4_isAtRest 2 (some .boolean) fr2 lo2 [rf X.1 j] σ (some (.int r)) σ2) (hfr : fr2 + 1 ≤ fr) (hlo : 8 + (2 + 11) + lo2 ≤ lo) (hW : (st.map fun v => v.category).sum ≤ 8) (hdg : decode cc pc = .ok (.invokevirtual 242, 3)) (k : Z X σ2 (pc + 3) lv (.int r :: st)) : Z X σ pc lv (rf X.1 j :: st) := z_callV hX M_X4_isAtRest ml_X7_242 (kd_lt hj (by decide)) (cell_4 X.1 hj) rfl hC rfl hfr hlo rfl hW hdg k
theorem ml_X7_270 : Cond.methodLink RX7 270 yX7_fewestTrades ∈ wsA := memT 610 (by decide +kernel) (by decide +kernel)
theorem v_X7_270 {X : CX} {σ : HP} {pc : Nat} {lv : List (Nat × Value)} {st : List Value} {cc : ByteArray} {nl fr lo : Nat} {ret : Option FieldType} {v : Option Value} {σe : HP} (hX : OkX X RX7 cc nl fr lo ret v σe) {j : Nat} (hj : kd j = 7) {r : Int32} {σ2 : HP} {fr2 lo2 : Nat} (hC : Ct X.1 yX7_fewestTrades cX7_fewestTrades 1 (some .int) fr2 lo2 [rf X.1 j] σ (some (.int r)) σ2) (hfr : fr2 + 1 ≤ fr) (hlo : 8 + (1 + 11) + lo2 ≤ lo) (hW : (st.map fun v => v.category).sum ≤ 8) (hdg : decode cc pc = .ok (.invokevirtual 270, 3)) (k : Z X σ2 (pc + 3) lv (.int r :: st)) : Z X σ pc lv (rf X.1 j :: st) := z_callV hX M_X7_fewestTrades ml_X7_270 (kd_lt hj (by decide)) (cell_7 X.1 hj) rfl hC rfl hfr hlo rfl hW hdg k
theorem ml_X7_285 : Cond.methodLink RX7 285 yX7_dropOldest ∈ wsA := memT 279 (by decide +kernel) (by decide +kernel)
theorem v_X7_285 {X : CX} {σ : HP} {pc : Nat} {lv : List (Nat × Value)} {st : List Value} {cc : ByteArray} {nl fr lo : Nat} {ret : Option FieldType} {v : Option Value} {σe : HP} (hX : OkX X RX7 cc nl fr lo ret v σe) {j : Nat} (hj : kd j = 7) {σ2 : HP} {fr2 lo2 : Nat} (hC : Ct X.1 yX7_dropOldest cX7_dropOldest 3 none fr2 lo2 [rf X.1 j] σ none σ2) (hfr : fr2 + 1 ≤ fr) (hlo : 8 + (3 + 11) + lo2 ≤ lo) (hW : (st.map fun v => v.category).sum ≤ 8) (hdg : decode cc pc = .ok (.invokevirtual 285, 3)) (k : Z X σ2 (pc + 3) lv (st)) : Z X σ pc lv (rf X.1 j :: st) := z_callV hX M_X7_dropOldest ml_X7_285 (kd_lt hj (by decide)) (cell_7 X.1 hj) rfl hC rfl hfr hlo rfl hW hdg k
theorem ml_X7_288 : Cond.methodLink RX7 288 yX7_isAllowedInRow ∈ wsA := memT 321 (by decide +kernel) (by decide +kernel)
theorem v_X7_288 {X : CX} {σ : HP} {pc : Nat} {lv : List (Nat × Value)} {st : List Value} {cc : ByteArray} {nl fr lo : Nat} {ret : Option FieldType} {v : Option Value} {σe : HP} (hX : OkX X RX7 cc nl fr lo ret v σe) {a1 a2 : Value} {r : Int32} {σ2 : HP} {fr2 lo2 : Nat} (hC : Ct X.1 yX7_isAllowedInRow cX7_isAllowedInRow 2 (some .boolean) fr2 lo2 [a1, a2] σ (some (.int r)) σ2) (hfr : fr2 + 1 ≤ fr) (hlo : 8 + (2 + 11) + lo2 ≤ lo) (hW : (st.map fun v => v.category).sum ≤ 8) (hdg : decode cc pc = .ok (.invokestatic 288, 3)) (k : Z X σ2 (pc + 3) lv (.int r :: st)) : Z X σ pc lv (a2 :: a1 :: st) := z_callS hX M_X7_isAllowedInRow ml_X7_288 hC rfl hfr hlo rfl hW hdg k
theorem ml_X0_45 : Cond.methodLink RX0 45 yX0_findTargets ∈ wsA := memT 553 (by decide +kernel) (by decide +kernel)
theorem v_X0_45 {X : CX} {σ : HP} {pc : Nat} {lv : List (Nat × Value)} {st : List Value} {cc : ByteArray} {nl fr lo : Nat} {ret : Option FieldType} {v : Option Value} {σe : HP} (hX : OkX X RX0 cc nl fr lo ret v σe) {j : Nat} (hj : kd j = 0) {a1 a2 : Value} {r : Int32} {σ2 : HP} {fr2 lo2 : Nat} (hC : Ct X.1 yX0_findTargets cX0_findTargets 7 (some .boolean) fr2 lo2 [rf X.1 j, a1, a2] σ (some (.int r)) σ2) (hfr : fr2 + 1 ≤ fr) (hlo : 8 + (7 + 11) + lo2 ≤ lo) (hW : (st.map fun v => v.category).sum ≤ 8) (hdg : decode cc pc = .ok (.invokevirtual 45, 3)) (k : Z X σ2 (pc + 3) lv (.int r :: st)) : Z X σ pc lv (a2 :: a1 :: rf X.1 j :: st) := z_callV hX M_X0_findTargets ml_X0_45 (kd_lt hj (by decide)) (cell_0 X.1 hj) rfl hC rfl hfr hlo rfl hW hdg k
theorem ml_X0_49 : Cond.methodLink RX0 49 yX0_countWrongPairs ∈ wsA := memT 560 (by decide +kernel) (by decide +kernel)
theorem v_X0_49 {X : CX} {σ : HP} {pc : Nat} {lv : List (Nat × Value)} {st : List Value} {cc : ByteArray} {nl fr lo : Nat} {ret : Option FieldType} {v : Option Value} {σe : HP} (hX : OkX X RX0 cc nl fr lo ret v σe) {j : Nat} (hj : kd j = 0) {a1 : Value} {r : Int32} {σ2 : HP} {fr2 lo2 : Nat} (hC : Ct X.1 yX0_countWrongPairs cX0_countWrongPairs 5 (some .int) fr2 lo2 [rf X.1 j, a1] σ (some (.int r)) σ2) (hfr : fr2 + 1 ≤ fr) (hlo : 8 + (5 + 11) + lo2 ≤ lo) (hW : (st.map fun v => v.category).sum ≤ 8) (hdg : decode cc pc = .ok (.invokevirtual 49, 3)) (k : Z X σ2 (pc + 3) lv (.int r :: st)) : Z X σ pc lv (a1 :: rf X.1 j :: st) := z_callV hX M_X0_countWrongPairs ml_X0_49 (kd_lt hj (by decide)) (cell_0 X.1 hj) rfl hC rfl hfr hlo rfl hW hdg k
theorem ml_X0_56 : Cond.methodLink RX0 56 yX0_firstFree ∈ wsA := memT 557 (by decide +kernel) (by decide +kernel)
theorem v_X0_56 {X : CX} {σ : HP} {pc : Nat} {lv : List (Nat × Value)} {st : List Value} {cc : ByteArray} {nl fr lo : Nat} {ret : Option FieldType} {v : Option Value} {σe : HP} (hX : OkX X RX0 cc nl fr lo ret v σe) {a1 a2 a3 : Value} {r : Int32} {σ2 : HP} {fr2 lo2 : Nat} (hC : Ct X.1 yX0_firstFree cX0_firstFree 4 (some .int) fr2 lo2 [a1, a2, a3] σ (some (.int r)) σ2) (hfr : fr2 + 1 ≤ fr) (hlo : 8 + (4 + 11) + lo2 ≤ lo) (hW : (st.map fun v => v.category).sum ≤ 8) (hdg : decode cc pc = .ok (.invokestatic 56, 3)) (k : Z X σ2 (pc + 3) lv (.int r :: st)) : Z X σ pc lv (a3 :: a2 :: a1 :: st) := z_callS hX M_X0_firstFree ml_X0_56 hC rfl hfr hlo rfl hW hdg k
theorem ml_X0_64 : Cond.methodLink RX0 64 yX0_isWrongPair ∈ wsA := memT 564 (by decide +kernel) (by decide +kernel)
theorem v_X0_64 {X : CX} {σ : HP} {pc : Nat} {lv : List (Nat × Value)} {st : List Value} {cc : ByteArray} {nl fr lo : Nat} {ret : Option FieldType} {v : Option Value} {σe : HP} (hX : OkX X RX0 cc nl fr lo ret v σe) {j : Nat} (hj : kd j = 0) {a1 a2 : Value} {r : Int32} {σ2 : HP} {fr2 lo2 : Nat} (hC : Ct X.1 yX0_isWrongPair cX0_isWrongPair 3 (some .boolean) fr2 lo2 [rf X.1 j, a1, a2] σ (some (.int r)) σ2) (hfr : fr2 + 1 ≤ fr) (hlo : 8 + (3 + 11) + lo2 ≤ lo) (hW : (st.map fun v => v.category).sum ≤ 8) (hdg : decode cc pc = .ok (.invokevirtual 64, 3)) (k : Z X σ2 (pc + 3) lv (.int r :: st)) : Z X σ pc lv (a2 :: a1 :: rf X.1 j :: st) := z_callV hX M_X0_isWrongPair ml_X0_64 (kd_lt hj (by decide)) (cell_0 X.1 hj) rfl hC rfl hfr hlo rfl hW hdg k
theorem ml_X0_68 : Cond.methodLink RX0 68 yX0_isGood ∈ wsA := memT 576 (by decide +kernel) (by decide +kernel)
theorem v_X0_68 {X : CX} {σ : HP} {pc : Nat} {lv : List (Nat × Value)} {st : List Value} {cc : ByteArray} {nl fr lo : Nat} {ret : Option FieldType} {v : Option Value} {σe : HP} (hX : OkX X RX0 cc nl fr lo ret v σe) {j : Nat} (hj : kd j = 0) {a1 : Value} {r : Int32} {σ2 : HP} {fr2 lo2 : Nat} (hC : Ct X.1 yX0_isGood cX0_isGood 2 (some .boolean) fr2 lo2 [rf X.1 j, a1] σ (some (.int r)) σ2) (hfr : fr2 + 1 ≤ fr) (hlo : 8 + (2 + 11) + lo2 ≤ lo) (hW : (st.map fun v => v.category).sum ≤ 8) (hdg : decode cc pc = .ok (.invokevirtual 68, 3)) (k : Z X σ2 (pc + 3) lv (.int r :: st)) : Z X σ pc lv (a1 :: rf X.1 j :: st) := z_callV hX M_X0_isGood ml_X0_68 (kd_lt hj (by decide)) (cell_0 X.1 hj) rfl hC rfl hfr hlo rfl hW hdg k
theorem ml_X1_25 : Cond.methodLink RX1 25 arraycopyName ∈ wsA := memT 298 (by decide +kernel) (by decide +kernel)
theorem ml_X1_31 : Cond.methodLink RX1 31 yX1_move ∈ wsA := memT 429 (by decide +kernel) (by decide +kernel)
theorem v_X1_31 {X : CX} {σ : HP} {pc : Nat} {lv : List (Nat × Value)} {st : List Value} {cc : ByteArray} {nl fr lo : Nat} {ret : Option FieldType} {v : Option Value} {σe : HP} (hX : OkX X RX1 cc nl fr lo ret v σe) {j : Nat} (hj : kd j = 1) {a1 a2 : Value} {σ2 : HP} {fr2 lo2 : Nat} (hC : Ct X.1 yX1_move cX1_move 3 none fr2 lo2 [rf X.1 j, a1, a2] σ none σ2) (hfr : fr2 + 1 ≤ fr) (hlo : 8 + (3 + 11) + lo2 ≤ lo) (hW : (st.map fun v => v.category).sum ≤ 8) (hdg : decode cc pc = .ok (.invokevirtual 31, 3)) (k : Z X σ2 (pc + 3) lv (st)) : Z X σ pc lv (a2 :: a1 :: rf X.1 j :: st) := z_callV hX M_X1_move ml_X1_31 (kd_lt hj (by decide)) (cell_1 X.1 hj) rfl hC rfl hfr hlo rfl hW hdg k
theorem ml_X2_19 : Cond.methodLink RX2 19 yX4_drift ∈ wsA := memT 479 (by decide +kernel) (by decide +kernel)
theorem v_X2_19 {X : CX} {σ : HP} {pc : Nat} {lv : List (Nat × Value)} {st : List Value} {cc : ByteArray} {nl fr lo : Nat} {ret : Option FieldType} {v : Option Value} {σe : HP} (hX : OkX X RX2 cc nl fr lo ret v σe) {j : Nat} (hj : kd j = 4) {r : Int32} {σ2 : HP} {fr2 lo2 : Nat} (hC : Ct X.1 yX4_drift cX4_drift 1 (some .int) fr2 lo2 [rf X.1 j] σ (some (.int r)) σ2) (hfr : fr2 + 1 ≤ fr) (hlo : 8 + (1 + 11) + lo2 ≤ lo) (hW : (st.map fun v => v.category).sum ≤ 8) (hdg : decode cc pc = .ok (.invokevirtual 19, 3)) (k : Z X σ2 (pc + 3) lv (.int r :: st)) : Z X σ pc lv (rf X.1 j :: st) := z_callV hX M_X4_drift ml_X2_19 (kd_lt hj (by decide)) (cell_4 X.1 hj) rfl hC rfl hfr hlo rfl hW hdg k
theorem ml_X2_32 : Cond.methodLink RX2 32 yX3_canBeRead ∈ wsA := memT 480 (by decide +kernel) (by decide +kernel)
theorem v_X2_32 {X : CX} {σ : HP} {pc : Nat} {lv : List (Nat × Value)} {st : List Value} {cc : ByteArray} {nl fr lo : Nat} {ret : Option FieldType} {v : Option Value} {σe : HP} (hX : OkX X RX2 cc nl fr lo ret v σe) {j : Nat} (hj : kd j = 3) {a1 a2 : Value} {r : Int32} {σ2 : HP} {fr2 lo2 : Nat} (hC : Ct X.1 yX3_canBeRead cX3_canBeRead 5 (some .boolean) fr2 lo2 [rf X.1 j, a1, a2] σ (some (.int r)) σ2) (hfr : fr2 + 1 ≤ fr) (hlo : 8 + (5 + 11) + lo2 ≤ lo) (hW : (st.map fun v => v.category).sum ≤ 8) (hdg : decode cc pc = .ok (.invokevirtual 32, 3)) (k : Z X σ2 (pc + 3) lv (.int r :: st)) : Z X σ pc lv (a2 :: a1 :: rf X.1 j :: st) := z_callV hX M_X3_canBeRead ml_X2_32 (kd_lt hj (by decide)) (cell_3 X.1 hj) rfl hC rfl hfr hlo rfl hW hdg k
theorem ml_X2_36 : Cond.methodLink RX2 36 yX2_insert ∈ wsA := memT 484 (by decide +kernel) (by decide +kernel)
theorem v_X2_36 {X : CX} {σ : HP} {pc : Nat} {lv : List (Nat × Value)} {st : List Value} {cc : ByteArray} {nl fr lo : Nat} {ret : Option FieldType} {v : Option Value} {σe : HP} (hX : OkX X RX2 cc nl fr lo ret v σe) {j : Nat} (hj : kd j = 2) {a1 a2 a3 : Value} {σ2 : HP} {fr2 lo2 : Nat} (hC : Ct X.1 yX2_insert cX2_insert 7 none fr2 lo2 [rf X.1 j, a1, a2, a3] σ none σ2) (hfr : fr2 + 1 ≤ fr) (hlo : 8 + (7 + 11) + lo2 ≤ lo) (hW : (st.map fun v => v.category).sum ≤ 8) (hdg : decode cc pc = .ok (.invokevirtual 36, 3)) (k : Z X σ2 (pc + 3) lv (st)) : Z X σ pc lv (a3 :: a2 :: a1 :: rf X.1 j :: st) := z_callV hX M_X2_insert ml_X2_36 (kd_lt hj (by decide)) (cell_2 X.1 hj) rfl hC rfl hfr hlo rfl hW hdg k
theorem ml_X2_40 : Cond.methodLink RX2 40 yX3_shownAt ∈ wsA := memT 488 (by decide +kernel) (by decide +kernel)
theorem v_X2_40 {X : CX} {σ : HP} {pc : Nat} {lv : List (Nat × Value)} {st : List Value} {cc : ByteArray} {nl fr lo : Nat} {ret : Option FieldType} {v : Option Value} {σe : HP} (hX : OkX X RX2 cc nl fr lo ret v σe) {j : Nat} (hj : kd j = 3) {a1 a2 : Value} {r : Int32} {σ2 : HP} {fr2 lo2 : Nat} (hC : Ct X.1 yX3_shownAt cX3_shownAt 3 (some .int) fr2 lo2 [rf X.1 j, a1, a2] σ (some (.int r)) σ2) (hfr : fr2 + 1 ≤ fr) (hlo : 8 + (3 + 11) + lo2 ≤ lo) (hW : (st.map fun v => v.category).sum ≤ 8) (hdg : decode cc pc = .ok (.invokevirtual 40, 3)) (k : Z X σ2 (pc + 3) lv (.int r :: st)) : Z X σ pc lv (a2 :: a1 :: rf X.1 j :: st) := z_callV hX M_X3_shownAt ml_X2_40 (kd_lt hj (by decide)) (cell_3 X.1 hj) rfl hC rfl hfr hlo rfl hW hdg k
theorem ml_X3_37 : Cond.methodLink RX3 37 arraycopyName ∈ wsA := memT 291 (by decide +kernel) (by decide +kernel)
theorem ml_X3_43 : Cond.methodLink RX3 43 yX3_swapEntries ∈ wsA := memT 343 (by decide +kernel) (by decide +kernel)
theorem v_X3_43 {X : CX} {σ : HP} {pc : Nat} {lv : List (Nat × Value)} {st : List Value} {cc : ByteArray} {nl fr lo : Nat} {ret : Option FieldType} {v : Option Value} {σe : HP} (hX : OkX X RX3 cc nl fr lo ret v σe) {j : Nat} (hj : kd j = 3) {a1 : Value} {σ2 : HP} {fr2 lo2 : Nat} (hC : Ct X.1 yX3_swapEntries cX3_swapEntries 2 none fr2 lo2 [rf X.1 j, a1] σ none σ2) (hfr : fr2 + 1 ≤ fr) (hlo : 8 + (2 + 11) + lo2 ≤ lo) (hW : (st.map fun v => v.category).sum ≤ 8) (hdg : decode cc pc = .ok (.invokevirtual 43, 3)) (k : Z X σ2 (pc + 3) lv (st)) : Z X σ pc lv (a1 :: rf X.1 j :: st) := z_callV hX M_X3_swapEntries ml_X3_43 (kd_lt hj (by decide)) (cell_3 X.1 hj) rfl hC rfl hfr hlo rfl hW hdg k
theorem ml_X3_47 : Cond.methodLink RX3 47 yX3_swapWithNext ∈ wsA := memT 347 (by decide +kernel) (by decide +kernel)
theorem v_X3_47 {X : CX} {σ : HP} {pc : Nat} {lv : List (Nat × Value)} {st : List Value} {cc : ByteArray} {nl fr lo : Nat} {ret : Option FieldType} {v : Option Value} {σe : HP} (hX : OkX X RX3 cc nl fr lo ret v σe) {a1 a2 : Value} {σ2 : HP} {fr2 lo2 : Nat} (hC : Ct X.1 yX3_swapWithNext cX3_swapWithNext 3 none fr2 lo2 [a1, a2] σ none σ2) (hfr : fr2 + 1 ≤ fr) (hlo : 8 + (3 + 11) + lo2 ≤ lo) (hW : (st.map fun v => v.category).sum ≤ 8) (hdg : decode cc pc = .ok (.invokestatic 47, 3)) (k : Z X σ2 (pc + 3) lv (st)) : Z X σ pc lv (a2 :: a1 :: st) := z_callS hX M_X3_swapWithNext ml_X3_47 hC rfl hfr hlo rfl hW hdg k
theorem ml_X3_51 : Cond.methodLink RX3 51 yX3_isTangled ∈ wsA := memT 367 (by decide +kernel) (by decide +kernel)
theorem v_X3_51 {X : CX} {σ : HP} {pc : Nat} {lv : List (Nat × Value)} {st : List Value} {cc : ByteArray} {nl fr lo : Nat} {ret : Option FieldType} {v : Option Value} {σe : HP} (hX : OkX X RX3 cc nl fr lo ret v σe) {j : Nat} (hj : kd j = 3) {a1 : Value} {r : Int32} {σ2 : HP} {fr2 lo2 : Nat} (hC : Ct X.1 yX3_isTangled cX3_isTangled 2 (some .boolean) fr2 lo2 [rf X.1 j, a1] σ (some (.int r)) σ2) (hfr : fr2 + 1 ≤ fr) (hlo : 8 + (2 + 11) + lo2 ≤ lo) (hW : (st.map fun v => v.category).sum ≤ 8) (hdg : decode cc pc = .ok (.invokevirtual 51, 3)) (k : Z X σ2 (pc + 3) lv (.int r :: st)) : Z X σ pc lv (a1 :: rf X.1 j :: st) := z_callV hX M_X3_isTangled ml_X3_51 (kd_lt hj (by decide)) (cell_3 X.1 hj) rfl hC rfl hfr hlo rfl hW hdg k
theorem ml_X3_55 : Cond.methodLink RX3 55 yX3_shownAt ∈ wsA := memT 384 (by decide +kernel) (by decide +kernel)
theorem v_X3_55 {X : CX} {σ : HP} {pc : Nat} {lv : List (Nat × Value)} {st : List Value} {cc : ByteArray} {nl fr lo : Nat} {ret : Option FieldType} {v : Option Value} {σe : HP} (hX : OkX X RX3 cc nl fr lo ret v σe) {j : Nat} (hj : kd j = 3) {a1 a2 : Value} {r : Int32} {σ2 : HP} {fr2 lo2 : Nat} (hC : Ct X.1 yX3_shownAt cX3_shownAt 3 (some .int) fr2 lo2 [rf X.1 j, a1, a2] σ (some (.int r)) σ2) (hfr : fr2 + 1 ≤ fr) (hlo : 8 + (3 + 11) + lo2 ≤ lo) (hW : (st.map fun v => v.category).sum ≤ 8) (hdg : decode cc pc = .ok (.invokevirtual 55, 3)) (k : Z X σ2 (pc + 3) lv (.int r :: st)) : Z X σ pc lv (a2 :: a1 :: rf X.1 j :: st) := z_callV hX M_X3_shownAt ml_X3_55 (kd_lt hj (by decide)) (cell_3 X.1 hj) rfl hC rfl hfr hlo rfl hW hdg k
theorem v_X3_59 {X : CX} {σ : HP} {pc : Nat} {lv : List (Nat × Value)} {st : List Value} {cc : ByteArray} {nl fr lo : Nat} {ret : Option FieldType} {v : Option Value} {σe : HP} (hX : OkX X RX3 cc nl fr lo ret v σe) {a1 a2 : Value} {r : Int32} {σ2 : HP} {fr2 lo2 : Nat} (hC : Ct X.1 yX7_sideOf cX7_sideOf 2 (some .int) fr2 lo2 [a1, a2] σ (some (.int r)) σ2) (hfr : fr2 + 1 ≤ fr) (hlo : 8 + (2 + 11) + lo2 ≤ lo) (hW : (st.map fun v => v.category).sum ≤ 8) (hdg : decode cc pc = .ok (.invokestatic 59, 3)) (k : Z X σ2 (pc + 3) lv (.int r :: st)) : Z X σ pc lv (a2 :: a1 :: st) := z_callN hX M_X7_sideOf (fun _ q => q.1) hC rfl hfr hlo rfl hW hdg k
theorem ml_X3_62 : Cond.methodLink RX3 62 yX3_sideAt ∈ wsA := memT 380 (by decide +kernel) (by decide +kernel)
theorem v_X3_62 {X : CX} {σ : HP} {pc : Nat} {lv : List (Nat × Value)} {st : List Value} {cc : ByteArray} {nl fr lo : Nat} {ret : Option FieldType} {v : Option Value} {σe : HP} (hX : OkX X RX3 cc nl fr lo ret v σe) {j : Nat} (hj : kd j = 3) {a1 a2 : Value} {r : Int32} {σ2 : HP} {fr2 lo2 : Nat} (hC : Ct X.1 yX3_sideAt cX3_sideAt 3 (some .int) fr2 lo2 [rf X.1 j, a1, a2] σ (some (.int r)) σ2) (hfr : fr2 + 1 ≤ fr) (hlo : 8 + (3 + 11) + lo2 ≤ lo) (hW : (st.map fun v => v.category).sum ≤ 8) (hdg : decode cc pc = .ok (.invokevirtual 62, 3)) (k : Z X σ2 (pc + 3) lv (.int r :: st)) : Z X σ pc lv (a2 :: a1 :: rf X.1 j :: st) := z_callV hX M_X3_sideAt ml_X3_62 (kd_lt hj (by decide)) (cell_3 X.1 hj) rfl hC rfl hfr hlo rfl hW hdg k
theorem ml_X4_59 : Cond.methodLink RX4 59 yX3_copyFrom ∈ wsA := memT 287 (by decide +kernel) (by decide +kernel)
theorem v_X4_59 {X : CX} {σ : HP} {pc : Nat} {lv : List (Nat × Value)} {st : List Value} {cc : ByteArray} {nl fr lo : Nat} {ret : Option FieldType} {v : Option Value} {σe : HP} (hX : OkX X RX4 cc nl fr lo ret v σe) {j : Nat} (hj : kd j = 3) {a1 : Value} {σ2 : HP} {fr2 lo2 : Nat} (hC : Ct X.1 yX3_copyFrom cX3_copyFrom 2 none fr2 lo2 [rf X.1 j, a1] σ none σ2) (hfr : fr2 + 1 ≤ fr) (hlo : 8 + (2 + 11) + lo2 ≤ lo) (hW : (st.map fun v => v.category).sum ≤ 8) (hdg : decode cc pc = .ok (.invokevirtual 59, 3)) (k : Z X σ2 (pc + 3) lv (st)) : Z X σ pc lv (a1 :: rf X.1 j :: st) := z_callV hX M_X3_copyFrom ml_X4_59 (kd_lt hj (by decide)) (cell_3 X.1 hj) rfl hC rfl hfr hlo rfl hW hdg k
theorem ml_X4_63 : Cond.methodLink RX4 63 yX1_copyFrom ∈ wsA := memT 294 (by decide +kernel) (by decide +kernel)
theorem v_X4_63 {X : CX} {σ : HP} {pc : Nat} {lv : List (Nat × Value)} {st : List Value} {cc : ByteArray} {nl fr lo : Nat} {ret : Option FieldType} {v : Option Value} {σe : HP} (hX : OkX X RX4 cc nl fr lo ret v σe) {j : Nat} (hj : kd j = 1) {a1 : Value} {σ2 : HP} {fr2 lo2 : Nat} (hC : Ct X.1 yX1_copyFrom cX1_copyFrom 2 none fr2 lo2 [rf X.1 j, a1] σ none σ2) (hfr : fr2 + 1 ≤ fr) (hlo : 8 + (2 + 11) + lo2 ≤ lo) (hW : (st.map fun v => v.category).sum ≤ 8) (hdg : decode cc pc = .ok (.invokevirtual 63, 3)) (k : Z X σ2 (pc + 3) lv (st)) : Z X σ pc lv (a1 :: rf X.1 j :: st) := z_callV hX M_X1_copyFrom ml_X4_63 (kd_lt hj (by decide)) (cell_1 X.1 hj) rfl hC rfl hfr hlo rfl hW hdg k
theorem ml_X4_66 : Cond.methodLink RX4 66 yX5_copyFrom ∈ wsA := memT 299 (by decide +kernel) (by decide +kernel)
theorem v_X4_66 {X : CX} {σ : HP} {pc : Nat} {lv : List (Nat × Value)} {st : List Value} {cc : ByteArray} {nl fr lo : Nat} {ret : Option FieldType} {v : Option Value} {σe : HP} (hX : OkX X RX4 cc nl fr lo ret v σe) {j : Nat} (hj : kd j = 5) {a1 : Value} {σ2 : HP} {fr2 lo2 : Nat} (hC : Ct X.1 yX5_copyFrom cX5_copyFrom 2 none fr2 lo2 [rf X.1 j, a1] σ none σ2) (hfr : fr2 + 1 ≤ fr) (hlo : 8 + (2 + 11) + lo2 ≤ lo) (hW : (st.map fun v => v.category).sum ≤ 8) (hdg : decode cc pc = .ok (.invokevirtual 66, 3)) (k : Z X σ2 (pc + 3) lv (st)) : Z X σ pc lv (a1 :: rf X.1 j :: st) := z_callV hX M_X5_copyFrom ml_X4_66 (kd_lt hj (by decide)) (cell_5 X.1 hj) rfl hC rfl hfr hlo rfl hW hdg k
theorem ml_X4_69 : Cond.methodLink RX4 69 yX6_copyFrom ∈ wsA := memT 304 (by decide +kernel) (by decide +kernel)
theorem v_X4_69 {X : CX} {σ : HP} {pc : Nat} {lv : List (Nat × Value)} {st : List Value} {cc : ByteArray} {nl fr lo : Nat} {ret : Option FieldType} {v : Option Value} {σe : HP} (hX : OkX X RX4 cc nl fr lo ret v σe) {j : Nat} (hj : kd j = 6) {a1 : Value} {σ2 : HP} {fr2 lo2 : Nat} (hC : Ct X.1 yX6_copyFrom cX6_copyFrom 2 none fr2 lo2 [rf X.1 j, a1] σ none σ2) (hfr : fr2 + 1 ≤ fr) (hlo : 8 + (2 + 11) + lo2 ≤ lo) (hW : (st.map fun v => v.category).sum ≤ 8) (hdg : decode cc pc = .ok (.invokevirtual 69, 3)) (k : Z X σ2 (pc + 3) lv (st)) : Z X σ pc lv (a1 :: rf X.1 j :: st) := z_callV hX M_X6_copyFrom ml_X4_69 (kd_lt hj (by decide)) (cell_6 X.1 hj) rfl hC rfl hfr hlo rfl hW hdg k
theorem ml_X4_72 : Cond.methodLink RX4 72 yX4_drift ∈ wsA := memT 372 (by decide +kernel) (by decide +kernel)
theorem v_X4_72 {X : CX} {σ : HP} {pc : Nat} {lv : List (Nat × Value)} {st : List Value} {cc : ByteArray} {nl fr lo : Nat} {ret : Option FieldType} {v : Option Value} {σe : HP} (hX : OkX X RX4 cc nl fr lo ret v σe) {j : Nat} (hj : kd j = 4) {r : Int32} {σ2 : HP} {fr2 lo2 : Nat} (hC : Ct X.1 yX4_drift cX4_drift 1 (some .int) fr2 lo2 [rf X.1 j] σ (some (.int r)) σ2) (hfr : fr2 + 1 ≤ fr) (hlo : 8 + (1 + 11) + lo2 ≤ lo) (hW : (st.map fun v => v.category).sum ≤ 8) (hdg : decode cc pc = .ok (.invokevirtual 72, 3)) (k : Z X σ2 (pc + 3) lv (.int r :: st)) : Z X σ pc lv (rf X.1 j :: st) := z_callV hX M_X4_drift ml_X4_72 (kd_lt hj (by decide)) (cell_4 X.1 hj) rfl hC rfl hfr hlo rfl hW hdg k
theorem ml_X4_76 : Cond.methodLink RX4 76 yX3_wouldTangle ∈ wsA := memT 376 (by decide +kernel) (by decide +kernel)
theorem v_X4_76 {X : CX} {σ : HP} {pc : Nat} {lv : List (Nat × Value)} {st : List Value} {cc : ByteArray} {nl fr lo : Nat} {ret : Option FieldType} {v : Option Value} {σe : HP} (hX : OkX X RX4 cc nl fr lo ret v σe) {j : Nat} (hj : kd j = 3) {a1 a2 : Value} {r : Int32} {σ2 : HP} {fr2 lo2 : Nat} (hC : Ct X.1 yX3_wouldTangle cX3_wouldTangle 5 (some .boolean) fr2 lo2 [rf X.1 j, a1, a2] σ (some (.int r)) σ2) (hfr : fr2 + 1 ≤ fr) (hlo : 8 + (5 + 11) + lo2 ≤ lo) (hW : (st.map fun v => v.category).sum ≤ 8) (hdg : decode cc pc = .ok (.invokevirtual 76, 3)) (k : Z X σ2 (pc + 3) lv (.int r :: st)) : Z X σ pc lv (a2 :: a1 :: rf X.1 j :: st) := z_callV hX M_X3_wouldTangle ml_X4_76 (kd_lt hj (by decide)) (cell_3 X.1 hj) rfl hC rfl hfr hlo rfl hW hdg k
theorem ml_X4_80 : Cond.methodLink RX4 80 yX3_swap ∈ wsA := memT 391 (by decide +kernel) (by decide +kernel)
theorem v_X4_80 {X : CX} {σ : HP} {pc : Nat} {lv : List (Nat × Value)} {st : List Value} {cc : ByteArray} {nl fr lo : Nat} {ret : Option FieldType} {v : Option Value} {σe : HP} (hX : OkX X RX4 cc nl fr lo ret v σe) {j : Nat} (hj : kd j = 3) {a1 : Value} {σ2 : HP} {fr2 lo2 : Nat} (hC : Ct X.1 yX3_swap cX3_swap 2 none fr2 lo2 [rf X.1 j, a1] σ none σ2) (hfr : fr2 + 1 ≤ fr) (hlo : 8 + (2 + 11) + lo2 ≤ lo) (hW : (st.map fun v => v.category).sum ≤ 8) (hdg : decode cc pc = .ok (.invokevirtual 80, 3)) (k : Z X σ2 (pc + 3) lv (st)) : Z X σ pc lv (a1 :: rf X.1 j :: st) := z_callV hX M_X3_swap ml_X4_80 (kd_lt hj (by decide)) (cell_3 X.1 hj) rfl hC rfl hfr hlo rfl hW hdg k
theorem ml_X4_84 : Cond.methodLink RX4 84 yX4_tangleAt ∈ wsA := memT 395 (by decide +kernel) (by decide +kernel)
theorem v_X4_84 {X : CX} {σ : HP} {pc : Nat} {lv : List (Nat × Value)} {st : List Value} {cc : ByteArray} {nl fr lo : Nat} {ret : Option FieldType} {v : Option Value} {σe : HP} (hX : OkX X RX4 cc nl fr lo ret v σe) {j : Nat} (hj : kd j = 4) {a1 a2 : Value} {σ2 : HP} {fr2 lo2 : Nat} (hC : Ct X.1 yX4_tangleAt cX4_tangleAt 3 none fr2 lo2 [rf X.1 j, a1, a2] σ none σ2) (hfr : fr2 + 1 ≤ fr) (hlo : 8 + (3 + 11) + lo2 ≤ lo) (hW : (st.map fun v => v.category).sum ≤ 8) (hdg : decode cc pc = .ok (.invokevirtual 84, 3)) (k : Z X σ2 (pc + 3) lv (st)) : Z X σ pc lv (a2 :: a1 :: rf X.1 j :: st) := z_callV hX M_X4_tangleAt ml_X4_84 (kd_lt hj (by decide)) (cell_4 X.1 hj) rfl hC rfl hfr hlo rfl hW hdg k
theorem ml_X4_88 : Cond.methodLink RX4 88 yX4_passMinute ∈ wsA := memT 413 (by decide +kernel) (by decide +kernel)
theorem v_X4_88 {X : CX} {σ : HP} {pc : Nat} {lv : List (Nat × Value)} {st : List Value} {cc : ByteArray} {nl fr lo : Nat} {ret : Option FieldType} {v : Option Value} {σe : HP} (hX : OkX X RX4 cc nl fr lo ret v σe) {j : Nat} (hj : kd j = 4) {r : Int32} {σ2 : HP} {fr2 lo2 : Nat} (hC : Ct X.1 yX4_passMinute cX4_passMinute 4 (some .int) fr2 lo2 [rf X.1 j] σ (some (.int r)) σ2) (hfr : fr2 + 1 ≤ fr) (hlo : 8 + (4 + 11) + lo2 ≤ lo) (hW : (st.map fun v => v.category).sum ≤ 8) (hdg : decode cc pc = .ok (.invokevirtual 88, 3)) (k : Z X σ2 (pc + 3) lv (.int r :: st)) : Z X σ pc lv (rf X.1 j :: st) := z_callV hX M_X4_passMinute ml_X4_88 (kd_lt hj (by decide)) (cell_4 X.1 hj) rfl hC rfl hfr hlo rfl hW hdg k
theorem ml_X4_91 : Cond.methodLink RX4 91 yX3_loosen ∈ wsA := memT 417 (by decide +kernel) (by decide +kernel)
theorem v_X4_91 {X : CX} {σ : HP} {pc : Nat} {lv : List (Nat × Value)} {st : List Value} {cc : ByteArray} {nl fr lo : Nat} {ret : Option FieldType} {v : Option Value} {σe : HP} (hX : OkX X RX4 cc nl fr lo ret v σe) {j : Nat} (hj : kd j = 3) {σ2 : HP} {fr2 lo2 : Nat} (hC : Ct X.1 yX3_loosen cX3_loosen 2 none fr2 lo2 [rf X.1 j] σ none σ2) (hfr : fr2 + 1 ≤ fr) (hlo : 8 + (2 + 11) + lo2 ≤ lo) (hW : (st.map fun v => v.category).sum ≤ 8) (hdg : decode cc pc = .ok (.invokevirtual 91, 3)) (k : Z X σ2 (pc + 3) lv (st)) : Z X σ pc lv (rf X.1 j :: st) := z_callV hX M_X3_loosen ml_X4_91 (kd_lt hj (by decide)) (cell_3 X.1 hj) rfl hC rfl hfr hlo rfl hW hdg k
theorem ml_X4_94 : Cond.methodLink RX4 94 yX1_rankOf ∈ wsA := memT 421 (by decide +kernel) (by decide +kernel)
theorem v_X4_94 {X : CX} {σ : HP} {pc : Nat} {lv : List (Nat × Value)} {st : List Value} {cc : ByteArray} {nl fr lo : Nat} {ret : Option FieldType} {v : Option Value} {σe : HP} (hX : OkX X RX4 cc nl fr lo ret v σe) {j : Nat} (hj : kd j = 1) {a1 : Value} {r : Int32} {σ2 : HP} {fr2 lo2 : Nat} (hC : Ct X.1 yX1_rankOf cX1_rankOf 3 (some .int) fr2 lo2 [rf X.1 j, a1] σ (some (.int r)) σ2) (hfr : fr2 + 1 ≤ fr) (hlo : 8 + (3 + 11) + lo2 ≤ lo) (hW : (st.map fun v => v.category).sum ≤ 8) (hdg : decode cc pc = .ok (.invokevirtual 94, 3)) (k : Z X σ2 (pc + 3) lv (.int r :: st)) : Z X σ pc lv (a1 :: rf X.1 j :: st) := z_callV hX M_X1_rankOf ml_X4_94 (kd_lt hj (by decide)) (cell_1 X.1 hj) rfl hC rfl hfr hlo rfl hW hdg k
theorem ml_X4_103 : Cond.methodLink RX4 103 yX1_remove ∈ wsA := memT 425 (by decide +kernel) (by decide +kernel)
theorem v_X4_103 {X : CX} {σ : HP} {pc : Nat} {lv : List (Nat × Value)} {st : List Value} {cc : ByteArray} {nl fr lo : Nat} {ret : Option FieldType} {v : Option Value} {σe : HP} (hX : OkX X RX4 cc nl fr lo ret v σe) {j : Nat} (hj : kd j = 1) {a1 : Value} {σ2 : HP} {fr2 lo2 : Nat} (hC : Ct X.1 yX1_remove cX1_remove 3 none fr2 lo2 [rf X.1 j, a1] σ none σ2) (hfr : fr2 + 1 ≤ fr) (hlo : 8 + (3 + 11) + lo2 ≤ lo) (hW : (st.map fun v => v.category).sum ≤ 8) (hdg : decode cc pc = .ok (.invokevirtual 103, 3)) (k : Z X σ2 (pc + 3) lv (st)) : Z X σ pc lv (a1 :: rf X.1 j :: st) := z_callV hX M_X1_remove ml_X4_103 (kd_lt hj (by decide)) (cell_1 X.1 hj) rfl hC rfl hfr hlo rfl hW hdg k
theorem ml_X4_106 : Cond.methodLink RX4 106 yX4_turnWind ∈ wsA := memT 433 (by decide +kernel) (by decide +kernel)
theorem v_X4_106 {X : CX} {σ : HP} {pc : Nat} {lv : List (Nat × Value)} {st : List Value} {cc : ByteArray} {nl fr lo : Nat} {ret : Option FieldType} {v : Option Value} {σe : HP} (hX : OkX X RX4 cc nl fr lo ret v σe) {j : Nat} (hj : kd j = 4) {a1 a2 : Value} {r : Int32} {σ2 : HP} {fr2 lo2 : Nat} (hC : Ct X.1 yX4_turnWind cX4_turnWind 6 (some .int) fr2 lo2 [rf X.1 j, a1, a2] σ (some (.int r)) σ2) (hfr : fr2 + 1 ≤ fr) (hlo : 8 + (6 + 11) + lo2 ≤ lo) (hW : (st.map fun v => v.category).sum ≤ 8) (hdg : decode cc pc = .ok (.invokevirtual 106, 3)) (k : Z X σ2 (pc + 3) lv (.int r :: st)) : Z X σ pc lv (a2 :: a1 :: rf X.1 j :: st) := z_callV hX M_X4_turnWind ml_X4_106 (kd_lt hj (by decide)) (cell_4 X.1 hj) rfl hC rfl hfr hlo rfl hW hdg k
theorem ml_X4_113 : Cond.methodLink RX4 113 yX3_isPairFree ∈ wsA := memT 437 (by decide +kernel) (by decide +kernel)
theorem v_X4_113 {X : CX} {σ : HP} {pc : Nat} {lv : List (Nat × Value)} {st : List Value} {cc : ByteArray} {nl fr lo : Nat} {ret : Option FieldType} {v : Option Value} {σe : HP} (hX : OkX X RX4 cc nl fr lo ret v σe) {j : Nat} (hj : kd j = 3) {a1 : Value} {r : Int32} {σ2 : HP} {fr2 lo2 : Nat} (hC : Ct X.1 yX3_isPairFree cX3_isPairFree 2 (some .boolean) fr2 lo2 [rf X.1 j, a1] σ (some (.int r)) σ2) (hfr : fr2 + 1 ≤ fr) (hlo : 8 + (2 + 11) + lo2 ≤ lo) (hW : (st.map fun v => v.category).sum ≤ 8) (hdg : decode cc pc = .ok (.invokevirtual 113, 3)) (k : Z X σ2 (pc + 3) lv (.int r :: st)) : Z X σ pc lv (a1 :: rf X.1 j :: st) := z_callV hX M_X3_isPairFree ml_X4_113 (kd_lt hj (by decide)) (cell_3 X.1 hj) rfl hC rfl hfr hlo rfl hW hdg k
theorem ml_X4_117 : Cond.methodLink RX4 117 yX3_sideAt ∈ wsA := memT 438 (by decide +kernel) (by decide +kernel)
theorem v_X4_117 {X : CX} {σ : HP} {pc : Nat} {lv : List (Nat × Value)} {st : List Value} {cc : ByteArray} {nl fr lo : Nat} {ret : Option FieldType} {v : Option Value} {σe : HP} (hX : OkX X RX4 cc nl fr lo ret v σe) {j : Nat} (hj : kd j = 3) {a1 a2 : Value} {r : Int32} {σ2 : HP} {fr2 lo2 : Nat} (hC : Ct X.1 yX3_sideAt cX3_sideAt 3 (some .int) fr2 lo2 [rf X.1 j, a1, a2] σ (some (.int r)) σ2) (hfr : fr2 + 1 ≤ fr) (hlo : 8 + (3 + 11) + lo2 ≤ lo) (hW : (st.map fun v => v.category).sum ≤ 8) (hdg : decode cc pc = .ok (.invokevirtual 117, 3)) (k : Z X σ2 (pc + 3) lv (.int r :: st)) : Z X σ pc lv (a2 :: a1 :: rf X.1 j :: st) := z_callV hX M_X3_sideAt ml_X4_117 (kd_lt hj (by decide)) (cell_3 X.1 hj) rfl hC rfl hfr hlo rfl hW hdg k
theorem ml_X4_121 : Cond.methodLink RX4 121 yX3_isTangled ∈ wsA := memT 597 (by decide +kernel) (by decide +kernel)
theorem v_X4_121 {X : CX} {σ : HP} {pc : Nat} {lv : List (Nat × Value)} {st : List Value} {cc : ByteArray} {nl fr lo : Nat} {ret : Option FieldType} {v : Option Value} {σe : HP} (hX : OkX X RX4 cc nl fr lo ret v σe) {j : Nat} (hj : kd j = 3) {a1 : Value} {r : Int32} {σ2 : HP} {fr2 lo2 : Nat} (hC : Ct X.1 yX3_isTangled cX3_isTangled 2 (some .boolean) fr2 lo2 [rf X.1 j, a1] σ (some (.int r)) σ2) (hfr : fr2 + 1 ≤ fr) (hlo : 8 + (2 + 11) + lo2 ≤ lo) (hW : (st.map fun v => v.category).sum ≤ 8) (hdg : decode cc pc = .ok (.invokevirtual 121, 3)) (k : Z X σ2 (pc + 3) lv (.int r :: st)) : Z X σ pc lv (a1 :: rf X.1 j :: st) := z_callV hX M_X3_isTangled ml_X4_121 (kd_lt hj (by decide)) (cell_3 X.1 hj) rfl hC rfl hfr hlo rfl hW hdg k
theorem ml_X4_124 : Cond.methodLink RX4 124 yX3_tie ∈ wsA := memT 399 (by decide +kernel) (by decide +kernel)
theorem v_X4_124 {X : CX} {σ : HP} {pc : Nat} {lv : List (Nat × Value)} {st : List Value} {cc : ByteArray} {nl fr lo : Nat} {ret : Option FieldType} {v : Option Value} {σe : HP} (hX : OkX X RX4 cc nl fr lo ret v σe) {j : Nat} (hj : kd j = 3) {a1 a2 : Value} {σ2 : HP} {fr2 lo2 : Nat} (hC : Ct X.1 yX3_tie cX3_tie 3 none fr2 lo2 [rf X.1 j, a1, a2] σ none σ2) (hfr : fr2 + 1 ≤ fr) (hlo : 8 + (3 + 11) + lo2 ≤ lo) (hW : (st.map fun v => v.category).sum ≤ 8) (hdg : decode cc pc = .ok (.invokevirtual 124, 3)) (k : Z X σ2 (pc + 3) lv (st)) : Z X σ pc lv (a2 :: a1 :: rf X.1 j :: st) := z_callV hX M_X3_tie ml_X4_124 (kd_lt hj (by decide)) (cell_3 X.1 hj) rfl hC rfl hfr hlo rfl hW hdg k
theorem v_X4_131 {X : CX} {σ : HP} {pc : Nat} {lv : List (Nat × Value)} {st : List Value} {cc : ByteArray} {nl fr lo : Nat} {ret : Option FieldType} {v : Option Value} {σe : HP} (hX : OkX X RX4 cc nl fr lo ret v σe) {a1 : Value} {r : Int32} {σ2 : HP} {fr2 lo2 : Nat} (hC : Ct X.1 yX7_asNumber cX7_asNumber 1 (some .int) fr2 lo2 [a1] σ (some (.int r)) σ2) (hfr : fr2 + 1 ≤ fr) (hlo : 8 + (1 + 11) + lo2 ≤ lo) (hW : (st.map fun v => v.category).sum ≤ 8) (hdg : decode cc pc = .ok (.invokestatic 131, 3)) (k : Z X σ2 (pc + 3) lv (.int r :: st)) : Z X σ pc lv (a1 :: st) := z_callN hX M_X7_asNumber (fun _ q => q.2) hC rfl hfr hlo rfl hW hdg k
theorem ml_X4_135 : Cond.methodLink RX4 135 yX5_add ∈ wsA := memT 406 (by decide +kernel) (by decide +kernel)
theorem v_X4_135 {X : CX} {σ : HP} {pc : Nat} {lv : List (Nat × Value)} {st : List Value} {cc : ByteArray} {nl fr lo : Nat} {ret : Option FieldType} {v : Option Value} {σe : HP} (hX : OkX X RX4 cc nl fr lo ret v σe) {j : Nat} (hj : kd j = 5) {a1 a2 a3 a4 : Value} {σ2 : HP} {fr2 lo2 : Nat} (hC : Ct X.1 yX5_add cX5_add 6 none fr2 lo2 [rf X.1 j, a1, a2, a3, a4] σ none σ2) (hfr : fr2 + 1 ≤ fr) (hlo : 8 + (6 + 11) + lo2 ≤ lo) (hW : (st.map fun v => v.category).sum ≤ 8) (hdg : decode cc pc = .ok (.invokevirtual 135, 3)) (k : Z X σ2 (pc + 3) lv (st)) : Z X σ pc lv (a4 :: a3 :: a2 :: a1 :: rf X.1 j :: st) := z_callV hX M_X5_add ml_X4_135 (kd_lt hj (by decide)) (cell_5 X.1 hj) rfl hC rfl hfr hlo rfl hW hdg k
theorem ml_X5_31 : Cond.methodLink RX5 31 arraycopyName ∈ wsA := memT 303 (by decide +kernel) (by decide +kernel)
theorem ml_X5_37 : Cond.methodLink RX5 37 Lib.Math.min.name ∈ wsA := memT 410 (by decide +kernel) (by decide +kernel)
theorem ml_X6_19 : Cond.methodLink RX6 19 arraycopyName ∈ wsA := memT 308 (by decide +kernel) (by decide +kernel)
theorem ml_X6_25 : Cond.methodLink RX6 25 Lib.Math.min.name ∈ wsA := memT 509 (by decide +kernel) (by decide +kernel)
theorem ml_X8_43 : Cond.methodLink RX8 43 yX8_lays ∈ wsA := memT 675 (by decide +kernel) (by decide +kernel)
theorem v_X8_43 {X : CX} {σ : HP} {pc : Nat} {lv : List (Nat × Value)} {st : List Value} {cc : ByteArray} {nl fr lo : Nat} {ret : Option FieldType} {v : Option Value} {σe : HP} (hX : OkX X RX8 cc nl fr lo ret v σe) {a1 a2 a3 a4 : Value} {σ2 : HP} {fr2 lo2 : Nat} (hC : Ct X.1 yX8_lays cX8_lays 5 none fr2 lo2 [a1, a2, a3, a4] σ none σ2) (hfr : fr2 + 1 ≤ fr) (hlo : 8 + (5 + 11) + lo2 ≤ lo) (hW : (st.map fun v => v.category).sum ≤ 8) (hdg : decode cc pc = .ok (.invokestatic 43, 3)) (k : Z X σ2 (pc + 3) lv (st)) : Z X σ pc lv (a4 :: a3 :: a2 :: a1 :: st) := z_callS hX M_X8_lays ml_X8_43 hC rfl hfr hlo rfl hW hdg k
theorem ml_X8_47 : Cond.methodLink RX8 47 yX8_in ∈ wsA := memT 662 (by decide +kernel) (by decide +kernel)
theorem v_X8_47 {X : CX} {σ : HP} {pc : Nat} {lv : List (Nat × Value)} {st : List Value} {cc : ByteArray} {nl fr lo : Nat} {ret : Option FieldType} {v : Option Value} {σe : HP} (hX : OkX X RX8 cc nl fr lo ret v σe) {a1 a2 a3 : Value} {r : Int32} {σ2 : HP} {fr2 lo2 : Nat} (hC : Ct X.1 yX8_in cX8_in 3 (some .boolean) fr2 lo2 [a1, a2, a3] σ (some (.int r)) σ2) (hfr : fr2 + 1 ≤ fr) (hlo : 8 + (3 + 11) + lo2 ≤ lo) (hW : (st.map fun v => v.category).sum ≤ 8) (hdg : decode cc pc = .ok (.invokestatic 47, 3)) (k : Z X σ2 (pc + 3) lv (.int r :: st)) : Z X σ pc lv (a3 :: a2 :: a1 :: st) := z_callS hX M_X8_in ml_X8_47 hC rfl hfr hlo rfl hW hdg k
theorem ml_X8_51 : Cond.methodLink RX8 51 yX8_of ∈ wsA := memT 707 (by decide +kernel) (by decide +kernel)
theorem v_X8_51 {X : CX} {σ : HP} {pc : Nat} {lv : List (Nat × Value)} {st : List Value} {cc : ByteArray} {nl fr lo : Nat} {ret : Option FieldType} {v : Option Value} {σe : HP} (hX : OkX X RX8 cc nl fr lo ret v σe) {a1 a2 a3 : Value} {r : Int32} {σ2 : HP} {fr2 lo2 : Nat} (hC : Ct X.1 yX8_of cX8_of 3 (some .int) fr2 lo2 [a1, a2, a3] σ (some (.int r)) σ2) (hfr : fr2 + 1 ≤ fr) (hlo : 8 + (3 + 11) + lo2 ≤ lo) (hW : (st.map fun v => v.category).sum ≤ 8) (hdg : decode cc pc = .ok (.invokestatic 51, 3)) (k : Z X σ2 (pc + 3) lv (.int r :: st)) : Z X σ pc lv (a3 :: a2 :: a1 :: st) := z_callS hX M_X8_of ml_X8_51 hC rfl hfr hlo rfl hW hdg k
theorem ml_X8_55 : Cond.methodLink RX8 55 yX8_aside ∈ wsA := memT 726 (by decide +kernel) (by decide +kernel)
theorem v_X8_55 {X : CX} {σ : HP} {pc : Nat} {lv : List (Nat × Value)} {st : List Value} {cc : ByteArray} {nl fr lo : Nat} {ret : Option FieldType} {v : Option Value} {σe : HP} (hX : OkX X RX8 cc nl fr lo ret v σe) {a1 a2 : Value} {r : Int32} {σ2 : HP} {fr2 lo2 : Nat} (hC : Ct X.1 yX8_aside cX8_aside 3 (some .int) fr2 lo2 [a1, a2] σ (some (.int r)) σ2) (hfr : fr2 + 1 ≤ fr) (hlo : 8 + (3 + 11) + lo2 ≤ lo) (hW : (st.map fun v => v.category).sum ≤ 8) (hdg : decode cc pc = .ok (.invokestatic 55, 3)) (k : Z X σ2 (pc + 3) lv (.int r :: st)) : Z X σ pc lv (a2 :: a1 :: st) := z_callS hX M_X8_aside ml_X8_55 hC rfl hfr hlo rfl hW hdg k
theorem ml_X8_59 : Cond.methodLink RX8 59 yX8_isTangled ∈ wsA := memT 704 (by decide +kernel) (by decide +kernel)
theorem v_X8_59 {X : CX} {σ : HP} {pc : Nat} {lv : List (Nat × Value)} {st : List Value} {cc : ByteArray} {nl fr lo : Nat} {ret : Option FieldType} {v : Option Value} {σe : HP} (hX : OkX X RX8 cc nl fr lo ret v σe) {a1 a2 : Value} {r : Int32} {σ2 : HP} {fr2 lo2 : Nat} (hC : Ct X.1 yX8_isTangled cX8_isTangled 2 (some .boolean) fr2 lo2 [a1, a2] σ (some (.int r)) σ2) (hfr : fr2 + 1 ≤ fr) (hlo : 8 + (2 + 11) + lo2 ≤ lo) (hW : (st.map fun v => v.category).sum ≤ 8) (hdg : decode cc pc = .ok (.invokestatic 59, 3)) (k : Z X σ2 (pc + 3) lv (.int r :: st)) : Z X σ pc lv (a2 :: a1 :: st) := z_callS hX M_X8_isTangled ml_X8_59 hC rfl hfr hlo rfl hW hdg k
theorem ml_X8_63 : Cond.methodLink RX8 63 yX8_shown ∈ wsA := memT 752 (by decide +kernel) (by decide +kernel)
theorem v_X8_63 {X : CX} {σ : HP} {pc : Nat} {lv : List (Nat × Value)} {st : List Value} {cc : ByteArray} {nl fr lo : Nat} {ret : Option FieldType} {v : Option Value} {σe : HP} (hX : OkX X RX8 cc nl fr lo ret v σe) {a1 a2 : Value} {r : Int32} {σ2 : HP} {fr2 lo2 : Nat} (hC : Ct X.1 yX8_shown cX8_shown 2 (some .int) fr2 lo2 [a1, a2] σ (some (.int r)) σ2) (hfr : fr2 + 1 ≤ fr) (hlo : 8 + (2 + 11) + lo2 ≤ lo) (hW : (st.map fun v => v.category).sum ≤ 8) (hdg : decode cc pc = .ok (.invokestatic 63, 3)) (k : Z X σ2 (pc + 3) lv (.int r :: st)) : Z X σ pc lv (a2 :: a1 :: st) := z_callS hX M_X8_shown ml_X8_63 hC rfl hfr hlo rfl hW hdg k
theorem ml_X8_66 : Cond.methodLink RX8 66 yX8_isRead ∈ wsA := memT 785 (by decide +kernel) (by decide +kernel)
theorem v_X8_66 {X : CX} {σ : HP} {pc : Nat} {lv : List (Nat × Value)} {st : List Value} {cc : ByteArray} {nl fr lo : Nat} {ret : Option FieldType} {v : Option Value} {σe : HP} (hX : OkX X RX8 cc nl fr lo ret v σe) {a1 a2 : Value} {r : Int32} {σ2 : HP} {fr2 lo2 : Nat} (hC : Ct X.1 yX8_isRead cX8_isRead 4 (some .boolean) fr2 lo2 [a1, a2] σ (some (.int r)) σ2) (hfr : fr2 + 1 ≤ fr) (hlo : 8 + (4 + 11) + lo2 ≤ lo) (hW : (st.map fun v => v.category).sum ≤ 8) (hdg : decode cc pc = .ok (.invokestatic 66, 3)) (k : Z X σ2 (pc + 3) lv (.int r :: st)) : Z X σ pc lv (a2 :: a1 :: st) := z_callS hX M_X8_isRead ml_X8_66 hC rfl hfr hlo rfl hW hdg k
theorem ml_X8_70 : Cond.methodLink RX8 70 yX8_readable ∈ wsA := memT 782 (by decide +kernel) (by decide +kernel)
theorem v_X8_70 {X : CX} {σ : HP} {pc : Nat} {lv : List (Nat × Value)} {st : List Value} {cc : ByteArray} {nl fr lo : Nat} {ret : Option FieldType} {v : Option Value} {σe : HP} (hX : OkX X RX8 cc nl fr lo ret v σe) {a1 : Value} {r : Int32} {σ2 : HP} {fr2 lo2 : Nat} (hC : Ct X.1 yX8_readable cX8_readable 3 (some .int) fr2 lo2 [a1] σ (some (.int r)) σ2) (hfr : fr2 + 1 ≤ fr) (hlo : 8 + (3 + 11) + lo2 ≤ lo) (hW : (st.map fun v => v.category).sum ≤ 8) (hdg : decode cc pc = .ok (.invokestatic 70, 3)) (k : Z X σ2 (pc + 3) lv (.int r :: st)) : Z X σ pc lv (a1 :: st) := z_callS hX M_X8_readable ml_X8_70 hC rfl hfr hlo rfl hW hdg k
theorem ml_X8_74 : Cond.methodLink RX8 74 yX8_ranked ∈ wsA := memT 836 (by decide +kernel) (by decide +kernel)
theorem v_X8_74 {X : CX} {σ : HP} {pc : Nat} {lv : List (Nat × Value)} {st : List Value} {cc : ByteArray} {nl fr lo : Nat} {ret : Option FieldType} {v : Option Value} {σe : HP} (hX : OkX X RX8 cc nl fr lo ret v σe) {a1 a2 : Value} {r : Int32} {σ2 : HP} {fr2 lo2 : Nat} (hC : Ct X.1 yX8_ranked cX8_ranked 6 (some .int) fr2 lo2 [a1, a2] σ (some (.int r)) σ2) (hfr : fr2 + 1 ≤ fr) (hlo : 8 + (6 + 11) + lo2 ≤ lo) (hW : (st.map fun v => v.category).sum ≤ 8) (hdg : decode cc pc = .ok (.invokestatic 74, 3)) (k : Z X σ2 (pc + 3) lv (.int r :: st)) : Z X σ pc lv (a2 :: a1 :: st) := z_callS hX M_X8_ranked ml_X8_74 hC rfl hfr hlo rfl hW hdg k
theorem ml_X8_77 : Cond.methodLink RX8 77 yX8_letterAt ∈ wsA := memT 854 (by decide +kernel) (by decide +kernel)
theorem v_X8_77 {X : CX} {σ : HP} {pc : Nat} {lv : List (Nat × Value)} {st : List Value} {cc : ByteArray} {nl fr lo : Nat} {ret : Option FieldType} {v : Option Value} {σe : HP} (hX : OkX X RX8 cc nl fr lo ret v σe) {a1 a2 : Value} {r : Int32} {σ2 : HP} {fr2 lo2 : Nat} (hC : Ct X.1 yX8_letterAt cX8_letterAt 2 (some .int) fr2 lo2 [a1, a2] σ (some (.int r)) σ2) (hfr : fr2 + 1 ≤ fr) (hlo : 8 + (2 + 11) + lo2 ≤ lo) (hW : (st.map fun v => v.category).sum ≤ 8) (hdg : decode cc pc = .ok (.invokestatic 77, 3)) (k : Z X σ2 (pc + 3) lv (.int r :: st)) : Z X σ pc lv (a2 :: a1 :: st) := z_callS hX M_X8_letterAt ml_X8_77 hC rfl hfr hlo rfl hW hdg k
theorem ml_X8_80 : Cond.methodLink RX8 80 yX8_laysGoal ∈ wsA := memT 850 (by decide +kernel) (by decide +kernel)
theorem v_X8_80 {X : CX} {σ : HP} {pc : Nat} {lv : List (Nat × Value)} {st : List Value} {cc : ByteArray} {nl fr lo : Nat} {ret : Option FieldType} {v : Option Value} {σe : HP} (hX : OkX X RX8 cc nl fr lo ret v σe) {j : Nat} (hj : kd j = 8) {a1 : Value} {r : Int32} {σ2 : HP} {fr2 lo2 : Nat} (hC : Ct X.1 yX8_laysGoal cX8_laysGoal 5 (some .boolean) fr2 lo2 [rf X.1 j, a1] σ (some (.int r)) σ2) (hfr : fr2 + 1 ≤ fr) (hlo : 8 + (5 + 11) + lo2 ≤ lo) (hW : (st.map fun v => v.category).sum ≤ 8) (hdg : decode cc pc = .ok (.invokevirtual 80, 3)) (k : Z X σ2 (pc + 3) lv (.int r :: st)) : Z X σ pc lv (a1 :: rf X.1 j :: st) := z_callV hX M_X8_laysGoal ml_X8_80 (kd_lt hj (by decide)) (cell_8 X.1 hj) rfl hC rfl hfr hlo rfl hW hdg k
theorem ml_X8_84 : Cond.methodLink RX8 84 yX8_puts ∈ wsA := memT 682 (by decide +kernel) (by decide +kernel)
theorem v_X8_84 {X : CX} {σ : HP} {pc : Nat} {lv : List (Nat × Value)} {st : List Value} {cc : ByteArray} {nl fr lo : Nat} {ret : Option FieldType} {v : Option Value} {σe : HP} (hX : OkX X RX8 cc nl fr lo ret v σe) {a1 a2 a3 a4 : Value} {σ2 : HP} {fr2 lo2 : Nat} (hC : Ct X.1 yX8_puts cX8_puts 4 none fr2 lo2 [a1, a2, a3, a4] σ none σ2) (hfr : fr2 + 1 ≤ fr) (hlo : 8 + (4 + 11) + lo2 ≤ lo) (hW : (st.map fun v => v.category).sum ≤ 8) (hdg : decode cc pc = .ok (.invokestatic 84, 3)) (k : Z X σ2 (pc + 3) lv (st)) : Z X σ pc lv (a4 :: a3 :: a2 :: a1 :: st) := z_callS hX M_X8_puts ml_X8_84 hC rfl hfr hlo rfl hW hdg k
theorem ml_X8_88 : Cond.methodLink RX8 88 yX8_logs ∈ wsA := memT 735 (by decide +kernel) (by decide +kernel)
theorem v_X8_88 {X : CX} {σ : HP} {pc : Nat} {lv : List (Nat × Value)} {st : List Value} {cc : ByteArray} {nl fr lo : Nat} {ret : Option FieldType} {v : Option Value} {σe : HP} (hX : OkX X RX8 cc nl fr lo ret v σe) {a1 a2 a3 : Value} {σ2 : HP} {fr2 lo2 : Nat} (hC : Ct X.1 yX8_logs cX8_logs 4 none fr2 lo2 [a1, a2, a3] σ none σ2) (hfr : fr2 + 1 ≤ fr) (hlo : 8 + (4 + 11) + lo2 ≤ lo) (hW : (st.map fun v => v.category).sum ≤ 8) (hdg : decode cc pc = .ok (.invokestatic 88, 3)) (k : Z X σ2 (pc + 3) lv (st)) : Z X σ pc lv (a3 :: a2 :: a1 :: st) := z_callS hX M_X8_logs ml_X8_88 hC rfl hfr hlo rfl hW hdg k
theorem ml_X8_92 : Cond.methodLink RX8 92 yX8_relation ∈ wsA := memT 749 (by decide +kernel) (by decide +kernel)
theorem v_X8_92 {X : CX} {σ : HP} {pc : Nat} {lv : List (Nat × Value)} {st : List Value} {cc : ByteArray} {nl fr lo : Nat} {ret : Option FieldType} {v : Option Value} {σe : HP} (hX : OkX X RX8 cc nl fr lo ret v σe) {a1 a2 : Value} {r : Int32} {σ2 : HP} {fr2 lo2 : Nat} (hC : Ct X.1 yX8_relation cX8_relation 3 (some .int) fr2 lo2 [a1, a2] σ (some (.int r)) σ2) (hfr : fr2 + 1 ≤ fr) (hlo : 8 + (3 + 11) + lo2 ≤ lo) (hW : (st.map fun v => v.category).sum ≤ 8) (hdg : decode cc pc = .ok (.invokestatic 92, 3)) (k : Z X σ2 (pc + 3) lv (.int r :: st)) : Z X σ pc lv (a2 :: a1 :: st) := z_callS hX M_X8_relation ml_X8_92 hC rfl hfr hlo rfl hW hdg k
theorem ml_X8_95 : Cond.methodLink RX8 95 yX8_tangles ∈ wsA := memT 732 (by decide +kernel) (by decide +kernel)
theorem v_X8_95 {X : CX} {σ : HP} {pc : Nat} {lv : List (Nat × Value)} {st : List Value} {cc : ByteArray} {nl fr lo : Nat} {ret : Option FieldType} {v : Option Value} {σe : HP} (hX : OkX X RX8 cc nl fr lo ret v σe) {a1 a2 a3 : Value} {σ2 : HP} {fr2 lo2 : Nat} (hC : Ct X.1 yX8_tangles cX8_tangles 3 none fr2 lo2 [a1, a2, a3] σ none σ2) (hfr : fr2 + 1 ≤ fr) (hlo : 8 + (3 + 11) + lo2 ≤ lo) (hW : (st.map fun v => v.category).sum ≤ 8) (hdg : decode cc pc = .ok (.invokestatic 95, 3)) (k : Z X σ2 (pc + 3) lv (st)) : Z X σ pc lv (a3 :: a2 :: a1 :: st) := z_callS hX M_X8_tangles ml_X8_95 hC rfl hfr hlo rfl hW hdg k
theorem ml_X8_98 : Cond.methodLink RX8 98 yX8_dropsTurn ∈ wsA := memT 742 (by decide +kernel) (by decide +kernel)
theorem v_X8_98 {X : CX} {σ : HP} {pc : Nat} {lv : List (Nat × Value)} {st : List Value} {cc : ByteArray} {nl fr lo : Nat} {ret : Option FieldType} {v : Option Value} {σe : HP} (hX : OkX X RX8 cc nl fr lo ret v σe) {a1 a2 : Value} {σ2 : HP} {fr2 lo2 : Nat} (hC : Ct X.1 yX8_dropsTurn cX8_dropsTurn 3 none fr2 lo2 [a1, a2] σ none σ2) (hfr : fr2 + 1 ≤ fr) (hlo : 8 + (3 + 11) + lo2 ≤ lo) (hW : (st.map fun v => v.category).sum ≤ 8) (hdg : decode cc pc = .ok (.invokestatic 98, 3)) (k : Z X σ2 (pc + 3) lv (st)) : Z X σ pc lv (a2 :: a1 :: st) := z_callS hX M_X8_dropsTurn ml_X8_98 hC rfl hfr hlo rfl hW hdg k
theorem ml_X8_102 : Cond.methodLink RX8 102 yX8_blows ∈ wsA := memT 745 (by decide +kernel) (by decide +kernel)
theorem v_X8_102 {X : CX} {σ : HP} {pc : Nat} {lv : List (Nat × Value)} {st : List Value} {cc : ByteArray} {nl fr lo : Nat} {ret : Option FieldType} {v : Option Value} {σe : HP} (hX : OkX X RX8 cc nl fr lo ret v σe) {j : Nat} (hj : kd j = 8) {a1 a2 a3 : Value} {r : Int32} {σ2 : HP} {fr2 lo2 : Nat} (hC : Ct X.1 yX8_blows cX8_blows 6 (some .int) fr2 lo2 [rf X.1 j, a1, a2, a3] σ (some (.int r)) σ2) (hfr : fr2 + 1 ≤ fr) (hlo : 8 + (6 + 11) + lo2 ≤ lo) (hW : (st.map fun v => v.category).sum ≤ 8) (hdg : decode cc pc = .ok (.invokevirtual 102, 3)) (k : Z X σ2 (pc + 3) lv (.int r :: st)) : Z X σ pc lv (a3 :: a2 :: a1 :: rf X.1 j :: st) := z_callV hX M_X8_blows ml_X8_102 (kd_lt hj (by decide)) (cell_8 X.1 hj) rfl hC rfl hfr hlo rfl hW hdg k
theorem ml_X8_105 : Cond.methodLink RX8 105 yX8_wouldTangle ∈ wsA := memT 723 (by decide +kernel) (by decide +kernel)
theorem v_X8_105 {X : CX} {σ : HP} {pc : Nat} {lv : List (Nat × Value)} {st : List Value} {cc : ByteArray} {nl fr lo : Nat} {ret : Option FieldType} {v : Option Value} {σe : HP} (hX : OkX X RX8 cc nl fr lo ret v σe) {a1 a2 : Value} {r : Int32} {σ2 : HP} {fr2 lo2 : Nat} (hC : Ct X.1 yX8_wouldTangle cX8_wouldTangle 6 (some .boolean) fr2 lo2 [a1, a2] σ (some (.int r)) σ2) (hfr : fr2 + 1 ≤ fr) (hlo : 8 + (6 + 11) + lo2 ≤ lo) (hW : (st.map fun v => v.category).sum ≤ 8) (hdg : decode cc pc = .ok (.invokestatic 105, 3)) (k : Z X σ2 (pc + 3) lv (.int r :: st)) : Z X σ pc lv (a2 :: a1 :: st) := z_callS hX M_X8_wouldTangle ml_X8_105 hC rfl hfr hlo rfl hW hdg k
theorem ml_X8_108 : Cond.methodLink RX8 108 yX8_swaps ∈ wsA := memT 729 (by decide +kernel) (by decide +kernel)
theorem v_X8_108 {X : CX} {σ : HP} {pc : Nat} {lv : List (Nat × Value)} {st : List Value} {cc : ByteArray} {nl fr lo : Nat} {ret : Option FieldType} {v : Option Value} {σe : HP} (hX : OkX X RX8 cc nl fr lo ret v σe) {a1 a2 : Value} {σ2 : HP} {fr2 lo2 : Nat} (hC : Ct X.1 yX8_swaps cX8_swaps 4 none fr2 lo2 [a1, a2] σ none σ2) (hfr : fr2 + 1 ≤ fr) (hlo : 8 + (4 + 11) + lo2 ≤ lo) (hW : (st.map fun v => v.category).sum ≤ 8) (hdg : decode cc pc = .ok (.invokestatic 108, 3)) (k : Z X σ2 (pc + 3) lv (st)) : Z X σ pc lv (a2 :: a1 :: st) := z_callS hX M_X8_swaps ml_X8_108 hC rfl hfr hlo rfl hW hdg k
theorem ml_X8_111 : Cond.methodLink RX8 111 yX8_minute ∈ wsA := memT 738 (by decide +kernel) (by decide +kernel)
theorem v_X8_111 {X : CX} {σ : HP} {pc : Nat} {lv : List (Nat × Value)} {st : List Value} {cc : ByteArray} {nl fr lo : Nat} {ret : Option FieldType} {v : Option Value} {σe : HP} (hX : OkX X RX8 cc nl fr lo ret v σe) {j : Nat} (hj : kd j = 8) {a1 : Value} {r : Int32} {σ2 : HP} {fr2 lo2 : Nat} (hC : Ct X.1 yX8_minute cX8_minute 4 (some .int) fr2 lo2 [rf X.1 j, a1] σ (some (.int r)) σ2) (hfr : fr2 + 1 ≤ fr) (hlo : 8 + (4 + 11) + lo2 ≤ lo) (hW : (st.map fun v => v.category).sum ≤ 8) (hdg : decode cc pc = .ok (.invokevirtual 111, 3)) (k : Z X σ2 (pc + 3) lv (.int r :: st)) : Z X σ pc lv (a1 :: rf X.1 j :: st) := z_callV hX M_X8_minute ml_X8_111 (kd_lt hj (by decide)) (cell_8 X.1 hj) rfl hC rfl hfr hlo rfl hW hdg k
theorem ml_X8_114 : Cond.methodLink RX8 114 yX8_fewest ∈ wsA := memT 846 (by decide +kernel) (by decide +kernel)
theorem v_X8_114 {X : CX} {σ : HP} {pc : Nat} {lv : List (Nat × Value)} {st : List Value} {cc : ByteArray} {nl fr lo : Nat} {ret : Option FieldType} {v : Option Value} {σe : HP} (hX : OkX X RX8 cc nl fr lo ret v σe) {j : Nat} (hj : kd j = 8) {a1 : Value} {r : Int32} {σ2 : HP} {fr2 lo2 : Nat} (hC : Ct X.1 yX8_fewest cX8_fewest 5 (some .int) fr2 lo2 [rf X.1 j, a1] σ (some (.int r)) σ2) (hfr : fr2 + 1 ≤ fr) (hlo : 8 + (5 + 11) + lo2 ≤ lo) (hW : (st.map fun v => v.category).sum ≤ 8) (hdg : decode cc pc = .ok (.invokevirtual 114, 3)) (k : Z X σ2 (pc + 3) lv (.int r :: st)) : Z X σ pc lv (a1 :: rf X.1 j :: st) := z_callV hX M_X8_fewest ml_X8_114 (kd_lt hj (by decide)) (cell_8 X.1 hj) rfl hC rfl hfr hlo rfl hW hdg k
theorem ml_X8_117 : Cond.methodLink RX8 117 yX8_isSafe ∈ wsA := memT 843 (by decide +kernel) (by decide +kernel)
theorem v_X8_117 {X : CX} {σ : HP} {pc : Nat} {lv : List (Nat × Value)} {st : List Value} {cc : ByteArray} {nl fr lo : Nat} {ret : Option FieldType} {v : Option Value} {σe : HP} (hX : OkX X RX8 cc nl fr lo ret v σe) {a1 a2 : Value} {r : Int32} {σ2 : HP} {fr2 lo2 : Nat} (hC : Ct X.1 yX8_isSafe cX8_isSafe 2 (some .boolean) fr2 lo2 [a1, a2] σ (some (.int r)) σ2) (hfr : fr2 + 1 ≤ fr) (hlo : 8 + (2 + 11) + lo2 ≤ lo) (hW : (st.map fun v => v.category).sum ≤ 8) (hdg : decode cc pc = .ok (.invokestatic 117, 3)) (k : Z X σ2 (pc + 3) lv (.int r :: st)) : Z X σ pc lv (a2 :: a1 :: st) := z_callS hX M_X8_isSafe ml_X8_117 hC rfl hfr hlo rfl hW hdg k
theorem ml_X8_120 : Cond.methodLink RX8 120 yX8_behind ∈ wsA := memT 857 (by decide +kernel) (by decide +kernel)
theorem v_X8_120 {X : CX} {σ : HP} {pc : Nat} {lv : List (Nat × Value)} {st : List Value} {cc : ByteArray} {nl fr lo : Nat} {ret : Option FieldType} {v : Option Value} {σe : HP} (hX : OkX X RX8 cc nl fr lo ret v σe) {j : Nat} (hj : kd j = 8) {a1 a2 : Value} {r : Int32} {σ2 : HP} {fr2 lo2 : Nat} (hC : Ct X.1 yX8_behind cX8_behind 3 (some .int) fr2 lo2 [rf X.1 j, a1, a2] σ (some (.int r)) σ2) (hfr : fr2 + 1 ≤ fr) (hlo : 8 + (3 + 11) + lo2 ≤ lo) (hW : (st.map fun v => v.category).sum ≤ 8) (hdg : decode cc pc = .ok (.invokevirtual 120, 3)) (k : Z X σ2 (pc + 3) lv (.int r :: st)) : Z X σ pc lv (a2 :: a1 :: rf X.1 j :: st) := z_callV hX M_X8_behind ml_X8_120 (kd_lt hj (by decide)) (cell_8 X.1 hj) rfl hC rfl hfr hlo rfl hW hdg k
theorem ml_X8_124 : Cond.methodLink RX8 124 yX8_isRoom ∈ wsA := memT 666 (by decide +kernel) (by decide +kernel)
theorem v_X8_124 {X : CX} {σ : HP} {pc : Nat} {lv : List (Nat × Value)} {st : List Value} {cc : ByteArray} {nl fr lo : Nat} {ret : Option FieldType} {v : Option Value} {σe : HP} (hX : OkX X RX8 cc nl fr lo ret v σe) {j : Nat} (hj : kd j = 8) {a1 : Value} {r : Int32} {σ2 : HP} {fr2 lo2 : Nat} (hC : Ct X.1 yX8_isRoom cX8_isRoom 2 (some .boolean) fr2 lo2 [rf X.1 j, a1] σ (some (.int r)) σ2) (hfr : fr2 + 1 ≤ fr) (hlo : 8 + (2 + 11) + lo2 ≤ lo) (hW : (st.map fun v => v.category).sum ≤ 8) (hdg : decode cc pc = .ok (.invokevirtual 124, 3)) (k : Z X σ2 (pc + 3) lv (.int r :: st)) : Z X σ pc lv (a1 :: rf X.1 j :: st) := z_callV hX M_X8_isRoom ml_X8_124 (kd_lt hj (by decide)) (cell_8 X.1 hj) rfl hC rfl hfr hlo rfl hW hdg k
theorem ml_X8_129 : Cond.methodLink RX8 129 yX8_records ∈ wsA := memT 671 (by decide +kernel) (by decide +kernel)
theorem v_X8_129 {X : CX} {σ : HP} {pc : Nat} {lv : List (Nat × Value)} {st : List Value} {cc : ByteArray} {nl fr lo : Nat} {ret : Option FieldType} {v : Option Value} {σe : HP} (hX : OkX X RX8 cc nl fr lo ret v σe) {j : Nat} (hj : kd j = 8) {σ2 : HP} {fr2 lo2 : Nat} (hC : Ct X.1 yX8_records cX8_records 2 none fr2 lo2 [rf X.1 j] σ none σ2) (hfr : fr2 + 1 ≤ fr) (hlo : 8 + (2 + 11) + lo2 ≤ lo) (hW : (st.map fun v => v.category).sum ≤ 8) (hdg : decode cc pc = .ok (.invokevirtual 129, 3)) (k : Z X σ2 (pc + 3) lv (st)) : Z X σ pc lv (rf X.1 j :: st) := z_callV hX M_X8_records ml_X8_129 (kd_lt hj (by decide)) (cell_8 X.1 hj) rfl hC rfl hfr hlo rfl hW hdg k
theorem ml_X8_132 : Cond.methodLink RX8 132 yX8_comes ∈ wsA := memT 678 (by decide +kernel) (by decide +kernel)
theorem v_X8_132 {X : CX} {σ : HP} {pc : Nat} {lv : List (Nat × Value)} {st : List Value} {cc : ByteArray} {nl fr lo : Nat} {ret : Option FieldType} {v : Option Value} {σe : HP} (hX : OkX X RX8 cc nl fr lo ret v σe) {j : Nat} (hj : kd j = 8) {a1 a2 : Value} {σ2 : HP} {fr2 lo2 : Nat} (hC : Ct X.1 yX8_comes cX8_comes 4 none fr2 lo2 [rf X.1 j, a1, a2] σ none σ2) (hfr : fr2 + 1 ≤ fr) (hlo : 8 + (4 + 11) + lo2 ≤ lo) (hW : (st.map fun v => v.category).sum ≤ 8) (hdg : decode cc pc = .ok (.invokevirtual 132, 3)) (k : Z X σ2 (pc + 3) lv (st)) : Z X σ pc lv (a2 :: a1 :: rf X.1 j :: st) := z_callV hX M_X8_comes ml_X8_132 (kd_lt hj (by decide)) (cell_8 X.1 hj) rfl hC rfl hfr hlo rfl hW hdg k
theorem ml_X8_136 : Cond.methodLink RX8 136 yX8_rowFault ∈ wsA := memT 689 (by decide +kernel) (by decide +kernel)
theorem v_X8_136 {X : CX} {σ : HP} {pc : Nat} {lv : List (Nat × Value)} {st : List Value} {cc : ByteArray} {nl fr lo : Nat} {ret : Option FieldType} {v : Option Value} {σe : HP} (hX : OkX X RX8 cc nl fr lo ret v σe) {j : Nat} (hj : kd j = 8) {r : Int32} {σ2 : HP} {fr2 lo2 : Nat} (hC : Ct X.1 yX8_rowFault cX8_rowFault 3 (some .int) fr2 lo2 [rf X.1 j] σ (some (.int r)) σ2) (hfr : fr2 + 1 ≤ fr) (hlo : 8 + (3 + 11) + lo2 ≤ lo) (hW : (st.map fun v => v.category).sum ≤ 8) (hdg : decode cc pc = .ok (.invokevirtual 136, 3)) (k : Z X σ2 (pc + 3) lv (.int r :: st)) : Z X σ pc lv (rf X.1 j :: st) := z_callV hX M_X8_rowFault ml_X8_136 (kd_lt hj (by decide)) (cell_8 X.1 hj) rfl hC rfl hfr hlo rfl hW hdg k
theorem ml_X8_144 : Cond.methodLink RX8 144 yX8_isPlace ∈ wsA := memT 699 (by decide +kernel) (by decide +kernel)
theorem v_X8_144 {X : CX} {σ : HP} {pc : Nat} {lv : List (Nat × Value)} {st : List Value} {cc : ByteArray} {nl fr lo : Nat} {ret : Option FieldType} {v : Option Value} {σe : HP} (hX : OkX X RX8 cc nl fr lo ret v σe) {j : Nat} (hj : kd j = 8) {a1 : Value} {r : Int32} {σ2 : HP} {fr2 lo2 : Nat} (hC : Ct X.1 yX8_isPlace cX8_isPlace 2 (some .boolean) fr2 lo2 [rf X.1 j, a1] σ (some (.int r)) σ2) (hfr : fr2 + 1 ≤ fr) (hlo : 8 + (2 + 11) + lo2 ≤ lo) (hW : (st.map fun v => v.category).sum ≤ 8) (hdg : decode cc pc = .ok (.invokevirtual 144, 3)) (k : Z X σ2 (pc + 3) lv (.int r :: st)) : Z X σ pc lv (a1 :: rf X.1 j :: st) := z_callV hX M_X8_isPlace ml_X8_144 (kd_lt hj (by decide)) (cell_8 X.1 hj) rfl hC rfl hfr hlo rfl hW hdg k
theorem ml_X8_149 : Cond.methodLink RX8 149 yX8_trades ∈ wsA := memT 719 (by decide +kernel) (by decide +kernel)
theorem v_X8_149 {X : CX} {σ : HP} {pc : Nat} {lv : List (Nat × Value)} {st : List Value} {cc : ByteArray} {nl fr lo : Nat} {ret : Option FieldType} {v : Option Value} {σe : HP} (hX : OkX X RX8 cc nl fr lo ret v σe) {j : Nat} (hj : kd j = 8) {a1 a2 : Value} {r : Int32} {σ2 : HP} {fr2 lo2 : Nat} (hC : Ct X.1 yX8_trades cX8_trades 5 (some .boolean) fr2 lo2 [rf X.1 j, a1, a2] σ (some (.int r)) σ2) (hfr : fr2 + 1 ≤ fr) (hlo : 8 + (5 + 11) + lo2 ≤ lo) (hW : (st.map fun v => v.category).sum ≤ 8) (hdg : decode cc pc = .ok (.invokevirtual 149, 3)) (k : Z X σ2 (pc + 3) lv (.int r :: st)) : Z X σ pc lv (a2 :: a1 :: rf X.1 j :: st) := z_callV hX M_X8_trades ml_X8_149 (kd_lt hj (by decide)) (cell_8 X.1 hj) rfl hC rfl hfr hlo rfl hW hdg k
theorem ml_X8_152 : Cond.methodLink RX8 152 yX8_isWind ∈ wsA := memT 763 (by decide +kernel) (by decide +kernel)
theorem v_X8_152 {X : CX} {σ : HP} {pc : Nat} {lv : List (Nat × Value)} {st : List Value} {cc : ByteArray} {nl fr lo : Nat} {ret : Option FieldType} {v : Option Value} {σe : HP} (hX : OkX X RX8 cc nl fr lo ret v σe) {a1 a2 : Value} {r : Int32} {σ2 : HP} {fr2 lo2 : Nat} (hC : Ct X.1 yX8_isWind cX8_isWind 2 (some .boolean) fr2 lo2 [a1, a2] σ (some (.int r)) σ2) (hfr : fr2 + 1 ≤ fr) (hlo : 8 + (2 + 11) + lo2 ≤ lo) (hW : (st.map fun v => v.category).sum ≤ 8) (hdg : decode cc pc = .ok (.invokestatic 152, 3)) (k : Z X σ2 (pc + 3) lv (.int r :: st)) : Z X σ pc lv (a2 :: a1 :: st) := z_callS hX M_X8_isWind ml_X8_152 hC rfl hfr hlo rfl hW hdg k
theorem ml_X8_156 : Cond.methodLink RX8 156 yX8_turnAt ∈ wsA := memT 770 (by decide +kernel) (by decide +kernel)
theorem v_X8_156 {X : CX} {σ : HP} {pc : Nat} {lv : List (Nat × Value)} {st : List Value} {cc : ByteArray} {nl fr lo : Nat} {ret : Option FieldType} {v : Option Value} {σe : HP} (hX : OkX X RX8 cc nl fr lo ret v σe) {j : Nat} (hj : kd j = 8) {a1 : Value} {r : Int32} {σ2 : HP} {fr2 lo2 : Nat} (hC : Ct X.1 yX8_turnAt cX8_turnAt 4 (some .int) fr2 lo2 [rf X.1 j, a1] σ (some (.int r)) σ2) (hfr : fr2 + 1 ≤ fr) (hlo : 8 + (4 + 11) + lo2 ≤ lo) (hW : (st.map fun v => v.category).sum ≤ 8) (hdg : decode cc pc = .ok (.invokevirtual 156, 3)) (k : Z X σ2 (pc + 3) lv (.int r :: st)) : Z X σ pc lv (a1 :: rf X.1 j :: st) := z_callV hX M_X8_turnAt ml_X8_156 (kd_lt hj (by decide)) (cell_8 X.1 hj) rfl hC rfl hfr hlo rfl hW hdg k
theorem ml_X8_160 : Cond.methodLink RX8 160 yX8_wordFault ∈ wsA := memT 796 (by decide +kernel) (by decide +kernel)
theorem v_X8_160 {X : CX} {σ : HP} {pc : Nat} {lv : List (Nat × Value)} {st : List Value} {cc : ByteArray} {nl fr lo : Nat} {ret : Option FieldType} {v : Option Value} {σe : HP} (hX : OkX X RX8 cc nl fr lo ret v σe) {j : Nat} (hj : kd j = 8) {r : Int32} {σ2 : HP} {fr2 lo2 : Nat} (hC : Ct X.1 yX8_wordFault cX8_wordFault 2 (some .int) fr2 lo2 [rf X.1 j] σ (some (.int r)) σ2) (hfr : fr2 + 1 ≤ fr) (hlo : 8 + (2 + 11) + lo2 ≤ lo) (hW : (st.map fun v => v.category).sum ≤ 8) (hdg : decode cc pc = .ok (.invokevirtual 160, 3)) (k : Z X σ2 (pc + 3) lv (.int r :: st)) : Z X σ pc lv (rf X.1 j :: st) := z_callV hX M_X8_wordFault ml_X8_160 (kd_lt hj (by decide)) (cell_8 X.1 hj) rfl hC rfl hfr hlo rfl hW hdg k
theorem ml_X8_163 : Cond.methodLink RX8 163 yX8_isWord ∈ wsA := memT 800 (by decide +kernel) (by decide +kernel)
theorem v_X8_163 {X : CX} {σ : HP} {pc : Nat} {lv : List (Nat × Value)} {st : List Value} {cc : ByteArray} {nl fr lo : Nat} {ret : Option FieldType} {v : Option Value} {σe : HP} (hX : OkX X RX8 cc nl fr lo ret v σe) {j : Nat} (hj : kd j = 8) {r : Int32} {σ2 : HP} {fr2 lo2 : Nat} (hC : Ct X.1 yX8_isWord cX8_isWord 3 (some .boolean) fr2 lo2 [rf X.1 j] σ (some (.int r)) σ2) (hfr : fr2 + 1 ≤ fr) (hlo : 8 + (3 + 11) + lo2 ≤ lo) (hW : (st.map fun v => v.category).sum ≤ 8) (hdg : decode cc pc = .ok (.invokevirtual 163, 3)) (k : Z X σ2 (pc + 3) lv (.int r :: st)) : Z X σ pc lv (rf X.1 j :: st) := z_callV hX M_X8_isWord ml_X8_163 (kd_lt hj (by decide)) (cell_8 X.1 hj) rfl hC rfl hfr hlo rfl hW hdg k
theorem ml_X8_171 : Cond.methodLink RX8 171 yX8_partner ∈ wsA := memT 828 (by decide +kernel) (by decide +kernel)
theorem v_X8_171 {X : CX} {σ : HP} {pc : Nat} {lv : List (Nat × Value)} {st : List Value} {cc : ByteArray} {nl fr lo : Nat} {ret : Option FieldType} {v : Option Value} {σe : HP} (hX : OkX X RX8 cc nl fr lo ret v σe) {j : Nat} (hj : kd j = 8) {a1 : Value} {r : Int32} {σ2 : HP} {fr2 lo2 : Nat} (hC : Ct X.1 yX8_partner cX8_partner 4 (some .int) fr2 lo2 [rf X.1 j, a1] σ (some (.int r)) σ2) (hfr : fr2 + 1 ≤ fr) (hlo : 8 + (4 + 11) + lo2 ≤ lo) (hW : (st.map fun v => v.category).sum ≤ 8) (hdg : decode cc pc = .ok (.invokevirtual 171, 3)) (k : Z X σ2 (pc + 3) lv (.int r :: st)) : Z X σ pc lv (a1 :: rf X.1 j :: st) := z_callV hX M_X8_partner ml_X8_171 (kd_lt hj (by decide)) (cell_8 X.1 hj) rfl hC rfl hfr hlo rfl hW hdg k
theorem ml_X8_174 : Cond.methodLink RX8 174 yX8_next ∈ wsA := memT 865 (by decide +kernel) (by decide +kernel)
theorem v_X8_174 {X : CX} {σ : HP} {pc : Nat} {lv : List (Nat × Value)} {st : List Value} {cc : ByteArray} {nl fr lo : Nat} {ret : Option FieldType} {v : Option Value} {σe : HP} (hX : OkX X RX8 cc nl fr lo ret v σe) {j : Nat} (hj : kd j = 8) {a1 : Value} {r : Int32} {σ2 : HP} {fr2 lo2 : Nat} (hC : Ct X.1 yX8_next cX8_next 4 (some .int) fr2 lo2 [rf X.1 j, a1] σ (some (.int r)) σ2) (hfr : fr2 + 1 ≤ fr) (hlo : 8 + (4 + 11) + lo2 ≤ lo) (hW : (st.map fun v => v.category).sum ≤ 8) (hdg : decode cc pc = .ok (.invokevirtual 174, 3)) (k : Z X σ2 (pc + 3) lv (.int r :: st)) : Z X σ pc lv (a1 :: rf X.1 j :: st) := z_callV hX M_X8_next ml_X8_174 (kd_lt hj (by decide)) (cell_8 X.1 hj) rfl hC rfl hfr hlo rfl hW hdg k
theorem ml_X8_177 : Cond.methodLink RX8 177 yX8_isSpelled ∈ wsA := memT 873 (by decide +kernel) (by decide +kernel)
theorem v_X8_177 {X : CX} {σ : HP} {pc : Nat} {lv : List (Nat × Value)} {st : List Value} {cc : ByteArray} {nl fr lo : Nat} {ret : Option FieldType} {v : Option Value} {σe : HP} (hX : OkX X RX8 cc nl fr lo ret v σe) {a1 : Value} {r : Int32} {σ2 : HP} {fr2 lo2 : Nat} (hC : Ct X.1 yX8_isSpelled cX8_isSpelled 3 (some .boolean) fr2 lo2 [a1] σ (some (.int r)) σ2) (hfr : fr2 + 1 ≤ fr) (hlo : 8 + (3 + 11) + lo2 ≤ lo) (hW : (st.map fun v => v.category).sum ≤ 8) (hdg : decode cc pc = .ok (.invokestatic 177, 3)) (k : Z X σ2 (pc + 3) lv (.int r :: st)) : Z X σ pc lv (a1 :: st) := z_callS hX M_X8_isSpelled ml_X8_177 hC rfl hfr hlo rfl hW hdg k
end
section
/-! ===== the reading of the code ===== -/
noncomputable def L_X0_firstFree_2 (N : Nat) (σ : HP) : Nat → Nat → Int32 → Int32 → Int32 → Option (Int32)
  | 0, _, _, _, _ => none
  | n + 1, j0, a1, a2, a3 => if (σ j0 1) ≤ a3 then (some (-1)) else (gd (vp_in a3 (12)) (if (σ (j0 + 1) (ix a3)) = a1 then (if ((a2 >>> (a3 &&& 31)) &&& 1) = 0 then (some a3) else (L_X0_firstFree_2  N σ n j0 a1 a2 (a3 + 1))) else (L_X0_firstFree_2  N σ n j0 a1 a2 (a3 + 1))))
noncomputable def F_X0_firstFree (N : Nat) (j0 : Nat) (a1 : Int32) (a2 : Int32) (σ : HP) : Option (Int32) := L_X0_firstFree_2  N σ N j0 a1 a2 0
noncomputable def J_X0_findTargets_35 (k5 : (Nat → Nat → Nat → Int32 → Int32 → HP → Option (Int32 × HP))) (N : Nat) (j0 : Nat) (j1 : Nat) (j2 : Nat) (a3 : Int32) (a4 : Int32) (s0 : Int32) (σ : HP) : Option (Int32 × HP) := gd (vp_in s0 (12)) ((F_X0_firstFree N j2 (σ (j1 + 2) (ix s0)) a3 σ).bind (fun r23 => if r23 = (-1) then (some (0, σ)) else (bd (a3 ||| (1 <<< (r23 &&& 31))) (fun x25 => gd (vp_in s0 (12)) (bd (wr σ (j0 + 1) (ix s0) r23) (fun σ27 => k5 j0 j1 j2 x25 (a4 + 1) σ27))))))
noncomputable def L_X0_findTargets_5 (N : Nat) : Nat → Nat → Nat → Nat → Int32 → Int32 → HP → Option (Int32 × HP)
  | 0, _, _, _, _, _, _ => none
  | n + 1, j0, j1, j2, a3, a4, σ => if (σ j1 6) ≤ a4 then (some (1, σ)) else (if (σ j0 1) = 0 then (J_X0_findTargets_35 (L_X0_findTargets_5  N n) N j0 j1 j2 a3 a4 a4 σ) else (J_X0_findTargets_35 (L_X0_findTargets_5  N n) N j0 j1 j2 a3 a4 (((σ j1 6) - 1) - a4) σ))
noncomputable def F_X0_findTargets (N : Nat) (j0 : Nat) (j1 : Nat) (j2 : Nat) (σ : HP) : Option (Int32 × HP) := L_X0_findTargets_5  N N j0 j1 j2 0 0 σ
noncomputable def F_X0_isWrongPair (N : Nat) (j0 : Nat) (a1 : Int32) (a2 : Int32) (σ : HP) : Option (Int32) := if (σ j0 1) = 0 then (gd (vp_in a1 (12)) (gd (vp_in a2 (12)) (if (σ (j0 + 1) (ix a1)) ≤ (σ (j0 + 1) (ix a2)) then (some 0) else (some 1)))) else (gd (vp_in a1 (12)) (gd (vp_in a2 (12)) (if (σ (j0 + 1) (ix a2)) ≤ (σ (j0 + 1) (ix a1)) then (some 0) else (some 1))))
noncomputable def L_X0_countWrongPairs_14 (k4 : (Nat → Int32 → Int32 → Int32 → Option (Int32))) (N : Nat) (σ : HP) : Nat → Nat → Int32 → Int32 → Int32 → Int32 → Option (Int32)
  | 0, _, _, _, _, _ => none
  | n + 1, j0, a1, a2, a3, a4 => if a1 ≤ a4 then (k4 j0 a1 a2 (a3 + 1)) else ((F_X0_isWrongPair N j0 a3 a4 σ).bind (fun r23 => if r23 = 0 then (L_X0_countWrongPairs_14 k4 N σ n j0 a1 a2 a3 (a4 + 1)) else (L_X0_countWrongPairs_14 k4 N σ n j0 a1 (a2 + 1) a3 (a4 + 1))))
noncomputable def L_X0_countWrongPairs_4 (N : Nat) (σ : HP) : Nat → Nat → Int32 → Int32 → Int32 → Option (Int32)
  | 0, _, _, _, _ => none
  | n + 1, j0, a1, a2, a3 => if a1 ≤ a3 then (some a2) else (bd (a3 + 1) (fun x22 => L_X0_countWrongPairs_14 (L_X0_countWrongPairs_4  N σ n) N σ N j0 a1 a2 a3 x22))
noncomputable def F_X0_countWrongPairs (N : Nat) (j0 : Nat) (a1 : Int32) (σ : HP) : Option (Int32) := L_X0_countWrongPairs_4  N σ N j0 a1 0 0
noncomputable def J_X0_match_61 (N : Nat) (j0 : Nat) (j1 : Nat) (p0 : Nat) (s1 : Int32) (σ : HP) : Option (HP) := gd (s1 = 0 ∨ s1 = 1) (bd (wr σ p0 2 s1) (fun σ22 => if (σ22 j0 2) = 0 then (some σ22) else ((F_X0_countWrongPairs N j0 (σ22 (j1 + 1) 6) σ22).bind (fun r25 => bd (wr σ22 j0 3 r25) (fun σ26 => some σ26)))))
noncomputable def J_X0_match_60 (N : Nat) (j0 : Nat) (j1 : Nat) (p0 : Nat) (σ : HP) : Option (HP) := J_X0_match_61  N j0 j1 p0 0 σ
noncomputable def F_X0_match (N : Nat) (j0 : Nat) (j1 : Nat) (σ : HP) : Option (HP) := gd ((σ j1 7) = 0 ∨ (σ j1 7) = 1) (bd (wr σ j0 1 (σ j1 7)) (fun σ22 => bd (wr σ22 j0 3 0) (fun σ23 => if (σ23 (j1 + 17) 1) ≤ 0 then (J_X0_match_60  N j0 j1 j0 σ23) else (if (σ23 (j1 + 17) 1) = (σ23 (j1 + 1) 6) then (bind2 (F_X0_findTargets N j0 (j1 + 1) (j1 + 17) σ23) (fun r27 σ28 => if r27 = 0 then (J_X0_match_60  N j0 j1 j0 σ28) else (J_X0_match_61  N j0 j1 j0 1 σ28))) else (J_X0_match_60  N j0 j1 j0 σ23)))))
noncomputable def F_X0_isGood (N : Nat) (j0 : Nat) (a1 : Int32) (σ : HP) : Option (Int32) := (F_X0_isWrongPair N j0 a1 (a1 + 1) σ).bind (fun r22 => gd (r22 = 0 ∨ r22 = 1) (some r22))
noncomputable def F_X0_fewestBehind (N : Nat) (j0 : Nat) (j1 : Nat) (a2 : Int32) (σ : HP) : Option (Int32) := gd (vp_in a2 (12)) (gd (vp_in (a2 + 1) (12)) (if (σ (j1 + 2) (ix a2)) = (σ (j1 + 2) (ix (a2 + 1))) then (some (σ j0 3)) else ((F_X0_isGood N j0 a2 σ).bind (fun r25 => if r25 = 0 then (some ((σ j0 3) + 1)) else (some ((σ j0 3) - 1))))))
noncomputable def F_X1_copyFrom (N : Nat) (j0 : Nat) (j1 : Nat) (σ : HP) : Option (HP) := bd (wrA σ (j0 + 1) (va_cpy (σ (j1 + 1)) (σ (j0 + 1)) (ix 0) (ix 0) (ix 8))) (fun σ21 => bd (wrA σ21 (j0 + 2) (va_cpy (σ21 (j1 + 2)) (σ21 (j0 + 2)) (ix 0) (ix 0) (ix 8))) (fun σ22 => bd (wrA σ22 (j0 + 3) (va_cpy (σ22 (j1 + 3)) (σ22 (j0 + 3)) (ix 0) (ix 0) (ix 8))) (fun σ23 => bd (wr σ23 j0 3 (σ23 j1 3)) (fun σ24 => some σ24))))
noncomputable def L_X1_rankOf_2 (N : Nat) (σ : HP) : Nat → Nat → Int32 → Int32 → Option (Int32)
  | 0, _, _, _ => none
  | n + 1, j0, a1, a2 => if (σ j0 3) ≤ a2 then (some (-1)) else (gd (vp_in a2 (8)) (if (σ (j0 + 1) (ix a2)) = a1 then (some a2) else (L_X1_rankOf_2  N σ n j0 a1 (a2 + 1))))
noncomputable def F_X1_rankOf (N : Nat) (j0 : Nat) (a1 : Int32) (σ : HP) : Option (Int32) := L_X1_rankOf_2  N σ N j0 a1 0
noncomputable def F_X1_move (N : Nat) (j0 : Nat) (a1 : Int32) (a2 : Int32) (σ : HP) : Option (HP) := gd (vp_in a1 (8)) (gd (vp_in a2 (8)) (bd (wr σ (j0 + 1) (ix a2) (σ (j0 + 1) (ix a1))) (fun σ23 => gd (vp_in a1 (8)) (gd (vp_in a2 (8)) (bd (wr σ23 (j0 + 2) (ix a2) (σ23 (j0 + 2) (ix a1))) (fun σ26 => gd (vp_in a1 (8)) (gd (vp_in a2 (8)) (bd (wr σ26 (j0 + 3) (ix a2) (σ26 (j0 + 3) (ix a1))) (fun σ29 => some σ29)))))))))
noncomputable def J_X1_insert_50 (N : Nat) (j0 : Nat) (a1 : Int32) (a2 : Int32) (a3 : Int32) (a4 : Int32) (σ : HP) : Option (HP) := gd (vp_in a4 (8)) (bd (wr σ (j0 + 1) (ix a4) a1) (fun σ22 => gd (vp_in a4 (8)) (bd (wr σ22 (j0 + 2) (ix a4) a2) (fun σ24 => gd (vp_in a4 (8)) (bd (wr σ24 (j0 + 3) (ix a4) a3) (fun σ26 => bd (wr σ26 j0 3 ((σ26 j0 3) + 1)) (fun σ27 => some σ27)))))))
noncomputable def L_X1_insert_16 (N : Nat) : Nat → Nat → Int32 → Int32 → Int32 → Int32 → HP → Option (HP)
  | 0, _, _, _, _, _, _ => none
  | n + 1, j0, a1, a2, a3, a4, σ => if a4 ≤ 0 then (J_X1_insert_50  N j0 a1 a2 a3 a4 σ) else (gd (vp_in (a4 - 1) (8)) (if (σ (j0 + 1) (ix (a4 - 1))) ≤ a1 then (J_X1_insert_50  N j0 a1 a2 a3 a4 σ) else ((F_X1_move N j0 (a4 - 1) a4 σ).bind (fun σ25 => L_X1_insert_16  N n j0 a1 a2 a3 (a4 + (-1)) σ25))))
noncomputable def F_X1_insert (N : Nat) (j0 : Nat) (a1 : Int32) (a2 : Int32) (a3 : Int32) (σ : HP) : Option (HP) := if (σ j0 3) < 8 then (bd (σ j0 3) (fun x22 => L_X1_insert_16  N N j0 a1 a2 a3 x22 σ)) else (some σ)
noncomputable def L_X1_remove_2 (N : Nat) : Nat → Nat → Int32 → HP → Option (HP)
  | 0, _, _, _ => none
  | n + 1, j0, a2, σ => if ((σ j0 3) - 1) ≤ a2 then (bd (wr σ j0 3 ((σ j0 3) - 1)) (fun σ22 => some σ22)) else ((F_X1_move N j0 (a2 + 1) a2 σ).bind (fun σ24 => L_X1_remove_2  N n j0 (a2 + 1) σ24))
noncomputable def F_X1_remove (N : Nat) (j0 : Nat) (a1 : Int32) (σ : HP) : Option (HP) := L_X1_remove_2  N N j0 a1 σ
noncomputable def F_X4_drift (N : Nat) (j0 : Nat) (σ : HP) : Option (Int32) := if (σ j0 5) = 1 then (some (σ j0 6)) else (if (σ j0 5) = 3 then (some (-(σ j0 6))) else (some 0))
noncomputable def F_X3_isTangled (N : Nat) (j0 : Nat) (a1 : Int32) (σ : HP) : Option (Int32) := gd (vp_in a1 (12)) (if (σ (j0 + 4) (ix a1)) = 0 then (some 0) else (some 1))
noncomputable def F_X3_shownAt (N : Nat) (j0 : Nat) (a1 : Int32) (a2 : Int32) (σ : HP) : Option (Int32) := gd (vp_in a1 (12)) (some ((10 * a1) + (a2 * (σ (j0 + 3) (ix a1)))))
noncomputable def L_X3_canBeRead_20 (N : Nat) (σ : HP) : Nat → Nat → Int32 → Int32 → Int32 → Int32 → Option (Int32)
  | 0, _, _, _, _, _ => none
  | n + 1, j0, a1, a2, a3, a4 => if (σ j0 6) ≤ a4 then (some 1) else (if a4 = a1 then (L_X3_canBeRead_20  N σ n j0 a1 a2 a3 (a4 + 1)) else ((F_X3_shownAt N j0 a4 a2 σ).bind (fun r24 => if r24 = a3 then (some 0) else (L_X3_canBeRead_20  N σ n j0 a1 a2 a3 (a4 + 1)))))
noncomputable def F_X3_canBeRead (N : Nat) (j0 : Nat) (a1 : Int32) (a2 : Int32) (σ : HP) : Option (Int32) := (F_X3_isTangled N j0 a1 σ).bind (fun r22 => if r22 = 0 then ((F_X3_shownAt N j0 a1 a2 σ).bind (fun r25 => L_X3_canBeRead_20  N σ N j0 a1 a2 r25 0)) else (some 0))
noncomputable def J_X2_insert_85 (N : Nat) (j0 : Nat) (a2 : Int32) (a5 : Int32) (σ : HP) : Option (HP) := gd (vp_in a5 (12)) (bd (wr σ (j0 + 1) (ix a5) a2) (fun σ22 => bd (wr σ22 j0 1 ((σ22 j0 1) + 1)) (fun σ23 => some σ23)))
noncomputable def J_X2_insert_49 (k17 : (Nat → Nat → Int32 → Int32 → Int32 → Int32 → HP → Option (HP))) (N : Nat) (j0 : Nat) (j1 : Nat) (a2 : Int32) (a3 : Int32) (a4 : Int32) (a5 : Int32) (s0 : Int32) (σ : HP) : Option (HP) := if s0 = (σ j1 7) then (J_X2_insert_85  N j0 a2 a5 σ) else (gd (vp_in (a5 - 1) (12)) (gd (vp_in a5 (12)) (bd (wr σ (j0 + 1) (ix a5) (σ (j0 + 1) (ix (a5 - 1)))) (fun σ24 => k17 j0 j1 a2 a3 a4 (a5 + (-1)) σ24))))
noncomputable def L_X2_insert_17 (N : Nat) : Nat → Nat → Nat → Int32 → Int32 → Int32 → Int32 → HP → Option (HP)
  | 0, _, _, _, _, _, _, _ => none
  | n + 1, j0, j1, a2, a3, a4, a5, σ => if a5 ≤ 0 then (J_X2_insert_85  N j0 a2 a5 σ) else (gd (vp_in (a5 - 1) (12)) ((F_X3_shownAt N (j1 + 1) (σ (j0 + 1) (ix (a5 - 1))) a3 σ).bind (fun r24 => if r24 ≤ a4 then (J_X2_insert_49 (L_X2_insert_17  N n) N j0 j1 a2 a3 a4 a5 0 σ) else (J_X2_insert_49 (L_X2_insert_17  N n) N j0 j1 a2 a3 a4 a5 1 σ))))
noncomputable def F_X2_insert (N : Nat) (j0 : Nat) (j1 : Nat) (a2 : Int32) (a3 : Int32) (σ : HP) : Option (HP) := (F_X3_shownAt N (j1 + 1) a2 a3 σ).bind (fun r22 => bd (σ j0 1) (fun x23 => L_X2_insert_17  N N j0 j1 a2 a3 r22 x23 σ))
noncomputable def L_X2_look_12 (N : Nat) : Nat → Nat → Nat → Int32 → Int32 → HP → Option (HP)
  | 0, _, _, _, _, _ => none
  | n + 1, j0, j1, a2, a3, σ => if (σ (j1 + 1) 6) ≤ a3 then (some σ) else ((F_X3_canBeRead N (j1 + 1) a3 a2 σ).bind (fun r23 => if r23 = 0 then (L_X2_look_12  N n j0 j1 a2 (a3 + 1) σ) else ((F_X2_insert N j0 j1 a3 a2 σ).bind (fun σ26 => L_X2_look_12  N n j0 j1 a2 (a3 + 1) σ26))))
noncomputable def F_X2_look (N : Nat) (j0 : Nat) (j1 : Nat) (σ : HP) : Option (HP) := (F_X4_drift N j1 σ).bind (fun r22 => bd (wr σ j0 1 0) (fun σ23 => L_X2_look_12  N N j0 j1 r22 0 σ23))
noncomputable def F_X3_copyFrom (N : Nat) (j0 : Nat) (j1 : Nat) (σ : HP) : Option (HP) := bd (wrA σ (j0 + 1) (va_cpy (σ (j1 + 1)) (σ (j0 + 1)) (ix 0) (ix 0) (ix 12))) (fun σ21 => bd (wrA σ21 (j0 + 2) (va_cpy (σ21 (j1 + 2)) (σ21 (j0 + 2)) (ix 0) (ix 0) (ix 12))) (fun σ22 => bd (wrA σ22 (j0 + 3) (va_cpy (σ22 (j1 + 3)) (σ22 (j0 + 3)) (ix 0) (ix 0) (ix 12))) (fun σ23 => bd (wrA σ23 (j0 + 4) (va_cpy (σ23 (j1 + 4)) (σ23 (j0 + 4)) (ix 0) (ix 0) (ix 12))) (fun σ24 => bd (wrA σ24 (j0 + 5) (va_cpy (σ24 (j1 + 5)) (σ24 (j0 + 5)) (ix 0) (ix 0) (ix 12))) (fun σ25 => bd (wrA σ25 (j0 + 6) (va_cpy (σ25 (j1 + 6)) (σ25 (j0 + 6)) (ix 0) (ix 0) (ix 12))) (fun σ26 => bd (wr σ26 j0 6 (σ26 j1 6)) (fun σ27 => bd (wr σ27 j0 7 (σ27 j1 7)) (fun σ28 => some σ28))))))))
noncomputable def F_X3_hasPlace (N : Nat) (j0 : Nat) (a1 : Int32) (σ : HP) : Option (Int32) := if a1 < 0 then (some 0) else (if (σ j0 6) ≤ a1 then (some 0) else (some 1))
noncomputable def F_X3_hasPairAt (N : Nat) (j0 : Nat) (a1 : Int32) (σ : HP) : Option (Int32) := if a1 < 0 then (some 0) else (if ((σ j0 6) - 1) ≤ a1 then (some 0) else (some 1))
noncomputable def F_X3_hasRoomFor (N : Nat) (j0 : Nat) (a1 : Int32) (σ : HP) : Option (Int32) := if 12 < ((σ j0 6) + a1) then (some 0) else (if 99 < ((σ j0 7) + a1) then (some 0) else (some 1))
noncomputable def F_X3_append (N : Nat) (j0 : Nat) (a1 : Int32) (a2 : Int32) (σ : HP) : Option (HP) := if (σ j0 6) < 12 then (gd (vp_in (σ j0 6) (12)) (bd (wr σ (j0 + 1) (ix (σ j0 6)) (σ j0 7)) (fun σ23 => gd (vp_in (σ23 j0 6) (12)) (bd (wr σ23 (j0 + 2) (ix (σ23 j0 6)) a1) (fun σ25 => gd (vp_in (σ25 j0 6) (12)) (bd (wr σ25 (j0 + 3) (ix (σ25 j0 6)) a2) (fun σ27 => gd (vp_in (σ27 j0 6) (12)) (bd (wr σ27 (j0 + 4) (ix (σ27 j0 6)) 0) (fun σ29 => gd (vp_in (σ29 j0 6) (12)) (bd (wr σ29 (j0 + 5) (ix (σ29 j0 6)) 0) (fun σ31 => gd (vp_in (σ31 j0 6) (12)) (bd (wr σ31 (j0 + 6) (ix (σ31 j0 6)) 0) (fun σ33 => bd (wr σ33 j0 6 ((σ33 j0 6) + 1)) (fun σ34 => bd (wr σ34 j0 7 ((σ34 j0 7) + 1)) (fun σ35 => some σ35))))))))))))))) else (some σ)
noncomputable def F_X3_swapWithNext (N : Nat) (j0 : Nat) (a1 : Int32) (σ : HP) : Option (HP) := gd (vp_in a1 (12)) (bd (σ j0 (ix a1)) (fun x22 => gd (vp_in (a1 + 1) (12)) (gd (vp_in a1 (12)) (bd (wr σ j0 (ix a1) (σ j0 (ix (a1 + 1)))) (fun σ25 => gd (vp_in (a1 + 1) (12)) (bd (wr σ25 j0 (ix (a1 + 1)) x22) (fun σ27 => some σ27)))))))
noncomputable def F_X3_swapEntries (N : Nat) (j0 : Nat) (a1 : Int32) (σ : HP) : Option (HP) := (F_X3_swapWithNext N (j0 + 1) a1 σ).bind (fun σ22 => (F_X3_swapWithNext N (j0 + 2) a1 σ22).bind (fun σ24 => (F_X3_swapWithNext N (j0 + 3) a1 σ24).bind (fun σ26 => (F_X3_swapWithNext N (j0 + 4) a1 σ26).bind (fun σ28 => (F_X3_swapWithNext N (j0 + 5) a1 σ28).bind (fun σ30 => (F_X3_swapWithNext N (j0 + 6) a1 σ30).bind (fun σ32 => some σ32))))))
noncomputable def L_X3_remove_2 (N : Nat) : Nat → Nat → Int32 → HP → Option (HP)
  | 0, _, _, _ => none
  | n + 1, j0, a2, σ => if ((σ j0 6) - 1) ≤ a2 then (bd (wr σ j0 6 ((σ j0 6) - 1)) (fun σ22 => some σ22)) else ((F_X3_swapEntries N j0 a2 σ).bind (fun σ24 => L_X3_remove_2  N n j0 (a2 + 1) σ24))
noncomputable def F_X3_remove (N : Nat) (j0 : Nat) (a1 : Int32) (σ : HP) : Option (HP) := L_X3_remove_2  N N j0 a1 σ
noncomputable def F_X3_swap (N : Nat) (j0 : Nat) (a1 : Int32) (σ : HP) : Option (HP) := (F_X3_swapEntries N j0 a1 σ).bind (fun σ22 => gd (vp_in a1 (12)) (gd (vp_in a1 (12)) (bd (wr σ22 (j0 + 6) (ix a1) ((σ22 (j0 + 6) (ix a1)) + 1)) (fun σ25 => gd (vp_in (a1 + 1) (12)) (gd (vp_in (a1 + 1) (12)) (bd (wr σ25 (j0 + 6) (ix (a1 + 1)) ((σ25 (j0 + 6) (ix (a1 + 1))) + 1)) (fun σ28 => some σ28)))))))
noncomputable def F_X3_isPairFree (N : Nat) (j0 : Nat) (a1 : Int32) (σ : HP) : Option (Int32) := (F_X3_isTangled N j0 a1 σ).bind (fun r22 => if r22 = 0 then ((F_X3_isTangled N j0 (a1 + 1) σ).bind (fun r25 => if r25 = 0 then (some 1) else (some 0))) else (some 0))
noncomputable def F_X3_tie (N : Nat) (j0 : Nat) (a1 : Int32) (a2 : Int32) (σ : HP) : Option (HP) := gd (vp_in a1 (12)) (bd (wr σ (j0 + 4) (ix a1) 1) (fun σ22 => gd (vp_in (a1 + 1) (12)) (bd (wr σ22 (j0 + 4) (ix (a1 + 1)) (-1)) (fun σ24 => gd (vp_in a1 (12)) (bd (wr σ24 (j0 + 5) (ix a1) a2) (fun σ26 => gd (vp_in (a1 + 1) (12)) (bd (wr σ26 (j0 + 5) (ix (a1 + 1)) a2) (fun σ28 => some σ28))))))))
noncomputable def J_X3_loosen_29 (k2 : (Nat → Int32 → HP → Option (HP))) (N : Nat) (j0 : Nat) (a1 : Int32) (σ : HP) : Option (HP) := gd (vp_in a1 (12)) (if (σ (j0 + 5) (ix a1)) = 0 then (gd (vp_in a1 (12)) (bd (wr σ (j0 + 4) (ix a1) 0) (fun σ24 => k2 j0 (a1 + 1) σ24))) else (k2 j0 (a1 + 1) σ))
noncomputable def L_X3_loosen_2 (N : Nat) : Nat → Nat → Int32 → HP → Option (HP)
  | 0, _, _, _ => none
  | n + 1, j0, a1, σ => if (σ j0 6) ≤ a1 then (some σ) else (gd (vp_in a1 (12)) (if (σ (j0 + 5) (ix a1)) ≤ 0 then (J_X3_loosen_29 (L_X3_loosen_2  N n) N j0 a1 σ) else (gd (vp_in a1 (12)) (gd (vp_in a1 (12)) (bd (wr σ (j0 + 5) (ix a1) ((σ (j0 + 5) (ix a1)) - 1)) (fun σ26 => J_X3_loosen_29 (L_X3_loosen_2  N n) N j0 a1 σ26))))))
noncomputable def F_X3_loosen (N : Nat) (j0 : Nat) (σ : HP) : Option (HP) := L_X3_loosen_2  N N j0 0 σ
noncomputable def F_X7_sideOf (N : Nat) (a0 : Int32) (a1 : Int32) (σ : HP) : Option (Int32) := if a0 = a1 then (some 0) else (if a1 ≤ a0 then (some 1) else (some (-1)))
noncomputable def F_X3_sideAt (N : Nat) (j0 : Nat) (a1 : Int32) (a2 : Int32) (σ : HP) : Option (Int32) := (F_X3_shownAt N j0 a1 a2 σ).bind (fun r22 => (F_X3_shownAt N j0 (a1 + 1) a2 σ).bind (fun r24 => (F_X7_sideOf N r22 r24 σ).bind (fun r26 => some r26)))
noncomputable def J_X3_wouldTangle_57 (N : Nat) (σ : HP) : Option (Int32) := some 1
noncomputable def F_X3_wouldTangle (N : Nat) (j0 : Nat) (a1 : Int32) (a2 : Int32) (σ : HP) : Option (Int32) := (F_X3_sideAt N j0 a1 a2 σ).bind (fun r22 => gd (vp_in a1 (12)) (gd (vp_in (a1 + 1) (12)) ((F_X7_sideOf N ((10 * (a1 + 1)) + (a2 * (σ (j0 + 3) (ix a1)))) ((10 * a1) + (a2 * (σ (j0 + 3) (ix (a1 + 1))))) σ).bind (fun r26 => if r22 = 0 then (J_X3_wouldTangle_57  N  σ) else (if r26 = 0 then (J_X3_wouldTangle_57  N  σ) else (if r22 = r26 then (J_X3_wouldTangle_57  N  σ) else (some 0)))))))
noncomputable def F_X5_copyFrom (N : Nat) (j0 : Nat) (j1 : Nat) (σ : HP) : Option (HP) := bd (wrA σ (j0 + 1) (va_cpy (σ (j1 + 1)) (σ (j0 + 1)) (ix 0) (ix 0) (ix 8))) (fun σ21 => bd (wrA σ21 (j0 + 2) (va_cpy (σ21 (j1 + 2)) (σ21 (j0 + 2)) (ix 0) (ix 0) (ix 8))) (fun σ22 => bd (wrA σ22 (j0 + 3) (va_cpy (σ22 (j1 + 3)) (σ22 (j0 + 3)) (ix 0) (ix 0) (ix 8))) (fun σ23 => bd (wrA σ23 (j0 + 4) (va_cpy (σ23 (j1 + 4)) (σ23 (j0 + 4)) (ix 0) (ix 0) (ix 8))) (fun σ24 => bd (wr σ24 j0 4 (σ24 j1 4)) (fun σ25 => bd (wr σ25 j0 5 (σ25 j1 5)) (fun σ26 => some σ26))))))
noncomputable def F_X6_copyFrom (N : Nat) (j0 : Nat) (j1 : Nat) (σ : HP) : Option (HP) := gd (∀ i, i < ix 12 → fits .char (.int (σ (j1 + 1) (ix 0 + i))) = true) (bd (wrA σ (j0 + 1) (va_cpy (σ (j1 + 1)) (σ (j0 + 1)) (ix 0) (ix 0) (ix 12))) (fun σ22 => bd (wr σ22 j0 1 (σ22 j1 1)) (fun σ23 => some σ23)))
noncomputable def F_X4_copyFrom (N : Nat) (j0 : Nat) (j1 : Nat) (σ : HP) : Option (HP) := (F_X3_copyFrom N (j0 + 1) (j1 + 1) σ).bind (fun σ22 => (F_X1_copyFrom N (j0 + 8) (j1 + 8) σ22).bind (fun σ24 => (F_X5_copyFrom N (j0 + 12) (j1 + 12) σ24).bind (fun σ26 => (F_X6_copyFrom N (j0 + 17) (j1 + 17) σ26).bind (fun σ28 => bd (wr σ28 j0 4 (σ28 j1 4)) (fun σ29 => bd (wr σ29 j0 5 (σ29 j1 5)) (fun σ30 => bd (wr σ30 j0 6 (σ30 j1 6)) (fun σ31 => gd ((σ31 j1 7) = 0 ∨ (σ31 j1 7) = 1) (bd (wr σ31 j0 7 (σ31 j1 7)) (fun σ33 => bd (wr σ33 j0 8 (σ33 j1 8)) (fun σ34 => bd (wr σ34 j0 9 (σ34 j1 9)) (fun σ35 => some σ35)))))))))))
noncomputable def F_X7_asNumber (N : Nat) (a0 : Int32) (σ : HP) : Option (Int32) := if a0 = 0 then (some 0) else (some 1)
noncomputable def L_X5_add_4 (N : Nat) : Nat → Nat → Int32 → Int32 → Int32 → Int32 → Int32 → HP → Option (HP)
  | 0, _, _, _, _, _, _, _ => none
  | n + 1, j0, a1, a2, a3, a4, a5, σ => if a5 ≤ 0 then (bd (wr σ (j0 + 1) (ix 0) a1) (fun σ22 => bd (wr σ22 (j0 + 2) (ix 0) a2) (fun σ23 => bd (wr σ23 (j0 + 3) (ix 0) a3) (fun σ24 => bd (wr σ24 (j0 + 4) (ix 0) a4) (fun σ25 => bd (wr σ25 j0 4 (if 8 < ((σ25 j0 4) + 1) then 8 else ((σ25 j0 4) + 1))) (fun σ26 => bd (wr σ26 j0 5 ((σ26 j0 5) + 1)) (fun σ27 => some σ27))))))) else (gd (vp_in (a5 - 1) (8)) (gd (vp_in a5 (8)) (bd (wr σ (j0 + 1) (ix a5) (σ (j0 + 1) (ix (a5 - 1)))) (fun σ30 => gd (vp_in (a5 - 1) (8)) (gd (vp_in a5 (8)) (bd (wr σ30 (j0 + 2) (ix a5) (σ30 (j0 + 2) (ix (a5 - 1)))) (fun σ33 => gd (vp_in (a5 - 1) (8)) (gd (vp_in a5 (8)) (bd (wr σ33 (j0 + 3) (ix a5) (σ33 (j0 + 3) (ix (a5 - 1)))) (fun σ36 => gd (vp_in (a5 - 1) (8)) (gd (vp_in a5 (8)) (bd (wr σ36 (j0 + 4) (ix a5) (σ36 (j0 + 4) (ix (a5 - 1)))) (fun σ39 => L_X5_add_4  N n j0 a1 a2 a3 a4 (a5 + (-1)) σ39)))))))))))))
noncomputable def F_X5_add (N : Nat) (j0 : Nat) (a1 : Int32) (a2 : Int32) (a3 : Int32) (a4 : Int32) (σ : HP) : Option (HP) := L_X5_add_4  N N j0 a1 a2 a3 a4 7 σ
noncomputable def F_X4_tangleAt (N : Nat) (j0 : Nat) (a1 : Int32) (a2 : Int32) (σ : HP) : Option (HP) := (F_X3_tie N (j0 + 1) a1 (σ j0 8) σ).bind (fun σ22 => gd (vp_in a1 (12)) (gd (vp_in (a1 + 1) (12)) ((F_X7_asNumber N a2 σ22).bind (fun r26 => (F_X5_add N (j0 + 12) (σ22 j0 4) (σ22 ((j0 + 1) + 1) (ix a1)) (σ22 ((j0 + 1) + 1) (ix (a1 + 1))) r26 σ22).bind (fun σ28 => some σ28)))))
noncomputable def L_X4_turnWind_21 (N : Nat) : Nat → Nat → Int32 → Int32 → Int32 → HP → Option (Int32 × HP)
  | 0, _, _, _, _, _ => none
  | n + 1, j0, a3, a4, a5, σ => if ((σ (j0 + 1) 6) - 1) ≤ a5 then (some (a4, σ)) else ((F_X3_isPairFree N (j0 + 1) a5 σ).bind (fun r23 => if r23 = 0 then (L_X4_turnWind_21  N n j0 a3 a4 (a5 + 1) σ) else ((F_X3_sideAt N (j0 + 1) a5 a3 σ).bind (fun r26 => (F_X4_drift N j0 σ).bind (fun r28 => (F_X3_sideAt N (j0 + 1) a5 r28 σ).bind (fun r30 => if r26 = r30 then (L_X4_turnWind_21  N n j0 a3 a4 (a5 + 1) σ) else ((F_X4_tangleAt N j0 a5 0 σ).bind (fun σ33 => L_X4_turnWind_21  N n j0 a3 (a4 + 1) (a5 + 1) σ33))))))))
noncomputable def F_X4_turnWind (N : Nat) (j0 : Nat) (a1 : Int32) (a2 : Int32) (σ : HP) : Option (Int32 × HP) := (F_X4_drift N j0 σ).bind (fun r22 => bd (wr σ j0 5 a1) (fun σ23 => bd (wr σ23 j0 6 a2) (fun σ24 => L_X4_turnWind_21  N N j0 r22 0 0 σ24)))
noncomputable def F_X4_passMinute (N : Nat) (j0 : Nat) (σ : HP) : Option (Int32 × HP) := bd (wr σ j0 4 ((σ j0 4) + 1)) (fun σ21 => (F_X3_loosen N (j0 + 1) σ21).bind (fun σ23 => (F_X1_rankOf N (j0 + 8) (σ23 j0 4) σ23).bind (fun r25 => if r25 = (-1) then (some (0, σ23)) else (gd (vp_in r25 (8)) (bd (σ23 ((j0 + 8) + 2) (ix r25)) (fun x28 => gd (vp_in r25 (8)) (bd (σ23 ((j0 + 8) + 3) (ix r25)) (fun x30 => (F_X1_remove N (j0 + 8) r25 σ23).bind (fun σ32 => bind2 (F_X4_turnWind N j0 x28 x30 σ32) (fun r34 σ35 => some (r34, σ35)))))))))))
noncomputable def J_X4_tradePlaces_41 (N : Nat) (j0 : Nat) (a2 : Int32) (σ : HP) : Option (Int32 × HP) := bind2 (F_X4_passMinute N j0 σ) (fun r22 σ23 => gd (a2 = 0 ∨ a2 = 1) (some (a2, σ23)))
noncomputable def F_X4_tradePlaces (N : Nat) (j0 : Nat) (a1 : Int32) (σ : HP) : Option (Int32 × HP) := (F_X4_drift N j0 σ).bind (fun r22 => (F_X3_wouldTangle N (j0 + 1) a1 r22 σ).bind (fun r24 => (F_X3_swap N (j0 + 1) a1 σ).bind (fun σ26 => bd (wr σ26 j0 9 ((σ26 j0 9) + 1)) (fun σ27 => if r24 = 0 then (J_X4_tradePlaces_41  N j0 r24 σ27) else ((F_X4_tangleAt N j0 a1 1 σ27).bind (fun σ30 => J_X4_tradePlaces_41  N j0 r24 σ30))))))
noncomputable def F_X4_isSafe (N : Nat) (j0 : Nat) (a1 : Int32) (σ : HP) : Option (Int32) := (F_X3_isPairFree N (j0 + 1) a1 σ).bind (fun r22 => if r22 = 0 then (some 0) else ((F_X4_drift N j0 σ).bind (fun r25 => (F_X3_wouldTangle N (j0 + 1) a1 r25 σ).bind (fun r27 => if r27 = 0 then (some 1) else (some 0)))))
noncomputable def L_X4_isAtRest_14 (N : Nat) (σ : HP) : Nat → Nat → Int32 → Option (Int32)
  | 0, _, _ => none
  | n + 1, j0, a1 => if (σ (j0 + 1) 6) ≤ a1 then (some 1) else ((F_X3_isTangled N (j0 + 1) a1 σ).bind (fun r23 => if r23 = 0 then (L_X4_isAtRest_14  N σ n j0 (a1 + 1)) else (some 0)))
noncomputable def F_X4_isAtRest (N : Nat) (j0 : Nat) (σ : HP) : Option (Int32) := if (σ (j0 + 8) 3) ≤ 0 then (L_X4_isAtRest_14  N σ N j0 0) else (some 0)
noncomputable def L_X6_isSame_12 (N : Nat) (σ : HP) : Nat → Nat → Nat → Int32 → Option (Int32)
  | 0, _, _, _ => none
  | n + 1, j0, j1, a3 => if (σ j0 1) ≤ a3 then (some 1) else (gd (vp_in a3 (12)) (gd (vp_in a3 (60)) (if (σ (j0 + 1) (ix a3)) = (σ j1 (ix a3)) then (L_X6_isSame_12  N σ n j0 j1 (a3 + 1)) else (some 0))))
noncomputable def F_X6_isSame (N : Nat) (j0 : Nat) (j1 : Nat) (a2 : Int32) (σ : HP) : Option (Int32) := if (σ j0 1) = a2 then (L_X6_isSame_12  N σ N j0 j1 0) else (some 0)
noncomputable def F_X6_become (N : Nat) (j0 : Nat) (j1 : Nat) (a2 : Int32) (σ : HP) : Option (HP) := bd (wr σ j0 1 (if 12 < a2 then 12 else a2)) (fun σ21 => gd (¬ (σ21 j0 1) < 0 ∧ ix 0 + ix (σ21 j0 1) ≤ 60 ∧ ix 0 + ix (σ21 j0 1) ≤ 12) (gd (∀ i, i < ix (σ21 j0 1) → fits .char (.int (σ21 j1 (ix 0 + i))) = true) (bd (wrA σ21 (j0 + 1) (va_cpy (σ21 j1) (σ21 (j0 + 1)) (ix 0) (ix 0) (ix (σ21 j0 1)))) (fun σ24 => some σ24))))
noncomputable def F_X7_isLetter (N : Nat) (a0 : Int32) (σ : HP) : Option (Int32) := if a0 < 97 then (some 0) else (if 122 < a0 then (some 0) else (some 1))
noncomputable def F_X7_isWithin (N : Nat) (a0 : Int32) (a1 : Int32) (a2 : Int32) (σ : HP) : Option (Int32) := if a0 < a1 then (some 0) else (if a2 < a0 then (some 0) else (some 1))
noncomputable def L_X7_dropOldest_9 (N : Nat) : Nat → Nat → Nat → Int32 → HP → Option (HP)
  | 0, _, _, _, _ => none
  | n + 1, j0, j1, a2, σ => if 4 ≤ a2 then (bd (wr σ 134 (ix 3) (nI j1)) (fun σ22 => bd (wr σ22 j0 8 3) (fun σ23 => some σ23))) else (gd (vp_in a2 (4)) (gd (kd (ix (σ 134 (ix a2))) = 4) (bd (ix (σ 134 (ix a2))) (fun q26 => gd (vp_in (a2 - 1) (4)) (bd (wr σ 134 (ix (a2 - 1)) (nI q26)) (fun σ28 => L_X7_dropOldest_9  N n j0 j1 (a2 + 1) σ28))))))
noncomputable def F_X7_dropOldest (N : Nat) (j0 : Nat) (σ : HP) : Option (HP) := gd (kd (ix (σ 134 (ix 0))) = 4) (bd (ix (σ 134 (ix 0))) (fun q22 => L_X7_dropOldest_9  N N j0 q22 1 σ))
noncomputable def J_X7_record_12 (N : Nat) (j0 : Nat) (σ : HP) : Option (HP) := gd (vp_in (σ j0 8) (4)) (gd (kd (ix (σ 134 (ix (σ j0 8)))) = 4) (bd (ix (σ 134 (ix (σ j0 8)))) (fun q23 => (F_X4_copyFrom N q23 0 σ).bind (fun σ25 => bd (wr σ25 j0 8 ((σ25 j0 8) + 1)) (fun σ26 => some σ26)))))
noncomputable def F_X7_record (N : Nat) (j0 : Nat) (σ : HP) : Option (HP) := if (σ j0 8) < 4 then (J_X7_record_12  N j0 σ) else ((F_X7_dropOldest N j0 σ).bind (fun σ23 => J_X7_record_12  N j0 σ23))
noncomputable def F_X7_come (N : Nat) (j0 : Nat) (a1 : Int32) (a2 : Int32) (σ : HP) : Option (Int32 × HP) := (F_X7_isLetter N a1 σ).bind (fun r22 => if r22 = 0 then (some ((-1000002), σ)) else ((F_X7_isWithin N a2 1 9 σ).bind (fun r25 => if r25 = 0 then (some ((-1000002), σ)) else ((F_X3_hasRoomFor N (0 + 1) 1 σ).bind (fun r28 => if r28 = 0 then (some ((-1000003), σ)) else ((F_X7_record N j0 σ).bind (fun σ31 => (F_X3_append N (0 + 1) a1 a2 σ31).bind (fun σ33 => some (((σ33 (0 + 1) 6) - 1), σ33)))))))))
noncomputable def F_X7_isAllowedInRow (N : Nat) (a0 : Int32) (a1 : Int32) (σ : HP) : Option (Int32) := if a1 = 0 then ((F_X7_isLetter N a0 σ).bind (fun r23 => gd (r23 = 0 ∨ r23 = 1) (some r23))) else if a1 = 1 then (if a0 < 49 then (some 0) else (if 57 < a0 then (some 0) else (some 1))) else (if a0 = 44 then (some 1) else (some 0))
noncomputable def L_X7_rowFault_2 (N : Nat) (σ : HP) : Nat → Nat → Int32 → Option (Int32)
  | 0, _, _ => none
  | n + 1, j0, a1 => if (σ j0 9) ≤ a1 then (if ((σ j0 9) - (σ j0 9) / 3 * 3) = 2 then (some (-1)) else (some (σ j0 9))) else (gd (vp_in a1 (60)) ((F_X7_isAllowedInRow N (σ 135 (ix a1)) (a1 - a1 / 3 * 3) σ).bind (fun r25 => if r25 = 0 then (some a1) else (L_X7_rowFault_2  N σ n j0 (a1 + 1)))))
noncomputable def F_X7_rowFault (N : Nat) (j0 : Nat) (σ : HP) : Option (Int32) := L_X7_rowFault_2  N σ N j0 0
noncomputable def L_X7_readRow_45 (N : Nat) : Nat → Nat → Int32 → HP → Option (Int32 × HP)
  | 0, _, _, _ => none
  | n + 1, j0, a2, σ => if (σ j0 9) ≤ (a2 + 1) then (some ((σ (0 + 1) 6), σ)) else (gd (vp_in a2 (60)) (gd (vp_in (a2 + 1) (60)) ((F_X3_append N (0 + 1) (σ 135 (ix a2)) ((σ 135 (ix (a2 + 1))) - 48) σ).bind (fun σ25 => L_X7_readRow_45  N n j0 (a2 + 3) σ25))))
noncomputable def F_X7_readRow (N : Nat) (j0 : Nat) (σ : HP) : Option (Int32 × HP) := (F_X7_rowFault N j0 σ).bind (fun r22 => if r22 = (-1) then ((F_X3_hasRoomFor N (0 + 1) (((σ j0 9) + 1) / 3) σ).bind (fun r25 => if r25 = 0 then (some ((-1000003), σ)) else ((F_X7_record N j0 σ).bind (fun σ28 => L_X7_readRow_45  N N j0 0 σ28)))) else (some (((-1000100) - r22), σ)))
noncomputable def F_X7_go (N : Nat) (j0 : Nat) (a1 : Int32) (σ : HP) : Option (Int32 × HP) := (F_X3_hasPlace N (0 + 1) a1 σ).bind (fun r22 => if r22 = 0 then (some ((-1000001), σ)) else ((F_X3_isTangled N (0 + 1) a1 σ).bind (fun r25 => if r25 = 0 then ((F_X7_record N j0 σ).bind (fun σ28 => (F_X3_remove N (0 + 1) a1 σ28).bind (fun σ30 => some ((σ30 (0 + 1) 6), σ30)))) else (some ((-1000004), σ)))))
noncomputable def F_X7_pay (N : Nat) (j0 : Nat) (a1 : Int32) (a2 : Int32) (σ : HP) : Option (Int32 × HP) := (F_X3_hasPlace N (0 + 1) a1 σ).bind (fun r22 => if r22 = 0 then (some ((-1000001), σ)) else ((F_X7_isWithin N a2 1 9 σ).bind (fun r25 => if r25 = 0 then (some ((-1000002), σ)) else (gd (vp_in a1 (12)) (bd (σ ((0 + 1) + 3) (ix a1)) (fun x28 => if x28 = a2 then (some ((-1000005), σ)) else ((F_X7_record N j0 σ).bind (fun σ31 => gd (vp_in a1 (12)) (bd (wr σ31 ((0 + 1) + 3) (ix a1) a2) (fun σ33 => some (x28, σ33)))))))))))
noncomputable def F_X7_trade (N : Nat) (j0 : Nat) (a1 : Int32) (σ : HP) : Option (Int32 × HP) := (F_X3_hasPairAt N (0 + 1) a1 σ).bind (fun r22 => if r22 = 0 then (some ((-1000001), σ)) else ((F_X3_isPairFree N (0 + 1) a1 σ).bind (fun r25 => if r25 = 0 then (some ((-1000004), σ)) else (if (σ 0 4) < 9999 then ((F_X7_record N j0 σ).bind (fun σ29 => bind2 (F_X4_tradePlaces N 0 a1 σ29) (fun r31 σ32 => (F_X7_asNumber N r31 σ32).bind (fun r34 => some (r34, σ32))))) else (some ((-1000004), σ))))))
noncomputable def L_X7_pass_39 (N : Nat) : Nat → Nat → Int32 → Int32 → Int32 → HP → Option (Int32 × HP)
  | 0, _, _, _, _, _ => none
  | n + 1, j0, a1, a2, a3, σ => if a1 ≤ a3 then (some (a2, σ)) else (bind2 (F_X4_passMinute N 0 σ) (fun r23 σ24 => bd (a2 + r23) (fun x25 => L_X7_pass_39  N n j0 a1 x25 (a3 + 1) σ24)))
noncomputable def F_X7_pass (N : Nat) (j0 : Nat) (a1 : Int32) (σ : HP) : Option (Int32 × HP) := (F_X7_isWithin N a1 1 60 σ).bind (fun r22 => if r22 = 0 then (some ((-1000002), σ)) else (if ((σ 0 4) + a1) ≤ 9999 then ((F_X7_record N j0 σ).bind (fun σ26 => L_X7_pass_39  N N j0 a1 0 0 σ26)) else (some ((-1000003), σ))))
noncomputable def F_X7_isWind (N : Nat) (a0 : Int32) (a1 : Int32) (σ : HP) : Option (Int32) := (F_X7_isWithin N a0 0 3 σ).bind (fun r22 => if r22 = 0 then (some 0) else ((F_X7_isWithin N a1 0 5 σ).bind (fun r25 => if r25 = 0 then (some 0) else (some 1))))
noncomputable def J_X7_wind_36 (N : Nat) (j0 : Nat) (a1 : Int32) (a2 : Int32) (σ : HP) : Option (Int32 × HP) := (F_X7_record N j0 σ).bind (fun σ22 => bind2 (F_X4_turnWind N 0 a1 a2 σ22) (fun r24 σ25 => some (r24, σ25)))
noncomputable def F_X7_wind (N : Nat) (j0 : Nat) (a1 : Int32) (a2 : Int32) (σ : HP) : Option (Int32 × HP) := (F_X7_isWind N a1 a2 σ).bind (fun r22 => if r22 = 0 then (some ((-1000002), σ)) else (if (σ 0 5) = a1 then (if (σ 0 6) = a2 then (some ((-1000005), σ)) else (J_X7_wind_36  N j0 a1 a2 σ)) else (J_X7_wind_36  N j0 a1 a2 σ)))
noncomputable def F_X7_planTurn (N : Nat) (j0 : Nat) (a1 : Int32) (a2 : Int32) (a3 : Int32) (σ : HP) : Option (Int32 × HP) := (F_X7_isWithin N a1 1 9999 σ).bind (fun r22 => if r22 = 0 then (some ((-1000002), σ)) else ((F_X7_isWind N a2 a3 σ).bind (fun r25 => if r25 = 0 then (some ((-1000002), σ)) else (if a1 ≤ (σ 0 4) then (some ((-1000004), σ)) else ((F_X1_rankOf N (0 + 8) a1 σ).bind (fun r29 => if r29 = (-1) then (if (σ (0 + 8) 3) < 8 then ((F_X7_record N j0 σ).bind (fun σ33 => (F_X1_insert N (0 + 8) a1 a2 a3 σ33).bind (fun σ35 => some ((σ35 (0 + 8) 3), σ35)))) else (some ((-1000003), σ))) else (some ((-1000004), σ))))))))
noncomputable def F_X7_dropTurn (N : Nat) (j0 : Nat) (a1 : Int32) (σ : HP) : Option (Int32 × HP) := (F_X1_rankOf N (0 + 8) a1 σ).bind (fun r22 => if r22 = (-1) then (some ((-1000001), σ)) else ((F_X7_record N j0 σ).bind (fun σ25 => (F_X1_remove N (0 + 8) r22 σ25).bind (fun σ27 => some ((σ27 (0 + 8) 3), σ27)))))
noncomputable def F_X7_readableKites (N : Nat) (j0 : Nat) (σ : HP) : Option (Int32 × HP) := (F_X2_look N 136 0 σ).bind (fun σ22 => some ((σ22 136 1), σ22))
noncomputable def F_X7_crowd (N : Nat) (j0 : Nat) (a1 : Int32) (σ : HP) : Option (Int32 × HP) := if (σ 0 7) = a1 then (some ((-1000005), σ)) else ((F_X7_record N j0 σ).bind (fun σ23 => gd (a1 = 0 ∨ a1 = 1) (bd (wr σ23 0 7 a1) (fun σ25 => bind2 (F_X7_readableKites N j0 σ25) (fun r27 σ28 => some (r27, σ28))))))
noncomputable def F_X7_setTangle (N : Nat) (j0 : Nat) (a1 : Int32) (σ : HP) : Option (Int32 × HP) := (F_X7_isWithin N a1 1 9 σ).bind (fun r22 => if r22 = 0 then (some ((-1000002), σ)) else (bd (σ 0 8) (fun x24 => if x24 = a1 then (some ((-1000005), σ)) else ((F_X7_record N j0 σ).bind (fun σ27 => bd (wr σ27 0 8 a1) (fun σ28 => some (x24, σ28)))))))
noncomputable def L_X7_wordFault_2 (N : Nat) (σ : HP) : Nat → Nat → Int32 → Option (Int32)
  | 0, _, _ => none
  | n + 1, j0, a1 => if (σ j0 9) ≤ a1 then (if (σ j0 9) ≤ 0 then (some 0) else (some (-1))) else (if 12 ≤ a1 then (some a1) else (gd (vp_in a1 (60)) ((F_X7_isLetter N (σ 135 (ix a1)) σ).bind (fun r26 => if r26 = 0 then (some a1) else (L_X7_wordFault_2  N σ n j0 (a1 + 1))))))
noncomputable def F_X7_wordFault (N : Nat) (j0 : Nat) (σ : HP) : Option (Int32) := L_X7_wordFault_2  N σ N j0 0
noncomputable def F_X7_want (N : Nat) (j0 : Nat) (σ : HP) : Option (Int32 × HP) := (F_X7_wordFault N j0 σ).bind (fun r22 => if r22 = (-1) then ((F_X6_isSame N (0 + 17) 135 (σ j0 9) σ).bind (fun r25 => if r25 = 0 then ((F_X7_record N j0 σ).bind (fun σ28 => (F_X6_become N (0 + 17) 135 (σ28 j0 9) σ28).bind (fun σ30 => some ((σ30 (0 + 17) 1), σ30)))) else (some ((-1000005), σ)))) else (some (((-1000100) - r22), σ)))
noncomputable def F_X7_type (N : Nat) (j0 : Nat) (a1 : Int32) (σ : HP) : Option (Int32 × HP) := if (σ j0 9) < 60 then (gd (vp_in (σ j0 9) (60)) (bd (wr σ 135 (ix (σ j0 9)) (vp_nar .char a1)) (fun σ23 => bd (wr σ23 j0 9 ((σ23 j0 9) + 1)) (fun σ24 => some ((σ24 j0 9), σ24))))) else (some ((-1000003), σ))
noncomputable def F_X7_clearText (N : Nat) (j0 : Nat) (σ : HP) : Option (Int32 × HP) := bd (σ j0 9) (fun x21 => bd (wr σ j0 9 0) (fun σ22 => some (x21, σ22)))
noncomputable def F_X7_undo (N : Nat) (j0 : Nat) (σ : HP) : Option (Int32 × HP) := if 0 < (σ j0 8) then (bd (wr σ j0 8 ((σ j0 8) - 1)) (fun σ22 => gd (vp_in (σ22 j0 8) (4)) (gd (kd (ix (σ22 134 (ix (σ22 j0 8)))) = 4) (bd (ix (σ22 134 (ix (σ22 j0 8)))) (fun q25 => (F_X4_copyFrom N 0 q25 σ22).bind (fun σ27 => some ((σ27 j0 8), σ27))))))) else (some ((-1000005), σ))
noncomputable def F_X7_keep (N : Nat) (j0 : Nat) (σ : HP) : Option (Int32 × HP) := (F_X4_copyFrom N 38 0 σ).bind (fun σ22 => bd (wr σ22 j0 7 1) (fun σ23 => some ((σ23 0 4), σ23)))
noncomputable def F_X7_restore (N : Nat) (j0 : Nat) (σ : HP) : Option (Int32 × HP) := if (σ j0 7) = 0 then (some ((-1000005), σ)) else ((F_X7_record N j0 σ).bind (fun σ23 => (F_X4_copyFrom N 0 38 σ23).bind (fun σ25 => some ((σ25 0 4), σ25))))
noncomputable def F_X7_flier (N : Nat) (j0 : Nat) (a1 : Int32) (a2 : Int32) (σ : HP) : Option (Int32) := (F_X3_hasPlace N (0 + 1) a1 σ).bind (fun r22 => if r22 = 0 then (some (-1000001)) else (if a2 = 0 then (gd (vp_in a1 (12)) (some (σ ((0 + 1) + 1) (ix a1)))) else if a2 = 1 then (gd (vp_in a1 (12)) (some (σ ((0 + 1) + 2) (ix a1)))) else if a2 = 2 then (gd (vp_in a1 (12)) (some (σ ((0 + 1) + 3) (ix a1)))) else if a2 = 3 then ((F_X4_drift N 0 σ).bind (fun r32 => (F_X3_shownAt N (0 + 1) a1 r32 σ).bind (fun r34 => some r34))) else if a2 = 4 then ((F_X3_isTangled N (0 + 1) a1 σ).bind (fun r37 => if r37 = 0 then (some (-1000005)) else (gd (vp_in a1 (12)) (some (a1 + (σ ((0 + 1) + 4) (ix a1))))))) else if a2 = 5 then (gd (vp_in a1 (12)) (some (σ ((0 + 1) + 5) (ix a1)))) else if a2 = 6 then ((F_X4_drift N 0 σ).bind (fun r44 => (F_X3_canBeRead N (0 + 1) a1 r44 σ).bind (fun r46 => (F_X7_asNumber N r46 σ).bind (fun r48 => some r48)))) else if a2 = 7 then (gd (vp_in a1 (12)) (some (σ ((0 + 1) + 6) (ix a1)))) else (some (-1000002))))
noncomputable def F_X7_reads (N : Nat) (j0 : Nat) (a1 : Int32) (σ : HP) : Option (Int32 × HP) := if 0 ≤ a1 then ((F_X2_look N 136 0 σ).bind (fun σ23 => if a1 < (σ23 136 1) then (gd (vp_in a1 (12)) (gd (vp_in (σ23 (136 + 1) (ix a1)) (12)) (some ((σ23 ((0 + 1) + 2) (ix (σ23 (136 + 1) (ix a1)))), σ23)))) else (some ((-1000005), σ23)))) else (some ((-1000002), σ))
noncomputable def F_X7_ifTraded (N : Nat) (j0 : Nat) (a1 : Int32) (a2 : Int32) (σ : HP) : Option (Int32 × HP) := (F_X3_hasPairAt N (0 + 1) a1 σ).bind (fun r22 => if r22 = 0 then (some ((-1000001), σ)) else ((F_X7_isWithin N a2 0 2 σ).bind (fun r25 => if r25 = 0 then (some ((-1000002), σ)) else (if a2 = 1 then ((F_X4_isSafe N 0 a1 σ).bind (fun r39 => (F_X7_asNumber N r39 σ).bind (fun r41 => some (r41, σ)))) else ((F_X0_match N 138 0 σ).bind (fun σ29 => if (σ29 138 2) = 0 then (some ((-1000005), σ29)) else (if a2 = 0 then ((F_X0_isGood N 138 a1 σ29).bind (fun r35 => (F_X7_asNumber N r35 σ29).bind (fun r37 => some (r37, σ29)))) else ((F_X0_fewestBehind N 138 (0 + 1) a1 σ29).bind (fun r33 => some (r33, σ29))))))))))
noncomputable def L_X7_nextPlace_22 (N : Nat) : Nat → Nat → Nat → Int32 → HP → Option (Int32 × HP)
  | 0, _, _, _, _ => none
  | n + 1, j0, j1, a2, σ => if ((σ (j1 + 1) 6) - 1) ≤ a2 then (some ((-1), σ)) else ((F_X0_isGood N 138 a2 σ).bind (fun r23 => if r23 = 0 then (L_X7_nextPlace_22  N n j0 j1 (a2 + 1) σ) else ((F_X4_isSafe N j1 a2 σ).bind (fun r26 => if r26 = 0 then (L_X7_nextPlace_22  N n j0 j1 (a2 + 1) σ) else (some (a2, σ))))))
noncomputable def F_X7_nextPlace (N : Nat) (j0 : Nat) (j1 : Nat) (σ : HP) : Option (Int32 × HP) := (F_X0_match N 138 j1 σ).bind (fun σ22 => if (σ22 138 2) = 0 then (some ((-1), σ22)) else (L_X7_nextPlace_22  N N j0 j1 0 σ22))
noncomputable def F_X7_nextTrade (N : Nat) (j0 : Nat) (σ : HP) : Option (Int32 × HP) := bind2 (F_X7_nextPlace N j0 0 σ) (fun r22 σ23 => if r22 = (-1) then (some ((-1000005), σ23)) else (some (r22, σ23)))
noncomputable def L_X7_isSpelled_56 (N : Nat) : Nat → Nat → Nat → Int32 → HP → Option (Int32 × HP)
  | 0, _, _, _, _ => none
  | n + 1, j0, j1, a2, σ => if (σ 136 1) ≤ a2 then (some (1, σ)) else (gd (vp_in a2 (12)) (gd (vp_in (σ (136 + 1) (ix a2)) (12)) (gd (vp_in a2 (12)) (if (σ ((j1 + 1) + 2) (ix (σ (136 + 1) (ix a2)))) = (σ ((j1 + 17) + 1) (ix a2)) then (L_X7_isSpelled_56  N n j0 j1 (a2 + 1) σ) else (some (0, σ))))))
noncomputable def F_X7_isSpelled (N : Nat) (j0 : Nat) (j1 : Nat) (σ : HP) : Option (Int32 × HP) := (F_X2_look N 136 j1 σ).bind (fun σ22 => if (σ22 136 1) = (σ22 (j1 + 1) 6) then (if (σ22 136 1) = (σ22 (j1 + 17) 1) then (if (σ22 (j1 + 17) 1) = 0 then (some (0, σ22)) else (L_X7_isSpelled_56  N N j0 j1 0 σ22)) else (some (0, σ22))) else (some (0, σ22)))
noncomputable def L_X7_spelledIn_37 (N : Nat) : Nat → Nat → Int32 → HP → Option (Int32 × HP)
  | 0, _, _, _ => none
  | n + 1, j0, a1, σ => if 200 < a1 then (some ((-1000005), σ)) else (bind2 (F_X7_isSpelled N j0 19 σ) (fun r23 σ24 => if r23 = 0 then (bind2 (F_X7_nextPlace N j0 19 σ24) (fun r27 σ28 => if r27 = (-1) then ((F_X4_isAtRest N 19 σ28).bind (fun r31 => if r31 = 0 then (bind2 (F_X4_passMinute N 19 σ28) (fun r34 σ35 => L_X7_spelledIn_37  N n j0 (a1 + 1) σ35)) else (some ((-1000005), σ28)))) else (bind2 (F_X4_tradePlaces N 19 r27 σ28) (fun r37 σ38 => L_X7_spelledIn_37  N n j0 (a1 + 1) σ38)))) else (some (a1, σ24))))
noncomputable def F_X7_spelledIn (N : Nat) (j0 : Nat) (σ : HP) : Option (Int32 × HP) := (F_X0_match N 138 0 σ).bind (fun σ22 => if (σ22 138 2) = 0 then (some ((-1000005), σ22)) else ((F_X4_copyFrom N 19 0 σ22).bind (fun σ25 => L_X7_spelledIn_37  N N j0 0 σ25)))
noncomputable def F_X7_turnOf (N : Nat) (j0 : Nat) (a1 : Int32) (a2 : Int32) (σ : HP) : Option (Int32) := if a1 < 0 then (some (-1000002)) else ((F_X7_isWithin N a2 0 2 σ).bind (fun r23 => if r23 = 0 then (some (-1000002)) else (if a1 < (σ (0 + 8) 3) then (if a2 = 0 then (gd (vp_in a1 (8)) (some (σ ((0 + 8) + 1) (ix a1)))) else if a2 = 1 then (gd (vp_in a1 (8)) (some (σ ((0 + 8) + 2) (ix a1)))) else (gd (vp_in a1 (8)) (some (σ ((0 + 8) + 3) (ix a1))))) else (some (-1000005)))))
noncomputable def F_X7_tangle (N : Nat) (j0 : Nat) (a1 : Int32) (a2 : Int32) (σ : HP) : Option (Int32) := if a1 < 0 then (some (-1000002)) else ((F_X7_isWithin N a2 0 3 σ).bind (fun r23 => if r23 = 0 then (some (-1000002)) else (if a1 < (σ (0 + 12) 4) then (if a2 = 0 then (gd (vp_in a1 (8)) (some (σ ((0 + 12) + 1) (ix a1)))) else if a2 = 1 then (gd (vp_in a1 (8)) (some (σ ((0 + 12) + 2) (ix a1)))) else if a2 = 2 then (gd (vp_in a1 (8)) (some (σ ((0 + 12) + 3) (ix a1)))) else (gd (vp_in a1 (8)) (some (σ ((0 + 12) + 4) (ix a1))))) else (some (-1000005)))))
noncomputable def F_X7_fewestTrades (N : Nat) (j0 : Nat) (σ : HP) : Option (Int32 × HP) := (F_X0_match N 138 0 σ).bind (fun σ22 => if (σ22 138 2) = 0 then (some ((-1000005), σ22)) else (some ((σ22 138 3), σ22)))
noncomputable def F_X7_count (N : Nat) (j0 : Nat) (a1 : Int32) (σ : HP) : Option (Int32 × HP) := if a1 = 0 then (some ((σ (0 + 1) 6), σ)) else if a1 = 1 then (some ((σ 0 4), σ)) else if a1 = 2 then (some ((σ 0 5), σ)) else if a1 = 3 then (some ((σ 0 6), σ)) else if a1 = 4 then ((F_X7_asNumber N (σ 0 7) σ).bind (fun r27 => some (r27, σ))) else if a1 = 5 then (bind2 (F_X7_readableKites N j0 σ) (fun r30 σ31 => some (r30, σ31))) else if a1 = 6 then (some ((σ (0 + 17) 1), σ)) else if a1 = 7 then (bind2 (F_X7_fewestTrades N j0 σ) (fun r35 σ36 => some (r35, σ36))) else if a1 = 8 then (bind2 (F_X7_isSpelled N j0 0 σ) (fun r39 σ40 => (F_X7_asNumber N r39 σ40).bind (fun r42 => some (r42, σ40)))) else if a1 = 9 then (some ((σ 0 9), σ)) else if a1 = 10 then (some ((σ (0 + 12) 5), σ)) else if a1 = 11 then (some ((σ (0 + 8) 3), σ)) else if a1 = 12 then (some ((σ j0 8), σ)) else if a1 = 13 then (some ((σ j0 9), σ)) else (some ((-1000002), σ))
noncomputable def F_X8_in (N : Nat) (a0 : Int32) (a1 : Int32) (a2 : Int32) (σ : HP) : Option (Int32) := if a0 < a1 then (some 0) else (if a2 < a0 then (some 0) else (some 1))
noncomputable def L_X8_lays_3 (N : Nat) : Nat → Nat → Int32 → Nat → Int32 → Int32 → HP → Option (HP)
  | 0, _, _, _, _, _, _ => none
  | n + 1, j0, a1, j2, a3, a4, σ => if 152 ≤ a4 then (some σ) else (gd (vp_in (a1 + a4) (ln j0)) (gd (vp_in (a3 + a4) (ln j2)) (bd (wr σ j2 (ix (a3 + a4)) (σ j0 (ix (a1 + a4)))) (fun σ24 => L_X8_lays_3  N n j0 a1 j2 a3 (a4 + 1) σ24))))
noncomputable def F_X8_lays (N : Nat) (j0 : Nat) (a1 : Int32) (j2 : Nat) (a3 : Int32) (σ : HP) : Option (HP) := L_X8_lays_3  N N j0 a1 j2 a3 0 σ
noncomputable def J_X8_records_49 (N : Nat) (j0 : Nat) (σ : HP) : Option (HP) := (F_X8_lays N (j0 + 1) 0 (j0 + 3) (152 * (σ j0 3)) σ).bind (fun σ22 => bd (wr σ22 j0 3 ((σ22 j0 3) + 1)) (fun σ23 => some σ23))
noncomputable def L_X8_records_10 (N : Nat) : Nat → Nat → Int32 → HP → Option (HP)
  | 0, _, _, _ => none
  | n + 1, j0, a1, σ => if 456 ≤ a1 then (bd (wr σ j0 3 ((σ j0 3) - 1)) (fun σ22 => J_X8_records_49  N j0 σ22)) else (gd (vp_in (a1 + 152) (608)) (gd (vp_in a1 (608)) (bd (wr σ (j0 + 3) (ix a1) (σ (j0 + 3) (ix (a1 + 152)))) (fun σ25 => L_X8_records_10  N n j0 (a1 + 1) σ25))))
noncomputable def F_X8_records (N : Nat) (j0 : Nat) (σ : HP) : Option (HP) := if (σ j0 3) = 4 then (L_X8_records_10  N N j0 0 σ) else (J_X8_records_49  N j0 σ)
noncomputable def F_X8_of (N : Nat) (j0 : Nat) (a1 : Int32) (a2 : Int32) (σ : HP) : Option (Int32) := gd (vp_in ((12 + (6 * a1)) + a2) (152)) (some (σ j0 (ix ((12 + (6 * a1)) + a2))))
noncomputable def F_X8_puts (N : Nat) (j0 : Nat) (a1 : Int32) (a2 : Int32) (a3 : Int32) (σ : HP) : Option (HP) := gd (vp_in ((12 + (6 * a1)) + a2) (152)) (bd (wr σ j0 (ix ((12 + (6 * a1)) + a2)) a3) (fun σ22 => some σ22))
noncomputable def F_X8_isPlace (N : Nat) (j0 : Nat) (a1 : Int32) (σ : HP) : Option (Int32) := (F_X8_in N a1 0 ((σ (j0 + 1) (ix 0)) - 1) σ).bind (fun r22 => gd (r22 = 0 ∨ r22 = 1) (some r22))
noncomputable def F_X8_aside (N : Nat) (j0 : Nat) (a1 : Int32) (σ : HP) : Option (Int32) := (F_X8_of N j0 a1 2 σ).bind (fun r22 => bd ((σ j0 (ix 3)) * r22) (fun x23 => if (σ j0 (ix 2)) = 1 then (some x23) else (if (σ j0 (ix 2)) = 3 then (some (-x23)) else (some 0))))
noncomputable def F_X8_shown (N : Nat) (j0 : Nat) (a1 : Int32) (σ : HP) : Option (Int32) := (F_X8_aside N j0 a1 σ).bind (fun r22 => some ((10 * a1) + r22))
noncomputable def F_X8_isTangled (N : Nat) (j0 : Nat) (a1 : Int32) (σ : HP) : Option (Int32) := (F_X8_of N j0 a1 4 σ).bind (fun r22 => if r22 ≤ 0 then (some 0) else (some 1))
noncomputable def J_X8_isRead_45 (k16 : (Nat → Int32 → Int32 → Int32 → Option (Int32))) (N : Nat) (j0 : Nat) (a1 : Int32) (a3 : Int32) (σ : HP) : Option (Int32) := k16 j0 a1 1 (a3 + 1)
noncomputable def L_X8_isRead_16 (N : Nat) (σ : HP) : Nat → Nat → Int32 → Int32 → Int32 → Option (Int32)
  | 0, _, _, _, _ => none
  | n + 1, j0, a1, a2, a3 => if (σ j0 (ix 0)) ≤ a3 then (gd (a2 = 0 ∨ a2 = 1) (some a2)) else (if a2 = 0 then (L_X8_isRead_16  N σ n j0 a1 0 (a3 + 1)) else (if a3 = a1 then (J_X8_isRead_45 (L_X8_isRead_16  N σ n) N j0 a1 a3 σ) else ((F_X8_shown N j0 a3 σ).bind (fun r26 => (F_X8_shown N j0 a1 σ).bind (fun r28 => if r26 = r28 then (L_X8_isRead_16  N σ n j0 a1 0 (a3 + 1)) else (J_X8_isRead_45 (L_X8_isRead_16  N σ n) N j0 a1 a3 σ))))))
noncomputable def J_X8_isRead_13 (N : Nat) (j0 : Nat) (a1 : Int32) (s0 : Int32) (σ : HP) : Option (Int32) := L_X8_isRead_16  N σ N j0 a1 s0 0
noncomputable def F_X8_isRead (N : Nat) (j0 : Nat) (a1 : Int32) (σ : HP) : Option (Int32) := (F_X8_isTangled N j0 a1 σ).bind (fun r22 => if r22 = 0 then (J_X8_isRead_13  N j0 a1 1 σ) else (J_X8_isRead_13  N j0 a1 0 σ))
noncomputable def L_X8_readable_4 (N : Nat) (σ : HP) : Nat → Nat → Int32 → Int32 → Option (Int32)
  | 0, _, _, _ => none
  | n + 1, j0, a1, a2 => if (σ j0 (ix 0)) ≤ a2 then (some a1) else ((F_X8_isRead N j0 a2 σ).bind (fun r23 => if r23 = 0 then (bd (a1 + 0) (fun x25 => L_X8_readable_4  N σ n j0 x25 (a2 + 1))) else (bd (a1 + 1) (fun x26 => L_X8_readable_4  N σ n j0 x26 (a2 + 1)))))
noncomputable def F_X8_readable (N : Nat) (j0 : Nat) (σ : HP) : Option (Int32) := L_X8_readable_4  N σ N j0 0 0
noncomputable def J_X8_ranked_70 (k2 : (Nat → Int32 → Int32 → Option (Int32))) (k14 : (Nat → Int32 → Int32 → Int32 → Int32 → Option (Int32))) (N : Nat) (j0 : Nat) (a1 : Int32) (a2 : Int32) (a3 : Int32) (a4 : Int32) (s0 : Int32) (σ : HP) : Option (Int32) := if s0 = 0 then (bd (a3 + 0) (fun x22 => k14 j0 a1 a2 x22 (a4 + 1))) else ((F_X8_isRead N j0 a4 σ).bind (fun r24 => if r24 = 0 then (bd (a3 + 0) (fun x26 => k14 j0 a1 a2 x26 (a4 + 1))) else (bd (a3 + 1) (fun x27 => k14 j0 a1 a2 x27 (a4 + 1)))))
noncomputable def L_X8_ranked_14 (k2 : (Nat → Int32 → Int32 → Option (Int32))) (N : Nat) (σ : HP) : Nat → Nat → Int32 → Int32 → Int32 → Int32 → Option (Int32)
  | 0, _, _, _, _, _ => none
  | n + 1, j0, a1, a2, a3, a4 => if (σ j0 (ix 0)) ≤ a4 then ((F_X8_isRead N j0 a2 σ).bind (fun r23 => if r23 = 0 then (k2 j0 a1 (a2 + 1)) else (if a3 = a1 then (some a2) else (k2 j0 a1 (a2 + 1))))) else (if (σ j0 (ix 4)) = 1 then ((F_X8_shown N j0 a4 σ).bind (fun r33 => (F_X8_shown N j0 a2 σ).bind (fun r35 => if r33 ≤ r35 then (J_X8_ranked_70 k2 (L_X8_ranked_14 k2 N σ n) N j0 a1 a2 a3 a4 0 σ) else (J_X8_ranked_70 k2 (L_X8_ranked_14 k2 N σ n) N j0 a1 a2 a3 a4 1 σ)))) else ((F_X8_shown N j0 a4 σ).bind (fun r28 => (F_X8_shown N j0 a2 σ).bind (fun r30 => if r30 ≤ r28 then (J_X8_ranked_70 k2 (L_X8_ranked_14 k2 N σ n) N j0 a1 a2 a3 a4 0 σ) else (J_X8_ranked_70 k2 (L_X8_ranked_14 k2 N σ n) N j0 a1 a2 a3 a4 1 σ)))))
noncomputable def L_X8_ranked_2 (N : Nat) (σ : HP) : Nat → Nat → Int32 → Int32 → Option (Int32)
  | 0, _, _, _ => none
  | n + 1, j0, a1, a2 => if (σ j0 (ix 0)) ≤ a2 then (some (-1000005)) else (L_X8_ranked_14 (L_X8_ranked_2  N σ n) N σ N j0 a1 a2 0 0)
noncomputable def F_X8_ranked (N : Nat) (j0 : Nat) (a1 : Int32) (σ : HP) : Option (Int32) := L_X8_ranked_2  N σ N j0 a1 0
noncomputable def L_X8_isSpelled_35 (N : Nat) (σ : HP) : Nat → Nat → Int32 → Int32 → Option (Int32)
  | 0, _, _, _ => none
  | n + 1, j0, a1, a2 => if (σ j0 (ix 7)) ≤ a2 then (gd (a1 = 0 ∨ a1 = 1) (some a1)) else (if a1 = 0 then (gd (a1 = 0 ∨ a1 = 1) (some a1)) else ((F_X8_ranked N j0 a2 σ).bind (fun r26 => (F_X8_of N j0 r26 1 σ).bind (fun r28 => gd (vp_in (108 + a2) (152)) (if r28 = (σ j0 (ix (108 + a2))) then (L_X8_isSpelled_35  N σ n j0 1 (a2 + 1)) else (L_X8_isSpelled_35  N σ n j0 0 (a2 + 1)))))))
noncomputable def J_X8_isSpelled_32 (N : Nat) (j0 : Nat) (s0 : Int32) (σ : HP) : Option (Int32) := L_X8_isSpelled_35  N σ N j0 s0 0
noncomputable def J_X8_isSpelled_31 (N : Nat) (j0 : Nat) (σ : HP) : Option (Int32) := J_X8_isSpelled_32  N j0 0 σ
noncomputable def F_X8_isSpelled (N : Nat) (j0 : Nat) (σ : HP) : Option (Int32) := if (σ j0 (ix 7)) ≤ 0 then (J_X8_isSpelled_31  N j0 σ) else (if (σ j0 (ix 0)) = (σ j0 (ix 7)) then ((F_X8_readable N j0 σ).bind (fun r24 => if r24 = (σ j0 (ix 0)) then (J_X8_isSpelled_32  N j0 1 σ) else (J_X8_isSpelled_31  N j0 σ))) else (J_X8_isSpelled_31  N j0 σ))
noncomputable def J_X8_letterAt_19 (N : Nat) (p0 : Nat) (s1 : Int32) (σ : HP) : Option (Int32) := (F_X8_of N p0 s1 1 σ).bind (fun r22 => some r22)
noncomputable def F_X8_letterAt (N : Nat) (j0 : Nat) (a1 : Int32) (σ : HP) : Option (Int32) := if (σ j0 (ix 4)) = 1 then (J_X8_letterAt_19  N j0 (((σ j0 (ix 0)) - 1) - a1) σ) else (J_X8_letterAt_19  N j0 a1 σ)
noncomputable def J_X8_laysGoal_120 (k53 : (Nat → Nat → Int32 → Int32 → HP → Option (Int32 × HP))) (N : Nat) (j0 : Nat) (j1 : Nat) (a3 : Int32) (a4 : Int32) (s0 : Int32) (σ : HP) : Option (Int32 × HP) := if s0 = 0 then (k53 j0 j1 s0 (a3 + 1) σ) else (gd (vp_in a4 (12)) (bd (wr σ (j0 + 6) (ix a4) (vp_nar .boolean 1)) (fun σ23 => gd (vp_in a3 (12)) (bd (wr σ23 (j0 + 7) (ix a3) a4) (fun σ25 => k53 j0 j1 s0 (a3 + 1) σ25)))))
noncomputable def J_X8_laysGoal_107 (k53 : (Nat → Nat → Int32 → Int32 → HP → Option (Int32 × HP))) (N : Nat) (j0 : Nat) (j1 : Nat) (a3 : Int32) (a4 : Int32) (σ : HP) : Option (Int32 × HP) := if (σ j1 (ix 0)) ≤ a4 then (J_X8_laysGoal_120 k53 N j0 j1 a3 a4 0 σ) else (J_X8_laysGoal_120 k53 N j0 j1 a3 a4 1 σ)
noncomputable def L_X8_laysGoal_68 (k53 : (Nat → Nat → Int32 → Int32 → HP → Option (Int32 × HP))) (N : Nat) : Nat → Nat → Nat → Int32 → Int32 → HP → Option (Int32 × HP)
  | 0, _, _, _, _, _ => none
  | n + 1, j0, j1, a3, a4, σ => if (σ j1 (ix 0)) ≤ a4 then (J_X8_laysGoal_107 k53 N j0 j1 a3 a4 σ) else (gd (vp_in a4 (12)) (if (σ (j0 + 6) (ix a4)) = 0 then ((F_X8_letterAt N j1 a4 σ).bind (fun r25 => gd (vp_in (108 + a3) (152)) (if r25 = (σ j1 (ix (108 + a3))) then (J_X8_laysGoal_107 k53 N j0 j1 a3 a4 σ) else (L_X8_laysGoal_68 k53 N n j0 j1 a3 (a4 + 1) σ)))) else (L_X8_laysGoal_68 k53 N n j0 j1 a3 (a4 + 1) σ)))
noncomputable def L_X8_laysGoal_53 (N : Nat) : Nat → Nat → Nat → Int32 → Int32 → HP → Option (Int32 × HP)
  | 0, _, _, _, _, _ => none
  | n + 1, j0, j1, a2, a3, σ => if (σ j1 (ix 7)) ≤ a3 then (gd (a2 = 0 ∨ a2 = 1) (some (a2, σ))) else (if a2 = 0 then (gd (a2 = 0 ∨ a2 = 1) (some (a2, σ))) else (L_X8_laysGoal_68 (L_X8_laysGoal_53  N n) N N j0 j1 a3 0 σ))
noncomputable def J_X8_laysGoal_50 (N : Nat) (j0 : Nat) (j1 : Nat) (s0 : Int32) (σ : HP) : Option (Int32 × HP) := L_X8_laysGoal_53  N N j0 j1 s0 0 σ
noncomputable def J_X8_laysGoal_49 (N : Nat) (j0 : Nat) (j1 : Nat) (σ : HP) : Option (Int32 × HP) := J_X8_laysGoal_50  N j0 j1 0 σ
noncomputable def L_X8_laysGoal_2 (N : Nat) : Nat → Nat → Nat → Int32 → HP → Option (Int32 × HP)
  | 0, _, _, _, _ => none
  | n + 1, j0, j1, a2, σ => if 12 ≤ a2 then (if (σ j1 (ix 7)) ≤ 0 then (J_X8_laysGoal_49  N j0 j1 σ) else (if (σ j1 (ix 0)) = (σ j1 (ix 7)) then (J_X8_laysGoal_50  N j0 j1 1 σ) else (J_X8_laysGoal_49  N j0 j1 σ))) else (gd (vp_in a2 (12)) (bd (wr σ (j0 + 6) (ix a2) (vp_nar .boolean 0)) (fun σ25 => gd (vp_in a2 (12)) (bd (wr σ25 (j0 + 7) (ix a2) 0) (fun σ27 => L_X8_laysGoal_2  N n j0 j1 (a2 + 1) σ27)))))
noncomputable def F_X8_laysGoal (N : Nat) (j0 : Nat) (j1 : Nat) (σ : HP) : Option (Int32 × HP) := L_X8_laysGoal_2  N N j0 j1 0 σ
noncomputable def L_X8_fewest_26 (k15 : (Nat → Nat → Int32 → Int32 → HP → Option (Int32 × HP))) (N : Nat) : Nat → Nat → Nat → Int32 → Int32 → Int32 → HP → Option (Int32 × HP)
  | 0, _, _, _, _, _, _ => none
  | n + 1, j0, j1, a2, a3, a4, σ => if a3 ≤ a4 then (k15 j0 j1 a2 (a3 + 1) σ) else (gd (vp_in a4 (12)) (gd (vp_in a3 (12)) (if (σ (j0 + 7) (ix a4)) ≤ (σ (j0 + 7) (ix a3)) then (bd (a2 + 0) (fun x25 => L_X8_fewest_26 k15 N n j0 j1 x25 a3 (a4 + 1) σ)) else (bd (a2 + 1) (fun x26 => L_X8_fewest_26 k15 N n j0 j1 x26 a3 (a4 + 1) σ)))))
noncomputable def L_X8_fewest_15 (N : Nat) : Nat → Nat → Nat → Int32 → Int32 → HP → Option (Int32 × HP)
  | 0, _, _, _, _, _ => none
  | n + 1, j0, j1, a2, a3, σ => if (σ j1 (ix 7)) ≤ a3 then (some (a2, σ)) else (L_X8_fewest_26 (L_X8_fewest_15  N n) N N j0 j1 a2 a3 0 σ)
noncomputable def F_X8_fewest (N : Nat) (j0 : Nat) (j1 : Nat) (σ : HP) : Option (Int32 × HP) := bind2 (F_X8_laysGoal N j0 j1 σ) (fun r22 σ23 => if r22 = 0 then (some ((-1000005), σ23)) else (L_X8_fewest_15  N N j0 j1 0 0 σ23))
noncomputable def J_X8_logs_81 (N : Nat) (p0 : Nat) (s1 : Int32) (s2 : Int32) (s3 : Int32) (σ : HP) : Option (HP) := gd (vp_in s1 (152)) (bd (wr σ p0 (ix s1) (s2 + s3)) (fun σ22 => some σ22))
noncomputable def L_X8_logs_3 (N : Nat) : Nat → Nat → Int32 → Int32 → Int32 → HP → Option (HP)
  | 0, _, _, _, _, _ => none
  | n + 1, j0, a1, a2, a3, σ => if a3 ≤ 3 then (bd (wr σ j0 (ix 120) (σ j0 (ix 1))) (fun σ22 => (F_X8_of N j0 a1 0 σ22).bind (fun r24 => bd (wr σ22 j0 (ix 121) r24) (fun σ25 => (F_X8_of N j0 (a1 + 1) 0 σ25).bind (fun r27 => bd (wr σ25 j0 (ix 122) r27) (fun σ28 => bd (wr σ28 j0 (ix 123) a2) (fun σ29 => if 8 ≤ (σ29 j0 (ix 11)) then (J_X8_logs_81  N j0 11 (σ29 j0 (ix 11)) 0 σ29) else (J_X8_logs_81  N j0 11 (σ29 j0 (ix 11)) 1 σ29)))))))) else (gd (vp_in ((120 + a3) - 4) (152)) (gd (vp_in (120 + a3) (152)) (bd (wr σ j0 (ix (120 + a3)) (σ j0 (ix ((120 + a3) - 4)))) (fun σ33 => L_X8_logs_3  N n j0 a1 a2 (a3 + (-1)) σ33))))
noncomputable def F_X8_logs (N : Nat) (j0 : Nat) (a1 : Int32) (a2 : Int32) (σ : HP) : Option (HP) := L_X8_logs_3  N N j0 a1 a2 31 σ
noncomputable def F_X8_tangles (N : Nat) (j0 : Nat) (a1 : Int32) (a2 : Int32) (σ : HP) : Option (HP) := (F_X8_of N j0 (a1 + 1) 0 σ).bind (fun r22 => (F_X8_puts N j0 a1 3 r22 σ).bind (fun σ24 => (F_X8_of N j0 a1 0 σ24).bind (fun r26 => (F_X8_puts N j0 (a1 + 1) 3 r26 σ24).bind (fun σ28 => (F_X8_puts N j0 a1 4 (σ28 j0 (ix 5)) σ28).bind (fun σ30 => (F_X8_puts N j0 (a1 + 1) 4 (σ30 j0 (ix 5)) σ30).bind (fun σ32 => bd (wr σ32 j0 (ix 9) ((σ32 j0 (ix 9)) + 1)) (fun σ33 => (F_X8_logs N j0 a1 a2 σ33).bind (fun σ35 => some σ35))))))))
noncomputable def J_X8_wouldTangle_60 (N : Nat) (σ : HP) : Option (Int32) := some 1
noncomputable def J_X8_wouldTangle_48 (N : Nat) (a2 : Int32) (a3 : Int32) (a4 : Int32) (a5 : Int32) (σ : HP) : Option (Int32) := if a2 < a3 then (some 0) else (if a4 < a5 then (some 0) else (J_X8_wouldTangle_60  N  σ))
noncomputable def F_X8_wouldTangle (N : Nat) (j0 : Nat) (a1 : Int32) (σ : HP) : Option (Int32) := (F_X8_aside N j0 a1 σ).bind (fun r22 => (F_X8_aside N j0 (a1 + 1) σ).bind (fun r24 => bd (10 + r24) (fun x25 => (F_X8_aside N j0 a1 σ).bind (fun r27 => bd (10 + r27) (fun x28 => (F_X8_aside N j0 (a1 + 1) σ).bind (fun r30 => if x25 < r22 then (J_X8_wouldTangle_48  N r22 x25 x28 r30 σ) else (if x28 ≤ r30 then (J_X8_wouldTangle_60  N  σ) else (J_X8_wouldTangle_48  N r22 x25 x28 r30 σ))))))))
noncomputable def L_X8_swaps_2 (N : Nat) : Nat → Nat → Int32 → Int32 → HP → Option (HP)
  | 0, _, _, _, _ => none
  | n + 1, j0, a1, a2, σ => if 6 ≤ a2 then (some σ) else ((F_X8_of N j0 a1 a2 σ).bind (fun r23 => (F_X8_of N j0 (a1 + 1) a2 σ).bind (fun r25 => (F_X8_puts N j0 a1 a2 r25 σ).bind (fun σ27 => (F_X8_puts N j0 (a1 + 1) a2 r23 σ27).bind (fun σ29 => L_X8_swaps_2  N n j0 a1 (a2 + 1) σ29)))))
noncomputable def F_X8_swaps (N : Nat) (j0 : Nat) (a1 : Int32) (σ : HP) : Option (HP) := L_X8_swaps_2  N N j0 a1 0 σ
noncomputable def F_X8_relation (N : Nat) (j0 : Nat) (a1 : Int32) (σ : HP) : Option (Int32) := (F_X8_shown N j0 a1 σ).bind (fun r22 => (F_X8_shown N j0 (a1 + 1) σ).bind (fun r24 => bd (r22 - r24) (fun x25 => if 0 ≤ x25 then (if x25 ≤ 0 then (some 0) else (some 1)) else (some (-1)))))
noncomputable def L_X8_blows_46 (N : Nat) : Nat → Nat → Nat → Int32 → Int32 → HP → Option (Int32 × HP)
  | 0, _, _, _, _, _ => none
  | n + 1, j0, j1, a4, a5, σ => if ((σ j1 (ix 0)) - 1) ≤ a5 then (some (a4, σ)) else ((F_X8_isTangled N j1 a5 σ).bind (fun r23 => if r23 = 0 then ((F_X8_isTangled N j1 (a5 + 1) σ).bind (fun r26 => if r26 = 0 then ((F_X8_relation N j1 a5 σ).bind (fun r29 => gd (vp_in a5 (12)) (if r29 = (σ (j0 + 8) (ix a5)) then (L_X8_blows_46  N n j0 j1 a4 (a5 + 1) σ) else ((F_X8_tangles N j1 a5 0 σ).bind (fun σ33 => L_X8_blows_46  N n j0 j1 (a4 + 1) (a5 + 1) σ33))))) else (L_X8_blows_46  N n j0 j1 a4 (a5 + 1) σ))) else (L_X8_blows_46  N n j0 j1 a4 (a5 + 1) σ)))
noncomputable def L_X8_blows_3 (N : Nat) : Nat → Nat → Nat → Int32 → Int32 → Int32 → HP → Option (Int32 × HP)
  | 0, _, _, _, _, _, _ => none
  | n + 1, j0, j1, a2, a3, a4, σ => if ((σ j1 (ix 0)) - 1) ≤ a4 then (bd (wr σ j1 (ix 2) a2) (fun σ22 => bd (wr σ22 j1 (ix 3) a3) (fun σ23 => L_X8_blows_46  N N j0 j1 0 0 σ23))) else ((F_X8_relation N j1 a4 σ).bind (fun r25 => gd (vp_in a4 (12)) (bd (wr σ (j0 + 8) (ix a4) r25) (fun σ27 => L_X8_blows_3  N n j0 j1 a2 a3 (a4 + 1) σ27))))
noncomputable def F_X8_blows (N : Nat) (j0 : Nat) (j1 : Nat) (a2 : Int32) (a3 : Int32) (σ : HP) : Option (Int32 × HP) := L_X8_blows_3  N N j0 j1 a2 a3 0 σ
noncomputable def L_X8_dropsTurn_44 (N : Nat) : Nat → Nat → Int32 → HP → Option (HP)
  | 0, _, _, _ => none
  | n + 1, j0, a2, σ => if 3 ≤ a2 then (some σ) else (gd (vp_in ((84 + (3 * (σ j0 (ix 6)))) + a2) (152)) (bd (wr σ j0 (ix ((84 + (3 * (σ j0 (ix 6)))) + a2)) 0) (fun σ23 => L_X8_dropsTurn_44  N n j0 (a2 + 1) σ23)))
noncomputable def L_X8_dropsTurn_15 (N : Nat) : Nat → Nat → Int32 → HP → Option (HP)
  | 0, _, _, _ => none
  | n + 1, j0, a2, σ => if (84 + (3 * (σ j0 (ix 6)))) ≤ a2 then (L_X8_dropsTurn_44  N N j0 0 σ) else (gd (vp_in (a2 + 3) (152)) (gd (vp_in a2 (152)) (bd (wr σ j0 (ix a2) (σ j0 (ix (a2 + 3)))) (fun σ24 => L_X8_dropsTurn_15  N n j0 (a2 + 1) σ24))))
noncomputable def F_X8_dropsTurn (N : Nat) (j0 : Nat) (a1 : Int32) (σ : HP) : Option (HP) := bd (wr σ j0 (ix 6) ((σ j0 (ix 6)) - 1)) (fun σ21 => bd (84 + (3 * a1)) (fun x22 => L_X8_dropsTurn_15  N N j0 x22 σ21))
noncomputable def L_X8_minute_9 (N : Nat) : Nat → Nat → Nat → Int32 → HP → Option (Int32 × HP)
  | 0, _, _, _, _ => none
  | n + 1, j0, j1, a2, σ => if (σ j1 (ix 0)) ≤ a2 then (if (σ j1 (ix 6)) = 0 then (some (0, σ)) else (if (σ j1 (ix 84)) = (σ j1 (ix 1)) then (bd (σ j1 (ix 85)) (fun x24 => bd (σ j1 (ix 86)) (fun x25 => (F_X8_dropsTurn N j1 0 σ).bind (fun σ27 => bind2 (F_X8_blows N j0 j1 x24 x25 σ27) (fun r29 σ30 => some (r29, σ30)))))) else (some (0, σ)))) else ((F_X8_isTangled N j1 a2 σ).bind (fun r32 => if r32 = 0 then (L_X8_minute_9  N n j0 j1 (a2 + 1) σ) else ((F_X8_of N j1 a2 4 σ).bind (fun r35 => (F_X8_puts N j1 a2 4 (r35 - 1) σ).bind (fun σ37 => L_X8_minute_9  N n j0 j1 (a2 + 1) σ37)))))
noncomputable def F_X8_minute (N : Nat) (j0 : Nat) (j1 : Nat) (σ : HP) : Option (Int32 × HP) := bd (wr σ j1 (ix 1) ((σ j1 (ix 1)) + 1)) (fun σ21 => L_X8_minute_9  N N j0 j1 0 σ21)
noncomputable def J_X8_trades_61 (N : Nat) (j0 : Nat) (j1 : Nat) (a3 : Int32) (σ : HP) : Option (Int32 × HP) := bind2 (F_X8_minute N j0 j1 σ) (fun r22 σ23 => if a3 = 0 then (some (0, σ23)) else (if r22 < 0 then (some (0, σ23)) else (some (1, σ23))))
noncomputable def F_X8_trades (N : Nat) (j0 : Nat) (j1 : Nat) (a2 : Int32) (σ : HP) : Option (Int32 × HP) := (F_X8_wouldTangle N j1 a2 σ).bind (fun r22 => (F_X8_swaps N j1 a2 σ).bind (fun σ24 => (F_X8_of N j1 a2 5 σ24).bind (fun r26 => (F_X8_puts N j1 a2 5 (r26 + 1) σ24).bind (fun σ28 => (F_X8_of N j1 (a2 + 1) 5 σ28).bind (fun r30 => (F_X8_puts N j1 (a2 + 1) 5 (r30 + 1) σ28).bind (fun σ32 => bd (wr σ32 j1 (ix 8) ((σ32 j1 (ix 8)) + 1)) (fun σ33 => if r22 = 0 then (J_X8_trades_61  N j0 j1 r22 σ33) else ((F_X8_tangles N j1 a2 1 σ33).bind (fun σ36 => J_X8_trades_61  N j0 j1 r22 σ36)))))))))
noncomputable def F_X8_isSafe (N : Nat) (j0 : Nat) (a1 : Int32) (σ : HP) : Option (Int32) := (F_X8_isTangled N j0 a1 σ).bind (fun r22 => if r22 = 0 then ((F_X8_isTangled N j0 (a1 + 1) σ).bind (fun r25 => if r25 = 0 then ((F_X8_wouldTangle N j0 a1 σ).bind (fun r28 => if r28 = 0 then (some 1) else (some 0))) else (some 0))) else (some 0))
noncomputable def F_X8_behind (N : Nat) (j0 : Nat) (j1 : Nat) (a2 : Int32) (σ : HP) : Option (Int32 × HP) := (F_X8_lays N j1 0 (j0 + 9) 0 σ).bind (fun σ22 => (F_X8_swaps N (j0 + 9) a2 σ22).bind (fun σ24 => bind2 (F_X8_fewest N j0 (j0 + 9) σ24) (fun r26 σ27 => some (r26, σ27))))
noncomputable def L_X8_next_8 (N : Nat) : Nat → Nat → Nat → Int32 → Int32 → HP → Option (Int32 × HP)
  | 0, _, _, _, _, _ => none
  | n + 1, j0, j1, a2, a3, σ => if ((σ j1 (ix 0)) - 1) ≤ a3 then (some ((-1000005), σ)) else (if a2 = (-1000005) then (some ((-1000005), σ)) else ((F_X8_isSafe N j1 a3 σ).bind (fun r24 => if r24 = 0 then (L_X8_next_8  N n j0 j1 a2 (a3 + 1) σ) else (bind2 (F_X8_behind N j0 j1 a3 σ) (fun r27 σ28 => if a2 ≤ r27 then (L_X8_next_8  N n j0 j1 a2 (a3 + 1) σ28) else (some (a3, σ28)))))))
noncomputable def F_X8_next (N : Nat) (j0 : Nat) (j1 : Nat) (σ : HP) : Option (Int32 × HP) := bind2 (F_X8_fewest N j0 j1 σ) (fun r22 σ23 => L_X8_next_8  N N j0 j1 r22 0 σ23)
noncomputable def F_X8_isRoom (N : Nat) (j0 : Nat) (a1 : Int32) (σ : HP) : Option (Int32) := if 12 < ((σ (j0 + 1) (ix 0)) + a1) then (some 0) else (if 99 < ((σ (j0 + 1) (ix 10)) + a1) then (some 0) else (some 1))
noncomputable def F_X8_comes (N : Nat) (j0 : Nat) (a1 : Int32) (a2 : Int32) (σ : HP) : Option (HP) := bd (σ (j0 + 1) (ix 0)) (fun x21 => (F_X8_puts N (j0 + 1) x21 0 (σ (j0 + 1) (ix 10)) σ).bind (fun σ23 => (F_X8_puts N (j0 + 1) x21 1 a1 σ23).bind (fun σ25 => (F_X8_puts N (j0 + 1) x21 2 a2 σ25).bind (fun σ27 => (F_X8_puts N (j0 + 1) x21 3 0 σ27).bind (fun σ29 => (F_X8_puts N (j0 + 1) x21 4 0 σ29).bind (fun σ31 => (F_X8_puts N (j0 + 1) x21 5 0 σ31).bind (fun σ33 => bd (wr σ33 (j0 + 1) (ix 0) ((σ33 (j0 + 1) (ix 0)) + 1)) (fun σ34 => bd (wr σ34 (j0 + 1) (ix 10) ((σ34 (j0 + 1) (ix 10)) + 1)) (fun σ35 => some σ35)))))))))
noncomputable def F_X8_come (N : Nat) (j0 : Nat) (a1 : Int32) (a2 : Int32) (σ : HP) : Option (Int32 × HP) := (F_X8_in N a1 97 122 σ).bind (fun r22 => if r22 = 0 then (some ((-1000002), σ)) else ((F_X8_in N a2 1 9 σ).bind (fun r25 => if r25 = 0 then (some ((-1000002), σ)) else ((F_X8_isRoom N j0 1 σ).bind (fun r28 => if r28 = 0 then (some ((-1000003), σ)) else ((F_X8_records N j0 σ).bind (fun σ31 => (F_X8_comes N j0 a1 a2 σ31).bind (fun σ33 => some (((σ33 (j0 + 1) (ix 0)) - 1), σ33)))))))))
noncomputable def J_X8_rowFault_93 (N : Nat) (j0 : Nat) (a1 : Int32) (a2 : Int32) (σ : HP) : Option (Int32) := if a2 = 0 then (some a1) else (if ((σ j0 7) - (σ j0 7) / 3 * 3) = 2 then (some (-1000005)) else (some a1))
noncomputable def J_X8_rowFault_77 (k4 : (Nat → Int32 → Int32 → Option (Int32))) (N : Nat) (j0 : Nat) (a1 : Int32) (s0 : Int32) (σ : HP) : Option (Int32) := if s0 = 0 then (bd (a1 + 0) (fun x22 => k4 j0 x22 s0)) else (bd (a1 + 1) (fun x23 => k4 j0 x23 s0))
noncomputable def L_X8_rowFault_4 (N : Nat) (σ : HP) : Nat → Nat → Int32 → Int32 → Option (Int32)
  | 0, _, _, _ => none
  | n + 1, j0, a1, a2 => if (σ j0 7) ≤ a1 then (J_X8_rowFault_93  N j0 a1 a2 σ) else (if a2 = 0 then (J_X8_rowFault_93  N j0 a1 a2 σ) else (if (a1 - a1 / 3 * 3) = 0 then (gd (vp_in a1 (60)) ((F_X8_in N (σ (j0 + 5) (ix a1)) 97 122 σ).bind (fun r32 => J_X8_rowFault_77 (L_X8_rowFault_4  N σ n) N j0 a1 r32 σ))) else (if (a1 - a1 / 3 * 3) = 1 then (gd (vp_in a1 (60)) ((F_X8_in N (σ (j0 + 5) (ix a1)) 49 57 σ).bind (fun r29 => J_X8_rowFault_77 (L_X8_rowFault_4  N σ n) N j0 a1 r29 σ))) else (gd (vp_in a1 (60)) (if (σ (j0 + 5) (ix a1)) = 44 then (J_X8_rowFault_77 (L_X8_rowFault_4  N σ n) N j0 a1 1 σ) else (J_X8_rowFault_77 (L_X8_rowFault_4  N σ n) N j0 a1 0 σ))))))
noncomputable def F_X8_rowFault (N : Nat) (j0 : Nat) (σ : HP) : Option (Int32) := L_X8_rowFault_4  N σ N j0 0 1
noncomputable def L_X8_readRow_42 (N : Nat) : Nat → Nat → Int32 → Int32 → HP → Option (Int32 × HP)
  | 0, _, _, _, _ => none
  | n + 1, j0, a2, a3, σ => if a2 ≤ a3 then (some ((σ (j0 + 1) (ix 0)), σ)) else (gd (vp_in (3 * a3) (60)) (gd (vp_in ((3 * a3) + 1) (60)) ((F_X8_comes N j0 (σ (j0 + 5) (ix (3 * a3))) ((σ (j0 + 5) (ix ((3 * a3) + 1))) - 48) σ).bind (fun σ25 => L_X8_readRow_42  N n j0 a2 (a3 + 1) σ25))))
noncomputable def F_X8_readRow (N : Nat) (j0 : Nat) (σ : HP) : Option (Int32 × HP) := (F_X8_rowFault N j0 σ).bind (fun r22 => if r22 = (-1000005) then (bd (((σ j0 7) + 1) / 3) (fun x24 => (F_X8_isRoom N j0 x24 σ).bind (fun r26 => if r26 = 0 then (some ((-1000003), σ)) else ((F_X8_records N j0 σ).bind (fun σ29 => L_X8_readRow_42  N N j0 x24 0 σ29))))) else (some (((-1000100) - r22), σ)))
noncomputable def L_X8_go_47 (N : Nat) : Nat → Nat → Int32 → HP → Option (Int32 × HP)
  | 0, _, _, _ => none
  | n + 1, j0, a2, σ => if (12 + (6 * (σ (j0 + 1) (ix 0)))) ≤ a2 then (some ((σ (j0 + 1) (ix 0)), σ)) else (gd (vp_in (a2 + 6) (152)) (gd (vp_in a2 (152)) (bd (wr σ (j0 + 1) (ix a2) (σ (j0 + 1) (ix (a2 + 6)))) (fun σ24 => L_X8_go_47  N n j0 (a2 + 1) σ24))))
noncomputable def F_X8_go (N : Nat) (j0 : Nat) (a1 : Int32) (σ : HP) : Option (Int32 × HP) := (F_X8_isPlace N j0 a1 σ).bind (fun r22 => if r22 = 0 then (some ((-1000001), σ)) else ((F_X8_isTangled N (j0 + 1) a1 σ).bind (fun r25 => if r25 = 0 then ((F_X8_records N j0 σ).bind (fun σ28 => bd (wr σ28 (j0 + 1) (ix 0) ((σ28 (j0 + 1) (ix 0)) - 1)) (fun σ29 => bd (12 + (6 * a1)) (fun x30 => L_X8_go_47  N N j0 x30 σ29)))) else (some ((-1000004), σ)))))
noncomputable def F_X8_pay (N : Nat) (j0 : Nat) (a1 : Int32) (a2 : Int32) (σ : HP) : Option (Int32 × HP) := (F_X8_isPlace N j0 a1 σ).bind (fun r22 => if r22 = 0 then (some ((-1000001), σ)) else ((F_X8_in N a2 1 9 σ).bind (fun r25 => if r25 = 0 then (some ((-1000002), σ)) else ((F_X8_of N (j0 + 1) a1 2 σ).bind (fun r28 => if r28 = a2 then (some ((-1000005), σ)) else ((F_X8_records N j0 σ).bind (fun σ31 => (F_X8_puts N (j0 + 1) a1 2 a2 σ31).bind (fun σ33 => some (r28, σ33)))))))))
noncomputable def F_X8_trade (N : Nat) (j0 : Nat) (a1 : Int32) (σ : HP) : Option (Int32 × HP) := (F_X8_in N a1 0 ((σ (j0 + 1) (ix 0)) - 2) σ).bind (fun r22 => if r22 = 0 then (some ((-1000001), σ)) else ((F_X8_isTangled N (j0 + 1) a1 σ).bind (fun r25 => if r25 = 0 then ((F_X8_isTangled N (j0 + 1) (a1 + 1) σ).bind (fun r28 => if r28 = 0 then (if (σ (j0 + 1) (ix 1)) = 9999 then (some ((-1000004), σ)) else ((F_X8_records N j0 σ).bind (fun σ32 => bind2 (F_X8_trades N j0 (j0 + 1) a1 σ32) (fun r34 σ35 => if r34 = 0 then (some (0, σ35)) else (some (1, σ35)))))) else (some ((-1000004), σ)))) else (some ((-1000004), σ)))))
noncomputable def L_X8_pass_38 (N : Nat) : Nat → Nat → Int32 → Int32 → Int32 → HP → Option (Int32 × HP)
  | 0, _, _, _, _, _ => none
  | n + 1, j0, a1, a2, a3, σ => if a1 ≤ a3 then (some (a2, σ)) else (bind2 (F_X8_minute N j0 (j0 + 1) σ) (fun r23 σ24 => bd (a2 + r23) (fun x25 => L_X8_pass_38  N n j0 a1 x25 (a3 + 1) σ24)))
noncomputable def F_X8_pass (N : Nat) (j0 : Nat) (a1 : Int32) (σ : HP) : Option (Int32 × HP) := (F_X8_in N a1 1 60 σ).bind (fun r22 => if r22 = 0 then (some ((-1000002), σ)) else (if ((σ (j0 + 1) (ix 1)) + a1) ≤ 9999 then ((F_X8_records N j0 σ).bind (fun σ26 => L_X8_pass_38  N N j0 a1 0 0 σ26)) else (some ((-1000003), σ))))
noncomputable def F_X8_isWind (N : Nat) (a0 : Int32) (a1 : Int32) (σ : HP) : Option (Int32) := (F_X8_in N a0 0 3 σ).bind (fun r22 => if r22 = 0 then (some 0) else ((F_X8_in N a1 0 5 σ).bind (fun r25 => if r25 = 0 then (some 0) else (some 1))))
noncomputable def J_X8_wind_34 (N : Nat) (j0 : Nat) (a1 : Int32) (a2 : Int32) (σ : HP) : Option (Int32 × HP) := (F_X8_records N j0 σ).bind (fun σ22 => bind2 (F_X8_blows N j0 (j0 + 1) a1 a2 σ22) (fun r24 σ25 => some (r24, σ25)))
noncomputable def F_X8_wind (N : Nat) (j0 : Nat) (a1 : Int32) (a2 : Int32) (σ : HP) : Option (Int32 × HP) := (F_X8_isWind N a1 a2 σ).bind (fun r22 => if r22 = 0 then (some ((-1000002), σ)) else (if (σ (j0 + 1) (ix 2)) = a1 then (if (σ (j0 + 1) (ix 3)) = a2 then (some ((-1000005), σ)) else (J_X8_wind_34  N j0 a1 a2 σ)) else (J_X8_wind_34  N j0 a1 a2 σ)))
noncomputable def L_X8_turnAt_5 (N : Nat) (σ : HP) : Nat → Nat → Int32 → Int32 → Int32 → Option (Int32)
  | 0, _, _, _, _ => none
  | n + 1, j0, a1, a2, a3 => if (σ (j0 + 1) (ix 6)) ≤ a3 then (some a2) else (gd (vp_in (84 + (3 * a3)) (152)) (if (σ (j0 + 1) (ix (84 + (3 * a3)))) = a1 then (L_X8_turnAt_5  N σ n j0 a1 a3 (a3 + 1)) else (L_X8_turnAt_5  N σ n j0 a1 a2 (a3 + 1))))
noncomputable def F_X8_turnAt (N : Nat) (j0 : Nat) (a1 : Int32) (σ : HP) : Option (Int32) := L_X8_turnAt_5  N σ N j0 a1 (-1000005) 0
noncomputable def J_X8_planTurn_149 (N : Nat) (j0 : Nat) (a1 : Int32) (a2 : Int32) (a3 : Int32) (a4 : Int32) (σ : HP) : Option (Int32 × HP) := gd (vp_in (84 + (3 * a4)) (152)) (bd (wr σ (j0 + 1) (ix (84 + (3 * a4))) a1) (fun σ22 => gd (vp_in ((84 + (3 * a4)) + 1) (152)) (bd (wr σ22 (j0 + 1) (ix ((84 + (3 * a4)) + 1)) a2) (fun σ24 => gd (vp_in ((84 + (3 * a4)) + 2) (152)) (bd (wr σ24 (j0 + 1) (ix ((84 + (3 * a4)) + 2)) a3) (fun σ26 => bd (wr σ26 (j0 + 1) (ix 6) ((σ26 (j0 + 1) (ix 6)) + 1)) (fun σ27 => some ((σ27 (j0 + 1) (ix 6)), σ27))))))))
noncomputable def L_X8_planTurn_99 (k73 : (Nat → Int32 → Int32 → Int32 → Int32 → HP → Option (Int32 × HP))) (N : Nat) : Nat → Nat → Int32 → Int32 → Int32 → Int32 → Int32 → HP → Option (Int32 × HP)
  | 0, _, _, _, _, _, _, _ => none
  | n + 1, j0, a1, a2, a3, a4, a5, σ => if 3 ≤ a5 then (k73 j0 a1 a2 a3 (a4 + (-1)) σ) else (gd (vp_in ((84 + (3 * (a4 - 1))) + a5) (152)) (gd (vp_in ((84 + (3 * a4)) + a5) (152)) (bd (wr σ (j0 + 1) (ix ((84 + (3 * a4)) + a5)) (σ (j0 + 1) (ix ((84 + (3 * (a4 - 1))) + a5)))) (fun σ24 => L_X8_planTurn_99 k73 N n j0 a1 a2 a3 a4 (a5 + 1) σ24))))
noncomputable def L_X8_planTurn_73 (N : Nat) : Nat → Nat → Int32 → Int32 → Int32 → Int32 → HP → Option (Int32 × HP)
  | 0, _, _, _, _, _, _ => none
  | n + 1, j0, a1, a2, a3, a4, σ => if a4 ≤ 0 then (J_X8_planTurn_149  N j0 a1 a2 a3 a4 σ) else (gd (vp_in (84 + (3 * (a4 - 1))) (152)) (if (σ (j0 + 1) (ix (84 + (3 * (a4 - 1))))) ≤ a1 then (J_X8_planTurn_149  N j0 a1 a2 a3 a4 σ) else (L_X8_planTurn_99 (L_X8_planTurn_73  N n) N N j0 a1 a2 a3 a4 0 σ)))
noncomputable def F_X8_planTurn (N : Nat) (j0 : Nat) (a1 : Int32) (a2 : Int32) (a3 : Int32) (σ : HP) : Option (Int32 × HP) := (F_X8_in N a1 1 9999 σ).bind (fun r22 => if r22 = 0 then (some ((-1000002), σ)) else ((F_X8_isWind N a2 a3 σ).bind (fun r25 => if r25 = 0 then (some ((-1000002), σ)) else (if a1 ≤ (σ (j0 + 1) (ix 1)) then (some ((-1000004), σ)) else ((F_X8_turnAt N j0 a1 σ).bind (fun r29 => if r29 = (-1000005) then (if (σ (j0 + 1) (ix 6)) = 8 then (some ((-1000003), σ)) else ((F_X8_records N j0 σ).bind (fun σ33 => bd (σ33 (j0 + 1) (ix 6)) (fun x34 => L_X8_planTurn_73  N N j0 a1 a2 a3 x34 σ33)))) else (some ((-1000004), σ))))))))
noncomputable def F_X8_dropTurn (N : Nat) (j0 : Nat) (a1 : Int32) (σ : HP) : Option (Int32 × HP) := (F_X8_turnAt N j0 a1 σ).bind (fun r22 => if r22 = (-1000005) then (some ((-1000001), σ)) else ((F_X8_records N j0 σ).bind (fun σ25 => (F_X8_dropsTurn N (j0 + 1) r22 σ25).bind (fun σ27 => some ((σ27 (j0 + 1) (ix 6)), σ27)))))
noncomputable def J_X8_crowd_9 (N : Nat) (j0 : Nat) (s0 : Int32) (σ : HP) : Option (Int32 × HP) := if (σ (j0 + 1) (ix 4)) = s0 then (some ((-1000005), σ)) else ((F_X8_records N j0 σ).bind (fun σ23 => bd (wr σ23 (j0 + 1) (ix 4) s0) (fun σ24 => (F_X8_readable N (j0 + 1) σ24).bind (fun r26 => some (r26, σ24)))))
noncomputable def F_X8_crowd (N : Nat) (j0 : Nat) (a1 : Int32) (σ : HP) : Option (Int32 × HP) := if a1 = 0 then (J_X8_crowd_9  N j0 0 σ) else (J_X8_crowd_9  N j0 1 σ)
noncomputable def F_X8_setTangle (N : Nat) (j0 : Nat) (a1 : Int32) (σ : HP) : Option (Int32 × HP) := (F_X8_in N a1 1 9 σ).bind (fun r22 => if r22 = 0 then (some ((-1000002), σ)) else (bd (σ (j0 + 1) (ix 5)) (fun x24 => if x24 = a1 then (some ((-1000005), σ)) else ((F_X8_records N j0 σ).bind (fun σ27 => bd (wr σ27 (j0 + 1) (ix 5) a1) (fun σ28 => some (x24, σ28)))))))
noncomputable def J_X8_wordFault_38 (N : Nat) (j0 : Nat) (a1 : Int32) (σ : HP) : Option (Int32) := if a1 = (σ j0 7) then (if (σ j0 7) ≤ 0 then (some a1) else (some (-1000005))) else (some a1)
noncomputable def L_X8_wordFault_2 (N : Nat) (σ : HP) : Nat → Nat → Int32 → Option (Int32)
  | 0, _, _ => none
  | n + 1, j0, a1 => if (σ j0 7) ≤ a1 then (J_X8_wordFault_38  N j0 a1 σ) else (if 12 ≤ a1 then (J_X8_wordFault_38  N j0 a1 σ) else (gd (vp_in a1 (60)) ((F_X8_in N (σ (j0 + 5) (ix a1)) 97 122 σ).bind (fun r25 => if r25 = 0 then (J_X8_wordFault_38  N j0 a1 σ) else (L_X8_wordFault_2  N σ n j0 (a1 + 1))))))
noncomputable def F_X8_wordFault (N : Nat) (j0 : Nat) (σ : HP) : Option (Int32) := L_X8_wordFault_2  N σ N j0 0
noncomputable def L_X8_isWord_22 (N : Nat) (σ : HP) : Nat → Nat → Int32 → Int32 → Option (Int32)
  | 0, _, _, _ => none
  | n + 1, j0, a1, a2 => if (σ j0 7) ≤ a2 then (gd (a1 = 0 ∨ a1 = 1) (some a1)) else (if a1 = 0 then (gd (a1 = 0 ∨ a1 = 1) (some a1)) else (gd (vp_in (108 + a2) (152)) (gd (vp_in a2 (60)) (if (σ (j0 + 1) (ix (108 + a2))) = (σ (j0 + 5) (ix a2)) then (L_X8_isWord_22  N σ n j0 1 (a2 + 1)) else (L_X8_isWord_22  N σ n j0 0 (a2 + 1))))))
noncomputable def J_X8_isWord_19 (N : Nat) (j0 : Nat) (s0 : Int32) (σ : HP) : Option (Int32) := L_X8_isWord_22  N σ N j0 s0 0
noncomputable def F_X8_isWord (N : Nat) (j0 : Nat) (σ : HP) : Option (Int32) := if (σ (j0 + 1) (ix 7)) = (σ j0 7) then (J_X8_isWord_19  N j0 1 σ) else (J_X8_isWord_19  N j0 0 σ)
noncomputable def J_X8_want_64 (k32 : (Nat → Int32 → HP → Option (Int32 × HP))) (N : Nat) (j0 : Nat) (a2 : Int32) (p0 : Nat) (s1 : Int32) (s2 : Int32) (σ : HP) : Option (Int32 × HP) := gd (vp_in s1 (152)) (bd (wr σ p0 (ix s1) s2) (fun σ22 => k32 j0 (a2 + 1) σ22))
noncomputable def L_X8_want_32 (N : Nat) : Nat → Nat → Int32 → HP → Option (Int32 × HP)
  | 0, _, _, _ => none
  | n + 1, j0, a2, σ => if 12 ≤ a2 then (bd (wr σ (j0 + 1) (ix 7) (σ j0 7)) (fun σ22 => some ((σ22 j0 7), σ22))) else (if (σ j0 7) ≤ a2 then (J_X8_want_64 (L_X8_want_32  N n) N j0 a2 (j0 + 1) (108 + a2) 0 σ) else (gd (vp_in a2 (60)) (J_X8_want_64 (L_X8_want_32  N n) N j0 a2 (j0 + 1) (108 + a2) (σ (j0 + 5) (ix a2)) σ)))
noncomputable def F_X8_want (N : Nat) (j0 : Nat) (σ : HP) : Option (Int32 × HP) := (F_X8_wordFault N j0 σ).bind (fun r22 => if r22 = (-1000005) then ((F_X8_isWord N j0 σ).bind (fun r25 => if r25 = 0 then ((F_X8_records N j0 σ).bind (fun σ28 => L_X8_want_32  N N j0 0 σ28)) else (some ((-1000005), σ)))) else (some (((-1000100) - r22), σ)))
noncomputable def F_X8_type (N : Nat) (j0 : Nat) (a1 : Int32) (σ : HP) : Option (Int32 × HP) := if (σ j0 7) = 60 then (some ((-1000003), σ)) else (gd (vp_in (σ j0 7) (60)) (bd (wr σ (j0 + 5) (ix (σ j0 7)) (vp_nar .char a1)) (fun σ23 => bd (wr σ23 j0 7 ((σ23 j0 7) + 1)) (fun σ24 => some ((σ24 j0 7), σ24)))))
noncomputable def F_X8_clearText (N : Nat) (j0 : Nat) (σ : HP) : Option (Int32 × HP) := bd (σ j0 7) (fun x21 => bd (wr σ j0 7 0) (fun σ22 => some (x21, σ22)))
noncomputable def F_X8_undo (N : Nat) (j0 : Nat) (σ : HP) : Option (Int32 × HP) := if (σ j0 3) = 0 then (some ((-1000005), σ)) else (bd (wr σ j0 3 ((σ j0 3) - 1)) (fun σ22 => (F_X8_lays N (j0 + 3) (152 * (σ22 j0 3)) (j0 + 1) 0 σ22).bind (fun σ24 => some ((σ24 j0 3), σ24))))
noncomputable def F_X8_keep (N : Nat) (j0 : Nat) (σ : HP) : Option (Int32 × HP) := (F_X8_lays N (j0 + 1) 0 (j0 + 4) 0 σ).bind (fun σ22 => bd (wr σ22 j0 5 1) (fun σ23 => some ((σ23 (j0 + 1) (ix 1)), σ23)))
noncomputable def F_X8_restore (N : Nat) (j0 : Nat) (σ : HP) : Option (Int32 × HP) := if (σ j0 5) = 0 then (some ((-1000005), σ)) else ((F_X8_records N j0 σ).bind (fun σ23 => (F_X8_lays N (j0 + 4) 0 (j0 + 1) 0 σ23).bind (fun σ25 => some ((σ25 (j0 + 1) (ix 1)), σ25))))
noncomputable def L_X8_partner_5 (N : Nat) (σ : HP) : Nat → Nat → Int32 → Int32 → Int32 → Option (Int32)
  | 0, _, _, _, _ => none
  | n + 1, j0, a1, a2, a3 => if (σ (j0 + 1) (ix 0)) ≤ a3 then (some a2) else ((F_X8_isTangled N (j0 + 1) a1 σ).bind (fun r23 => if r23 = 0 then (some a2) else ((F_X8_of N (j0 + 1) a3 0 σ).bind (fun r26 => (F_X8_of N (j0 + 1) a1 3 σ).bind (fun r28 => if r26 = r28 then (L_X8_partner_5  N σ n j0 a1 a3 (a3 + 1)) else (L_X8_partner_5  N σ n j0 a1 a2 (a3 + 1)))))))
noncomputable def F_X8_partner (N : Nat) (j0 : Nat) (a1 : Int32) (σ : HP) : Option (Int32) := L_X8_partner_5  N σ N j0 a1 (-1000005) 0
noncomputable def F_X8_flier (N : Nat) (j0 : Nat) (a1 : Int32) (a2 : Int32) (σ : HP) : Option (Int32) := (F_X8_isPlace N j0 a1 σ).bind (fun r22 => if r22 = 0 then (some (-1000001)) else (if a2 = 0 then ((F_X8_of N (j0 + 1) a1 a2 σ).bind (fun r26 => some r26)) else if a2 = 1 then ((F_X8_of N (j0 + 1) a1 a2 σ).bind (fun r29 => some r29)) else if a2 = 2 then ((F_X8_of N (j0 + 1) a1 a2 σ).bind (fun r32 => some r32)) else if a2 = 3 then ((F_X8_shown N (j0 + 1) a1 σ).bind (fun r35 => some r35)) else if a2 = 4 then ((F_X8_partner N j0 a1 σ).bind (fun r38 => some r38)) else if a2 = 5 then ((F_X8_of N (j0 + 1) a1 4 σ).bind (fun r41 => some r41)) else if a2 = 6 then ((F_X8_isRead N (j0 + 1) a1 σ).bind (fun r44 => if r44 = 0 then (some 0) else (some 1))) else if a2 = 7 then ((F_X8_of N (j0 + 1) a1 5 σ).bind (fun r48 => some r48)) else (some (-1000002))))
noncomputable def F_X8_reads (N : Nat) (j0 : Nat) (a1 : Int32) (σ : HP) : Option (Int32) := if 0 ≤ a1 then ((F_X8_ranked N (j0 + 1) a1 σ).bind (fun r23 => if r23 = (-1000005) then (some (-1000005)) else ((F_X8_of N (j0 + 1) r23 1 σ).bind (fun r26 => some r26)))) else (some (-1000002))
noncomputable def F_X8_ifTraded (N : Nat) (j0 : Nat) (a1 : Int32) (a2 : Int32) (σ : HP) : Option (Int32 × HP) := (F_X8_in N a1 0 ((σ (j0 + 1) (ix 0)) - 2) σ).bind (fun r22 => if r22 = 0 then (some ((-1000001), σ)) else ((F_X8_in N a2 0 2 σ).bind (fun r25 => if r25 = 0 then (some ((-1000002), σ)) else (if a2 = 1 then ((F_X8_isSafe N (j0 + 1) a1 σ).bind (fun r38 => if r38 = 0 then (some (0, σ)) else (some (1, σ)))) else (bind2 (F_X8_fewest N j0 (j0 + 1) σ) (fun r29 σ30 => if r29 = (-1000005) then (some ((-1000005), σ30)) else (bind2 (F_X8_behind N j0 (j0 + 1) a1 σ30) (fun r33 σ34 => if a2 = 2 then (some (r33, σ34)) else (if r29 ≤ r33 then (some (0, σ34)) else (some (1, σ34)))))))))))
noncomputable def F_X8_nextTrade (N : Nat) (j0 : Nat) (σ : HP) : Option (Int32 × HP) := bind2 (F_X8_next N j0 (j0 + 1) σ) (fun r22 σ23 => some (r22, σ23))
noncomputable def J_X8_spelledIn_66 (k15 : (Nat → Int32 → HP → Option (Int32 × HP))) (N : Nat) (j0 : Nat) (a1 : Int32) (a2 : Int32) (s0 : Int32) (σ : HP) : Option (Int32 × HP) := if a2 = (-1000005) then (bind2 (F_X8_minute N j0 (j0 + 2) σ) (fun r23 σ24 => k15 j0 (a1 + 1) σ24)) else (k15 j0 (a1 + 1) σ)
noncomputable def J_X8_spelledIn_65 (k15 : (Nat → Int32 → HP → Option (Int32 × HP))) (N : Nat) (j0 : Nat) (a1 : Int32) (a2 : Int32) (σ : HP) : Option (Int32 × HP) := J_X8_spelledIn_66 k15 N j0 a1 a2 0 σ
noncomputable def L_X8_spelledIn_15 (N : Nat) : Nat → Nat → Int32 → HP → Option (Int32 × HP)
  | 0, _, _, _ => none
  | n + 1, j0, a1, σ => if 200 < a1 then (some ((-1000005), σ)) else ((F_X8_isSpelled N (j0 + 2) σ).bind (fun r23 => if r23 = 0 then (bind2 (F_X8_next N j0 (j0 + 2) σ) (fun r26 σ27 => if r26 = (-1000005) then (J_X8_spelledIn_65 (L_X8_spelledIn_15  N n) N j0 a1 r26 σ27) else (bind2 (F_X8_trades N j0 (j0 + 2) r26 σ27) (fun r30 σ31 => if r30 = 0 then (J_X8_spelledIn_65 (L_X8_spelledIn_15  N n) N j0 a1 r26 σ31) else (J_X8_spelledIn_66 (L_X8_spelledIn_15  N n) N j0 a1 r26 1 σ31))))) else (some (a1, σ))))
noncomputable def F_X8_spelledIn (N : Nat) (j0 : Nat) (σ : HP) : Option (Int32 × HP) := (F_X8_lays N (j0 + 1) 0 (j0 + 2) 0 σ).bind (fun σ22 => L_X8_spelledIn_15  N N j0 0 σ22)
noncomputable def F_X8_turnOf (N : Nat) (j0 : Nat) (a1 : Int32) (a2 : Int32) (σ : HP) : Option (Int32) := if a1 < 0 then (some (-1000002)) else ((F_X8_in N a2 0 2 σ).bind (fun r23 => if r23 = 0 then (some (-1000002)) else (if (σ (j0 + 1) (ix 6)) ≤ a1 then (some (-1000005)) else (gd (vp_in ((84 + (3 * a1)) + a2) (152)) (some (σ (j0 + 1) (ix ((84 + (3 * a1)) + a2))))))))
noncomputable def F_X8_tangle (N : Nat) (j0 : Nat) (a1 : Int32) (a2 : Int32) (σ : HP) : Option (Int32) := if a1 < 0 then (some (-1000002)) else ((F_X8_in N a2 0 3 σ).bind (fun r23 => if r23 = 0 then (some (-1000002)) else (if (σ (j0 + 1) (ix 11)) ≤ a1 then (some (-1000005)) else (gd (vp_in ((120 + (4 * a1)) + a2) (152)) (some (σ (j0 + 1) (ix ((120 + (4 * a1)) + a2))))))))
noncomputable def F_X8_count (N : Nat) (j0 : Nat) (a1 : Int32) (σ : HP) : Option (Int32 × HP) := if a1 = 0 then (gd (vp_in a1 (152)) (some ((σ (j0 + 1) (ix a1)), σ))) else if a1 = 1 then (gd (vp_in a1 (152)) (some ((σ (j0 + 1) (ix a1)), σ))) else if a1 = 2 then (gd (vp_in a1 (152)) (some ((σ (j0 + 1) (ix a1)), σ))) else if a1 = 3 then (gd (vp_in a1 (152)) (some ((σ (j0 + 1) (ix a1)), σ))) else if a1 = 4 then (gd (vp_in a1 (152)) (some ((σ (j0 + 1) (ix a1)), σ))) else if a1 = 5 then ((F_X8_readable N (j0 + 1) σ).bind (fun r33 => some (r33, σ))) else if a1 = 6 then (some ((σ (j0 + 1) (ix 7)), σ)) else if a1 = 7 then (bind2 (F_X8_fewest N j0 (j0 + 1) σ) (fun r37 σ38 => some (r37, σ38))) else if a1 = 8 then ((F_X8_isSpelled N (j0 + 1) σ).bind (fun r41 => if r41 = 0 then (some (0, σ)) else (some (1, σ)))) else if a1 = 9 then (some ((σ (j0 + 1) (ix 8)), σ)) else if a1 = 10 then (some ((σ (j0 + 1) (ix 9)), σ)) else if a1 = 11 then (some ((σ (j0 + 1) (ix 6)), σ)) else if a1 = 12 then (some ((σ j0 3), σ)) else if a1 = 13 then (some ((σ j0 7), σ)) else (some ((-1000002), σ))
end
