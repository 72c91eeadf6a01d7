section
-- ===== PART A: goes FIRST, ahead of the names: the tables' words, and 'selects' of the private methods out of them =====
/-- a private method of a class that the tables say can be made, by its rows of tables_1 -/
def lw_okq (q : MethodName × Nat) : Prop := (q.1.cls ≠ "java/lang/invoke/MethodHandle" ∧ q.1.cls ≠ "java/lang/invoke/VarHandle") ∧ Cond.instantiable q.1.cls q.2 ∈ tables_1 ∧ Cond.privateMethod q.1 ∈ tables_1 ∧ Cond.instanceMethod q.1 ∈ tables_1
theorem lw_p0 : lw_okq (⟨"CensoredThreads", "remember", "()V"⟩, 8) := ⟨⟨by decide +kernel, by decide +kernel⟩, List.mem_of_getElem? (i := 11) (by decide +kernel), List.mem_of_getElem? (i := 200) (by decide +kernel), List.mem_of_getElem? (i := 201) (by decide +kernel)⟩
theorem lw_p1 : lw_okq (⟨"CensoredThreads", "faultOfPad", "()I"⟩, 8) := ⟨⟨by decide +kernel, by decide +kernel⟩, List.mem_of_getElem? (i := 11) (by decide +kernel), List.mem_of_getElem? (i := 246) (by decide +kernel), List.mem_of_getElem? (i := 247) (by decide +kernel)⟩
theorem lw_p2 : lw_okq (⟨"CensoredThreads", "lettersOfPad", "()I"⟩, 8) := ⟨⟨by decide +kernel, by decide +kernel⟩, List.mem_of_getElem? (i := 11) (by decide +kernel), List.mem_of_getElem? (i := 256) (by decide +kernel), List.mem_of_getElem? (i := 257) (by decide +kernel)⟩
theorem lw_p3 : lw_okq (⟨"CensoredThreads", "writeLettersOfPad", "()V"⟩, 8) := ⟨⟨by decide +kernel, by decide +kernel⟩, List.mem_of_getElem? (i := 11) (by decide +kernel), List.mem_of_getElem? (i := 260) (by decide +kernel), List.mem_of_getElem? (i := 261) (by decide +kernel)⟩
theorem lw_p4 : lw_okq (⟨"CensoredThreads", "turnsBackWith", "(I)Z"⟩, 8) := ⟨⟨by decide +kernel, by decide +kernel⟩, List.mem_of_getElem? (i := 11) (by decide +kernel), List.mem_of_getElem? (i := 450) (by decide +kernel), List.mem_of_getElem? (i := 451) (by decide +kernel)⟩
theorem lw_p5 : lw_okq (⟨"CensoredThreadsModel", "lays", "(II)I"⟩, 12) := ⟨⟨by decide +kernel, by decide +kernel⟩, List.mem_of_getElem? (i := 486) (by decide +kernel), List.mem_of_getElem? (i := 536) (by decide +kernel), List.mem_of_getElem? (i := 537) (by decide +kernel)⟩
theorem lw_p6 : lw_okq (⟨"CensoredThreadsModel", "record", "()V"⟩, 12) := ⟨⟨by decide +kernel, by decide +kernel⟩, List.mem_of_getElem? (i := 486) (by decide +kernel), List.mem_of_getElem? (i := 540) (by decide +kernel), List.mem_of_getElem? (i := 541) (by decide +kernel)⟩
theorem lw_p7 : lw_okq (⟨"CensoredThreadsModel", "trades", "(II)V"⟩, 12) := ⟨⟨by decide +kernel, by decide +kernel⟩, List.mem_of_getElem? (i := 486) (by decide +kernel), List.mem_of_getElem? (i := 561) (by decide +kernel), List.mem_of_getElem? (i := 562) (by decide +kernel)⟩
theorem lw_p8 : lw_okq (⟨"CensoredThreadsModel", "isLetter", "(I)Z"⟩, 12) := ⟨⟨by decide +kernel, by decide +kernel⟩, List.mem_of_getElem? (i := 486) (by decide +kernel), List.mem_of_getElem? (i := 569) (by decide +kernel), List.mem_of_getElem? (i := 570) (by decide +kernel)⟩
theorem lw_p9 : lw_okq (⟨"CensoredThreadsModel", "of", "(II)I"⟩, 12) := ⟨⟨by decide +kernel, by decide +kernel⟩, List.mem_of_getElem? (i := 486) (by decide +kernel), List.mem_of_getElem? (i := 573) (by decide +kernel), List.mem_of_getElem? (i := 574) (by decide +kernel)⟩
theorem lw_p10 : lw_okq (⟨"CensoredThreadsModel", "placeOf", "(I)I"⟩, 12) := ⟨⟨by decide +kernel, by decide +kernel⟩, List.mem_of_getElem? (i := 486) (by decide +kernel), List.mem_of_getElem? (i := 580) (by decide +kernel), List.mem_of_getElem? (i := 581) (by decide +kernel)⟩
theorem lw_p11 : lw_okq (⟨"CensoredThreadsModel", "passes", "(I)I"⟩, 12) := ⟨⟨by decide +kernel, by decide +kernel⟩, List.mem_of_getElem? (i := 486) (by decide +kernel), List.mem_of_getElem? (i := 591) (by decide +kernel), List.mem_of_getElem? (i := 592) (by decide +kernel)⟩
theorem lw_p12 : lw_okq (⟨"CensoredThreadsModel", "week", "()I"⟩, 12) := ⟨⟨by decide +kernel, by decide +kernel⟩, List.mem_of_getElem? (i := 486) (by decide +kernel), List.mem_of_getElem? (i := 595) (by decide +kernel), List.mem_of_getElem? (i := 596) (by decide +kernel)⟩
theorem lw_p13 : lw_okq (⟨"CensoredThreadsModel", "goesThrough", "(I)V"⟩, 12) := ⟨⟨by decide +kernel, by decide +kernel⟩, List.mem_of_getElem? (i := 486) (by decide +kernel), List.mem_of_getElem? (i := 599) (by decide +kernel), List.mem_of_getElem? (i := 600) (by decide +kernel)⟩
theorem lw_p14 : lw_okq (⟨"CensoredThreadsModel", "shiftNow", "(I)I"⟩, 12) := ⟨⟨by decide +kernel, by decide +kernel⟩, List.mem_of_getElem? (i := 486) (by decide +kernel), List.mem_of_getElem? (i := 603) (by decide +kernel), List.mem_of_getElem? (i := 604) (by decide +kernel)⟩
theorem lw_p15 : lw_okq (⟨"CensoredThreadsModel", "isBarred", "(I)Z"⟩, 12) := ⟨⟨by decide +kernel, by decide +kernel⟩, List.mem_of_getElem? (i := 486) (by decide +kernel), List.mem_of_getElem? (i := 607) (by decide +kernel), List.mem_of_getElem? (i := 608) (by decide +kernel)⟩
def lw_privs_1 : List (MethodName × Nat) := [(⟨"CensoredThreads", "remember", "()V"⟩, 8), (⟨"CensoredThreads", "faultOfPad", "()I"⟩, 8), (⟨"CensoredThreads", "lettersOfPad", "()I"⟩, 8), (⟨"CensoredThreads", "writeLettersOfPad", "()V"⟩, 8), (⟨"CensoredThreads", "turnsBackWith", "(I)Z"⟩, 8), (⟨"CensoredThreadsModel", "lays", "(II)I"⟩, 12), (⟨"CensoredThreadsModel", "record", "()V"⟩, 12), (⟨"CensoredThreadsModel", "trades", "(II)V"⟩, 12), (⟨"CensoredThreadsModel", "isLetter", "(I)Z"⟩, 12), (⟨"CensoredThreadsModel", "of", "(II)I"⟩, 12), (⟨"CensoredThreadsModel", "placeOf", "(I)I"⟩, 12), (⟨"CensoredThreadsModel", "passes", "(I)I"⟩, 12), (⟨"CensoredThreadsModel", "week", "()I"⟩, 12), (⟨"CensoredThreadsModel", "goesThrough", "(I)V"⟩, 12), (⟨"CensoredThreadsModel", "shiftNow", "(I)I"⟩, 12), (⟨"CensoredThreadsModel", "isBarred", "(I)Z"⟩, 12)]
theorem lw_r1 : ∀ q ∈ lw_privs_1, lw_okq q := List.forall_mem_cons.mpr ⟨lw_p0, List.forall_mem_cons.mpr ⟨lw_p1, List.forall_mem_cons.mpr ⟨lw_p2, List.forall_mem_cons.mpr ⟨lw_p3, List.forall_mem_cons.mpr ⟨lw_p4, List.forall_mem_cons.mpr ⟨lw_p5, List.forall_mem_cons.mpr ⟨lw_p6, List.forall_mem_cons.mpr ⟨lw_p7, List.forall_mem_cons.mpr ⟨lw_p8, List.forall_mem_cons.mpr ⟨lw_p9, List.forall_mem_cons.mpr ⟨lw_p10, List.forall_mem_cons.mpr ⟨lw_p11, List.forall_mem_cons.mpr ⟨lw_p12, List.forall_mem_cons.mpr ⟨lw_p13, List.forall_mem_cons.mpr ⟨lw_p14, List.forall_mem_cons.mpr ⟨lw_p15, fun _ h => absurd h List.not_mem_nil⟩⟩⟩⟩⟩⟩⟩⟩⟩⟩⟩⟩⟩⟩⟩⟩
theorem lw_p16 : lw_okq (⟨"CensoredThreadsModel", "reads", "(II)V"⟩, 12) := ⟨⟨by decide +kernel, by decide +kernel⟩, List.mem_of_getElem? (i := 486) (by decide +kernel), List.mem_of_getElem? (i := 611) (by decide +kernel), List.mem_of_getElem? (i := 612) (by decide +kernel)⟩
theorem lw_p17 : lw_okq (⟨"CensoredThreadsModel", "strikes", "(II)I"⟩, 12) := ⟨⟨by decide +kernel, by decide +kernel⟩, List.mem_of_getElem? (i := 486) (by decide +kernel), List.mem_of_getElem? (i := 615) (by decide +kernel), List.mem_of_getElem? (i := 616) (by decide +kernel)⟩
theorem lw_p18 : lw_okq (⟨"CensoredThreadsModel", "wordOf", "(II)I"⟩, 12) := ⟨⟨by decide +kernel, by decide +kernel⟩, List.mem_of_getElem? (i := 486) (by decide +kernel), List.mem_of_getElem? (i := 619) (by decide +kernel), List.mem_of_getElem? (i := 620) (by decide +kernel)⟩
theorem lw_p19 : lw_okq (⟨"CensoredThreadsModel", "aheadOf", "(I)I"⟩, 12) := ⟨⟨by decide +kernel, by decide +kernel⟩, List.mem_of_getElem? (i := 486) (by decide +kernel), List.mem_of_getElem? (i := 627) (by decide +kernel), List.mem_of_getElem? (i := 628) (by decide +kernel)⟩
theorem lw_p20 : lw_okq (⟨"CensoredThreadsModel", "putAside", "()V"⟩, 12) := ⟨⟨by decide +kernel, by decide +kernel⟩, List.mem_of_getElem? (i := 486) (by decide +kernel), List.mem_of_getElem? (i := 639) (by decide +kernel), List.mem_of_getElem? (i := 640) (by decide +kernel)⟩
theorem lw_p21 : lw_okq (⟨"CensoredThreadsModel", "putBack", "()V"⟩, 12) := ⟨⟨by decide +kernel, by decide +kernel⟩, List.mem_of_getElem? (i := 486) (by decide +kernel), List.mem_of_getElem? (i := 643) (by decide +kernel), List.mem_of_getElem? (i := 644) (by decide +kernel)⟩
theorem lw_p22 : lw_okq (⟨"CensoredThreadsModel", "shiftsOf", "(I)I"⟩, 12) := ⟨⟨by decide +kernel, by decide +kernel⟩, List.mem_of_getElem? (i := 486) (by decide +kernel), List.mem_of_getElem? (i := 651) (by decide +kernel), List.mem_of_getElem? (i := 652) (by decide +kernel)⟩
theorem lw_p23 : lw_okq (⟨"CensoredThreadsModel", "many", "(I)I"⟩, 12) := ⟨⟨by decide +kernel, by decide +kernel⟩, List.mem_of_getElem? (i := 486) (by decide +kernel), List.mem_of_getElem? (i := 663) (by decide +kernel), List.mem_of_getElem? (i := 664) (by decide +kernel)⟩
theorem lw_p24 : lw_okq (⟨"CensoredThreadsModel", "delays", "()I"⟩, 12) := ⟨⟨by decide +kernel, by decide +kernel⟩, List.mem_of_getElem? (i := 486) (by decide +kernel), List.mem_of_getElem? (i := 667) (by decide +kernel), List.mem_of_getElem? (i := 668) (by decide +kernel)⟩
theorem lw_p25 : lw_okq (⟨"CensoredThreadsModel", "longest", "()I"⟩, 12) := ⟨⟨by decide +kernel, by decide +kernel⟩, List.mem_of_getElem? (i := 486) (by decide +kernel), List.mem_of_getElem? (i := 671) (by decide +kernel), List.mem_of_getElem? (i := 672) (by decide +kernel)⟩
theorem lw_p26 : lw_okq (⟨"CensoredThreadsModel", "struckWords", "()I"⟩, 12) := ⟨⟨by decide +kernel, by decide +kernel⟩, List.mem_of_getElem? (i := 486) (by decide +kernel), List.mem_of_getElem? (i := 675) (by decide +kernel), List.mem_of_getElem? (i := 676) (by decide +kernel)⟩
theorem lw_p27 : lw_okq (⟨"CensoredThreadsModel", "waitingThreads", "()I"⟩, 12) := ⟨⟨by decide +kernel, by decide +kernel⟩, List.mem_of_getElem? (i := 486) (by decide +kernel), List.mem_of_getElem? (i := 679) (by decide +kernel), List.mem_of_getElem? (i := 680) (by decide +kernel)⟩
theorem lw_p28 : lw_okq (⟨"CensoredThreadsModel", "turnedBack", "()I"⟩, 12) := ⟨⟨by decide +kernel, by decide +kernel⟩, List.mem_of_getElem? (i := 486) (by decide +kernel), List.mem_of_getElem? (i := 699) (by decide +kernel), List.mem_of_getElem? (i := 700) (by decide +kernel)⟩
theorem lw_p29 : lw_okq (⟨"CensoredThreadsModel", "wrong", "()I"⟩, 12) := ⟨⟨by decide +kernel, by decide +kernel⟩, List.mem_of_getElem? (i := 486) (by decide +kernel), List.mem_of_getElem? (i := 716) (by decide +kernel), List.mem_of_getElem? (i := 717) (by decide +kernel)⟩
theorem lw_p30 : lw_okq (⟨"CensoredThreadsModel", "right", "(I)I"⟩, 12) := ⟨⟨by decide +kernel, by decide +kernel⟩, List.mem_of_getElem? (i := 486) (by decide +kernel), List.mem_of_getElem? (i := 720) (by decide +kernel), List.mem_of_getElem? (i := 721) (by decide +kernel)⟩
theorem lw_p31 : lw_okq (⟨"CensoredThreadsModel", "next", "(I)I"⟩, 12) := ⟨⟨by decide +kernel, by decide +kernel⟩, List.mem_of_getElem? (i := 486) (by decide +kernel), List.mem_of_getElem? (i := 724) (by decide +kernel), List.mem_of_getElem? (i := 725) (by decide +kernel)⟩
def lw_privs_2 : List (MethodName × Nat) := [(⟨"CensoredThreadsModel", "reads", "(II)V"⟩, 12), (⟨"CensoredThreadsModel", "strikes", "(II)I"⟩, 12), (⟨"CensoredThreadsModel", "wordOf", "(II)I"⟩, 12), (⟨"CensoredThreadsModel", "aheadOf", "(I)I"⟩, 12), (⟨"CensoredThreadsModel", "putAside", "()V"⟩, 12), (⟨"CensoredThreadsModel", "putBack", "()V"⟩, 12), (⟨"CensoredThreadsModel", "shiftsOf", "(I)I"⟩, 12), (⟨"CensoredThreadsModel", "many", "(I)I"⟩, 12), (⟨"CensoredThreadsModel", "delays", "()I"⟩, 12), (⟨"CensoredThreadsModel", "longest", "()I"⟩, 12), (⟨"CensoredThreadsModel", "struckWords", "()I"⟩, 12), (⟨"CensoredThreadsModel", "waitingThreads", "()I"⟩, 12), (⟨"CensoredThreadsModel", "turnedBack", "()I"⟩, 12), (⟨"CensoredThreadsModel", "wrong", "()I"⟩, 12), (⟨"CensoredThreadsModel", "right", "(I)I"⟩, 12), (⟨"CensoredThreadsModel", "next", "(I)I"⟩, 12)]
theorem lw_r2 : ∀ q ∈ lw_privs_2, lw_okq q := List.forall_mem_cons.mpr ⟨lw_p16, List.forall_mem_cons.mpr ⟨lw_p17, List.forall_mem_cons.mpr ⟨lw_p18, List.forall_mem_cons.mpr ⟨lw_p19, List.forall_mem_cons.mpr ⟨lw_p20, List.forall_mem_cons.mpr ⟨lw_p21, List.forall_mem_cons.mpr ⟨lw_p22, List.forall_mem_cons.mpr ⟨lw_p23, List.forall_mem_cons.mpr ⟨lw_p24, List.forall_mem_cons.mpr ⟨lw_p25, List.forall_mem_cons.mpr ⟨lw_p26, List.forall_mem_cons.mpr ⟨lw_p27, List.forall_mem_cons.mpr ⟨lw_p28, List.forall_mem_cons.mpr ⟨lw_p29, List.forall_mem_cons.mpr ⟨lw_p30, List.forall_mem_cons.mpr ⟨lw_p31, fun _ h => absurd h List.not_mem_nil⟩⟩⟩⟩⟩⟩⟩⟩⟩⟩⟩⟩⟩⟩⟩⟩
theorem lw_p32 : lw_okq (⟨"CensoredThreadsModel", "isWordAt", "(I)Z"⟩, 12) := ⟨⟨by decide +kernel, by decide +kernel⟩, List.mem_of_getElem? (i := 486) (by decide +kernel), List.mem_of_getElem? (i := 728) (by decide +kernel), List.mem_of_getElem? (i := 729) (by decide +kernel)⟩
theorem lw_p33 : lw_okq (⟨"CensoredThreadsModel", "writes", "(II)V"⟩, 12) := ⟨⟨by decide +kernel, by decide +kernel⟩, List.mem_of_getElem? (i := 486) (by decide +kernel), List.mem_of_getElem? (i := 736) (by decide +kernel), List.mem_of_getElem? (i := 737) (by decide +kernel)⟩
def lw_privs_3 : List (MethodName × Nat) := [(⟨"CensoredThreadsModel", "isWordAt", "(I)Z"⟩, 12), (⟨"CensoredThreadsModel", "writes", "(II)V"⟩, 12)]
theorem lw_r3 : ∀ q ∈ lw_privs_3, lw_okq q := List.forall_mem_cons.mpr ⟨lw_p32, List.forall_mem_cons.mpr ⟨lw_p33, fun _ h => absurd h List.not_mem_nil⟩⟩
def lw_privs : List (MethodName × Nat) := lw_privs_1 ++ (lw_privs_2 ++ (lw_privs_3))
def lw_tbl : List Cond := k2_sels lw_privs ++ tables_1
theorem lw_privs_ok : ∀ q ∈ lw_privs, lw_okq q := by
  show ∀ q ∈ lw_privs_1 ++ (lw_privs_2 ++ (lw_privs_3)), lw_okq q
  exact List.forall_mem_append.mpr ⟨lw_r1, List.forall_mem_append.mpr ⟨lw_r2, lw_r3⟩⟩
end
section
def RX0 : String := "CensoredThreads$Censor"
def TX0 : u_T := fun k => match k with
  | 0 => ("CensoredThreads$Censor", "wordSet", "I", false)
  | 1 => ("CensoredThreads$Censor", "lettersRead", "I", false)
  | 2 => ("CensoredThreads$Censor", "wordsStruck", "I", false)
  | _ => ("CensoredThreads$Censor", "lettersTurned", "I", false)
def tyX0 : Nat → FieldType := fun k => match k with
  | 0 => .int
  | 1 => .int
  | 2 => .int
  | _ => .int
abbrev wsX00 : List Cond := u_ws RX0 TX0 4
theorem nmX0 : ∀ a, a < 4 → ∀ b, b < 4 → a ≠ b → (TX0 a).2.1 ≠ (TX0 b).2.1 := by decide +kernel
theorem tyX0_ok : ∀ k, k < 4 → parseFieldDescriptor (TX0 k).2.2.1 = some (tyX0 k) := by decide +kernel
abbrev cX0_init : ByteArray := prog_2_method_1_code
def yX0_init : MethodName := ⟨RX0, "<init>", "()V"⟩
abbrev cX0_copyFrom : ByteArray := prog_2_method_2_code
def yX0_copyFrom : MethodName := ⟨RX0, "copyFrom", "(LCensoredThreads$Censor;)V"⟩
def RX1 : String := "CensoredThreads$Letter"
def TX1 : u_T := fun k => match k with
  | 0 => ("CensoredThreads$Letter", "thread", "I", false)
  | 1 => ("CensoredThreads$Letter", "prison", "I", false)
  | 2 => ("CensoredThreads$Letter", "words", "J", false)
  | 3 => ("CensoredThreads$Letter", "wordCount", "I", false)
  | 4 => ("CensoredThreads$Letter", "written", "I", false)
  | 5 => ("CensoredThreads$Letter", "where", "I", false)
  | 6 => ("CensoredThreads$Letter", "delay", "I", false)
  | 7 => ("CensoredThreads$Letter", "timesTurned", "I", false)
  | 8 => ("CensoredThreads$Letter", "struckPlaces", "I", false)
  | 9 => ("CensoredThreads$Letter", "passedBy", "I", false)
  | _ => ("CensoredThreads$Letter", "fate", "I", false)
def tyX1 : Nat → FieldType := fun k => match k with
  | 0 => .int
  | 1 => .int
  | 2 => .long
  | 3 => .int
  | 4 => .int
  | 5 => .int
  | 6 => .int
  | 7 => .int
  | 8 => .int
  | 9 => .int
  | _ => .int
abbrev wsX10 : List Cond := u_ws RX1 TX1 11
theorem nmX1 : ∀ a, a < 11 → ∀ b, b < 11 → a ≠ b → (TX1 a).2.1 ≠ (TX1 b).2.1 := by decide +kernel
theorem tyX1_ok : ∀ k, k < 11 → parseFieldDescriptor (TX1 k).2.2.1 = some (tyX1 k) := by decide +kernel
abbrev cX1_init : ByteArray := prog_3_method_1_code
def yX1_init : MethodName := ⟨RX1, "<init>", "()V"⟩
abbrev cX1_begin : ByteArray := prog_3_method_2_code
def yX1_begin : MethodName := ⟨RX1, "begin", "(II)V"⟩
abbrev cX1_copyFrom : ByteArray := prog_3_method_3_code
def yX1_copyFrom : MethodName := ⟨RX1, "copyFrom", "(LCensoredThreads$Letter;)V"⟩
abbrev cX1_addWord : ByteArray := prog_3_method_4_code
def yX1_addWord : MethodName := ⟨RX1, "addWord", "(I)V"⟩
abbrev cX1_codeAt : ByteArray := prog_3_method_5_code
def yX1_codeAt : MethodName := ⟨RX1, "codeAt", "(I)I"⟩
abbrev cX1_isStruckAt : ByteArray := prog_3_method_6_code
def yX1_isStruckAt : MethodName := ⟨RX1, "isStruckAt", "(I)Z"⟩
abbrev cX1_struckCount : ByteArray := prog_3_method_7_code
def yX1_struckCount : MethodName := ⟨RX1, "struckCount", "()I"⟩
abbrev cX1_placesOf : ByteArray := prog_3_method_8_code
def yX1_placesOf : MethodName := ⟨RX1, "placesOf", "(I)I"⟩
def RX2 : String := "CensoredThreads$Prisons"
def TX2 : u_T := fun k => match k with
  | 0 => ("CensoredThreads$Prisons", "settings", "[I", true)
  | 1 => ("CensoredThreads$Prisons", "censors", "[LCensoredThreads$Censor;", true)
  | 2 => ("CensoredThreads$Prisons", "roster", "[I", true)
  | 3 => ("CensoredThreads$Prisons", "letters", "[LCensoredThreads$Letter;", true)
  | 4 => ("CensoredThreads$Prisons", "rows", "[LCensoredThreads$Row;", true)
  | 5 => ("CensoredThreads$Prisons", "nextRow", "LCensoredThreads$Row;", true)
  | 6 => ("CensoredThreads$Prisons", "heads", "[I", true)
  | 7 => ("CensoredThreads$Prisons", "letterCount", "I", false)
  | _ => ("CensoredThreads$Prisons", "weeks", "I", false)
def tyX2 : Nat → FieldType := fun k => match k with
  | 0 => .array .int
  | 1 => .array (.object "CensoredThreads$Censor")
  | 2 => .array .int
  | 3 => .array (.object "CensoredThreads$Letter")
  | 4 => .array (.object "CensoredThreads$Row")
  | 5 => .object "CensoredThreads$Row"
  | 6 => .array .int
  | 7 => .int
  | _ => .int
abbrev wsX20 : List Cond := u_ws RX2 TX2 9
theorem nmX2 : ∀ a, a < 9 → ∀ b, b < 9 → a ≠ b → (TX2 a).2.1 ≠ (TX2 b).2.1 := by decide +kernel
theorem tyX2_ok : ∀ k, k < 9 → parseFieldDescriptor (TX2 k).2.2.1 = some (tyX2 k) := by decide +kernel
abbrev cX2_init : ByteArray := prog_4_method_1_code
def yX2_init : MethodName := ⟨RX2, "<init>", "()V"⟩
abbrev cX2_copyFrom : ByteArray := prog_4_method_2_code
def yX2_copyFrom : MethodName := ⟨RX2, "copyFrom", "(LCensoredThreads$Prisons;)V"⟩
abbrev cX2_hasLetter : ByteArray := prog_4_method_3_code
def yX2_hasLetter : MethodName := ⟨RX2, "hasLetter", "(I)Z"⟩
abbrev cX2_beginLetter : ByteArray := prog_4_method_4_code
def yX2_beginLetter : MethodName := ⟨RX2, "beginLetter", "(I)LCensoredThreads$Letter;"⟩
abbrev cX2_sendNewest : ByteArray := prog_4_method_5_code
def yX2_sendNewest : MethodName := ⟨RX2, "sendNewest", "(I)V"⟩
abbrev cX2_burnWaiting : ByteArray := prog_4_method_6_code
def yX2_burnWaiting : MethodName := ⟨RX2, "burnWaiting", "(I)V"⟩
abbrev cX2_tradeShifts : ByteArray := prog_4_method_7_code
def yX2_tradeShifts : MethodName := ⟨RX2, "tradeShifts", "(II)V"⟩
abbrev cX2_censorNumber : ByteArray := prog_4_method_8_code
def yX2_censorNumber : MethodName := ⟨RX2, "censorNumber", "(II)I"⟩
abbrev cX2_shiftsOf : ByteArray := prog_4_method_9_code
def yX2_shiftsOf : MethodName := ⟨RX2, "shiftsOf", "(I)I"⟩
abbrev cX2_aheadOf : ByteArray := prog_4_method_10_code
def yX2_aheadOf : MethodName := ⟨RX2, "aheadOf", "(I)I"⟩
abbrev cX2_lettersThatAre : ByteArray := prog_4_method_11_code
def yX2_lettersThatAre : MethodName := ⟨RX2, "lettersThatAre", "(I)I"⟩
abbrev cX2_allDelays : ByteArray := prog_4_method_12_code
def yX2_allDelays : MethodName := ⟨RX2, "allDelays", "()I"⟩
abbrev cX2_longestDelay : ByteArray := prog_4_method_13_code
def yX2_longestDelay : MethodName := ⟨RX2, "longestDelay", "()I"⟩
abbrev cX2_wordsStruckInLetters : ByteArray := prog_4_method_14_code
def yX2_wordsStruckInLetters : MethodName := ⟨RX2, "wordsStruckInLetters", "()I"⟩
abbrev cX2_threadsThatWait : ByteArray := prog_4_method_15_code
def yX2_threadsThatWait : MethodName := ⟨RX2, "threadsThatWait", "()I"⟩
abbrev cX2_lettersTurnedByAll : ByteArray := prog_4_method_16_code
def yX2_lettersTurnedByAll : MethodName := ⟨RX2, "lettersTurnedByAll", "()I"⟩
abbrev cX2_findHeads : ByteArray := prog_4_method_17_code
def yX2_findHeads : MethodName := ⟨RX2, "findHeads", "()V"⟩
abbrev cX2_findHeadsIn : ByteArray := prog_4_method_18_code
def yX2_findHeadsIn : MethodName := ⟨RX2, "findHeadsIn", "(LCensoredThreads$Row;)V"⟩
abbrev cX2_judgeWeek : ByteArray := prog_4_method_19_code
def yX2_judgeWeek : MethodName := ⟨RX2, "judgeWeek", "()V"⟩
abbrev cX2_judgeRow : ByteArray := prog_4_method_20_code
def yX2_judgeRow : MethodName := ⟨RX2, "judgeRow", "(I)V"⟩
abbrev cX2_fateIfRead : ByteArray := prog_4_method_21_code
def yX2_fateIfRead : MethodName := ⟨RX2, "fateIfRead", "(LCensoredThreads$Letter;I)I"⟩
abbrev cX2_passWeeks : ByteArray := prog_4_method_22_code
def yX2_passWeeks : MethodName := ⟨RX2, "passWeeks", "(I)I"⟩
abbrev cX2_passWeek : ByteArray := prog_4_method_23_code
def yX2_passWeek : MethodName := ⟨RX2, "passWeek", "()I"⟩
abbrev cX2_readRow : ByteArray := prog_4_method_24_code
def yX2_readRow : MethodName := ⟨RX2, "readRow", "(I)I"⟩
abbrev cX2_appendIfFate : ByteArray := prog_4_method_25_code
def yX2_appendIfFate : MethodName := ⟨RX2, "appendIfFate", "(LCensoredThreads$Row;II)V"⟩
abbrev cX2_letThrough : ByteArray := prog_4_method_26_code
def yX2_letThrough : MethodName := ⟨RX2, "letThrough", "(LCensoredThreads$Letter;I)V"⟩
abbrev cX2_turnBack : ByteArray := prog_4_method_27_code
def yX2_turnBack : MethodName := ⟨RX2, "turnBack", "(LCensoredThreads$Letter;I)V"⟩
def RX3 : String := "CensoredThreads$Row"
def TX3 : u_T := fun k => match k with
  | 0 => ("CensoredThreads$Row", "numbers", "[I", true)
  | _ => ("CensoredThreads$Row", "length", "I", false)
def tyX3 : Nat → FieldType := fun k => match k with
  | 0 => .array .int
  | _ => .int
abbrev wsX30 : List Cond := u_ws RX3 TX3 2
theorem nmX3 : ∀ a, a < 2 → ∀ b, b < 2 → a ≠ b → (TX3 a).2.1 ≠ (TX3 b).2.1 := by decide +kernel
theorem tyX3_ok : ∀ k, k < 2 → parseFieldDescriptor (TX3 k).2.2.1 = some (tyX3 k) := by decide +kernel
abbrev cX3_init : ByteArray := prog_5_method_1_code
def yX3_init : MethodName := ⟨RX3, "<init>", "()V"⟩
abbrev cX3_copyFrom : ByteArray := prog_5_method_2_code
def yX3_copyFrom : MethodName := ⟨RX3, "copyFrom", "(LCensoredThreads$Row;)V"⟩
abbrev cX3_append : ByteArray := prog_5_method_3_code
def yX3_append : MethodName := ⟨RX3, "append", "(I)V"⟩
abbrev cX3_placeOf : ByteArray := prog_5_method_4_code
def yX3_placeOf : MethodName := ⟨RX3, "placeOf", "(I)I"⟩
abbrev cX3_takeOut : ByteArray := prog_5_method_5_code
def yX3_takeOut : MethodName := ⟨RX3, "takeOut", "(I)V"⟩
def RX4 : String := "CensoredThreads"
def TX4 : u_T := fun k => match k with
  | 0 => ("CensoredThreads", "now", "LCensoredThreads$Prisons;", true)
  | 1 => ("CensoredThreads", "trial", "LCensoredThreads$Prisons;", true)
  | 2 => ("CensoredThreads", "past", "[LCensoredThreads$Prisons;", true)
  | 3 => ("CensoredThreads", "slots", "[LCensoredThreads$Prisons;", true)
  | 4 => ("CensoredThreads", "slotUsed", "[Z", true)
  | 5 => ("CensoredThreads", "pad", "[C", true)
  | 6 => ("CensoredThreads", "pastCount", "I", false)
  | _ => ("CensoredThreads", "padLength", "I", false)
def tyX4 : Nat → FieldType := fun k => match k with
  | 0 => .object "CensoredThreads$Prisons"
  | 1 => .object "CensoredThreads$Prisons"
  | 2 => .array (.object "CensoredThreads$Prisons")
  | 3 => .array (.object "CensoredThreads$Prisons")
  | 4 => .array .boolean
  | 5 => .array .char
  | 6 => .int
  | _ => .int
abbrev wsX40 : List Cond := u_ws RX4 TX4 8
theorem nmX4 : ∀ a, a < 8 → ∀ b, b < 8 → a ≠ b → (TX4 a).2.1 ≠ (TX4 b).2.1 := by decide +kernel
theorem tyX4_ok : ∀ k, k < 8 → parseFieldDescriptor (TX4 k).2.2.1 = some (tyX4 k) := by decide +kernel
abbrev cX4_init : ByteArray := prog_1_method_1_code
def yX4_init : MethodName := ⟨RX4, "<init>", "()V"⟩
abbrev cX4_set : ByteArray := prog_1_method_2_code
def yX4_set : MethodName := ⟨RX4, "set", "(II)I"⟩
abbrev cX4_strike : ByteArray := prog_1_method_3_code
def yX4_strike : MethodName := ⟨RX4, "strike", "(II)I"⟩
abbrev cX4_trade : ByteArray := prog_1_method_4_code
def yX4_trade : MethodName := ⟨RX4, "trade", "(II)I"⟩
abbrev cX4_read : ByteArray := prog_1_method_5_code
def yX4_read : MethodName := ⟨RX4, "read", "()I"⟩
abbrev cX4_burn : ByteArray := prog_1_method_6_code
def yX4_burn : MethodName := ⟨RX4, "burn", "(I)I"⟩
abbrev cX4_pass : ByteArray := prog_1_method_7_code
def yX4_pass : MethodName := ⟨RX4, "pass", "(I)I"⟩
abbrev cX4_letter : ByteArray := prog_1_method_8_code
def yX4_letter : MethodName := ⟨RX4, "letter", "(II)I"⟩
abbrev cX4_word : ByteArray := prog_1_method_9_code
def yX4_word : MethodName := ⟨RX4, "word", "(II)I"⟩
abbrev cX4_why : ByteArray := prog_1_method_10_code
def yX4_why : MethodName := ⟨RX4, "why", "(I)I"⟩
abbrev cX4_censor : ByteArray := prog_1_method_11_code
def yX4_censor : MethodName := ⟨RX4, "censor", "(II)I"⟩
abbrev cX4_onShift : ByteArray := prog_1_method_12_code
def yX4_onShift : MethodName := ⟨RX4, "onShift", "(II)I"⟩
abbrev cX4_count : ByteArray := prog_1_method_13_code
def yX4_count : MethodName := ⟨RX4, "count", "(I)I"⟩
abbrev cX4_untilCome : ByteArray := prog_1_method_14_code
def yX4_untilCome : MethodName := ⟨RX4, "untilCome", "(I)I"⟩
abbrev cX4_ifPassed : ByteArray := prog_1_method_15_code
def yX4_ifPassed : MethodName := ⟨RX4, "ifPassed", "(II)I"⟩
abbrev cX4_bestTrade : ByteArray := prog_1_method_16_code
def yX4_bestTrade : MethodName := ⟨RX4, "bestTrade", "()I"⟩
abbrev cX4_leastLimit : ByteArray := prog_1_method_17_code
def yX4_leastLimit : MethodName := ⟨RX4, "leastLimit", "()I"⟩
abbrev cX4_turnsBackWith : ByteArray := prog_1_method_18_code
def yX4_turnsBackWith : MethodName := ⟨RX4, "turnsBackWith", "(I)Z"⟩
abbrev cX4_put : ByteArray := prog_1_method_19_code
def yX4_put : MethodName := ⟨RX4, "put", "(J)I"⟩
abbrev cX4_lengthOf : ByteArray := prog_1_method_20_code
def yX4_lengthOf : MethodName := ⟨RX4, "lengthOf", "(J)I"⟩
abbrev cX4_wipe : ByteArray := prog_1_method_21_code
def yX4_wipe : MethodName := ⟨RX4, "wipe", "()I"⟩
abbrev cX4_fault : ByteArray := prog_1_method_22_code
def yX4_fault : MethodName := ⟨RX4, "fault", "()I"⟩
abbrev cX4_faultOfPad : ByteArray := prog_1_method_23_code
def yX4_faultOfPad : MethodName := ⟨RX4, "faultOfPad", "()I"⟩
abbrev cX4_stageBehind : ByteArray := prog_1_method_24_code
def yX4_stageBehind : MethodName := ⟨RX4, "stageBehind", "(IC)I"⟩
abbrev cX4_isWord : ByteArray := prog_1_method_25_code
def yX4_isWord : MethodName := ⟨RX4, "isWord", "(C)Z"⟩
abbrev cX4_lettersOfPad : ByteArray := prog_1_method_26_code
def yX4_lettersOfPad : MethodName := ⟨RX4, "lettersOfPad", "()I"⟩
abbrev cX4_writeLettersOfPad : ByteArray := prog_1_method_27_code
def yX4_writeLettersOfPad : MethodName := ⟨RX4, "writeLettersOfPad", "()V"⟩
abbrev cX4_undo : ByteArray := prog_1_method_28_code
def yX4_undo : MethodName := ⟨RX4, "undo", "()I"⟩
abbrev cX4_save : ByteArray := prog_1_method_29_code
def yX4_save : MethodName := ⟨RX4, "save", "(I)I"⟩
abbrev cX4_restore : ByteArray := prog_1_method_30_code
def yX4_restore : MethodName := ⟨RX4, "restore", "(I)I"⟩
abbrev cX4_remember : ByteArray := prog_1_method_31_code
def yX4_remember : MethodName := ⟨RX4, "remember", "()V"⟩
def RX5 : String := "CensoredThreadsModel"
def TX5 : u_T := fun k => match k with
  | 0 => ("CensoredThreadsModel", "s", "[I", true)
  | 1 => ("CensoredThreadsModel", "aside", "[I", true)
  | 2 => ("CensoredThreadsModel", "history", "[I", true)
  | 3 => ("CensoredThreadsModel", "kept", "I", false)
  | 4 => ("CensoredThreadsModel", "slots", "[I", true)
  | 5 => ("CensoredThreadsModel", "isSaved", "[Z", true)
  | 6 => ("CensoredThreadsModel", "pad", "[I", true)
  | 7 => ("CensoredThreadsModel", "length", "I", false)
  | 8 => ("CensoredThreadsModel", "waited", "[Z", true)
  | 9 => ("CensoredThreadsModel", "wasRead", "[Z", true)
  | 10 => ("CensoredThreadsModel", "row", "[I", true)
  | _ => ("CensoredThreadsModel", "told", "I", false)
def tyX5 : Nat → FieldType := fun k => match k with
  | 0 => .array .int
  | 1 => .array .int
  | 2 => .array .int
  | 3 => .int
  | 4 => .array .int
  | 5 => .array .boolean
  | 6 => .array .int
  | 7 => .int
  | 8 => .array .boolean
  | 9 => .array .boolean
  | 10 => .array .int
  | _ => .int
abbrev wsX50 : List Cond := u_ws RX5 TX5 12
theorem nmX5 : ∀ a, a < 12 → ∀ b, b < 12 → a ≠ b → (TX5 a).2.1 ≠ (TX5 b).2.1 := by decide +kernel
theorem tyX5_ok : ∀ k, k < 12 → parseFieldDescriptor (TX5 k).2.2.1 = some (tyX5 k) := by decide +kernel
abbrev cX5_init : ByteArray := prog_7_method_1_code
def yX5_init : MethodName := ⟨RX5, "<init>", "()V"⟩
abbrev cX5_in : ByteArray := prog_7_method_3_code
def yX5_in : MethodName := ⟨RX5, "in", "(III)Z"⟩
abbrev cX5_isLetter : ByteArray := prog_7_method_4_code
def yX5_isLetter : MethodName := ⟨RX5, "isLetter", "(I)Z"⟩
abbrev cX5_at : ByteArray := prog_7_method_5_code
def yX5_at : MethodName := ⟨RX5, "at", "(II)I"⟩
abbrev cX5_of : ByteArray := prog_7_method_6_code
def yX5_of : MethodName := ⟨RX5, "of", "(II)I"⟩
abbrev cX5_inRow : ByteArray := prog_7_method_7_code
def yX5_inRow : MethodName := ⟨RX5, "inRow", "(II)I"⟩
abbrev cX5_ofCensor : ByteArray := prog_7_method_8_code
def yX5_ofCensor : MethodName := ⟨RX5, "ofCensor", "(II)I"⟩
abbrev cX5_record : ByteArray := prog_7_method_9_code
def yX5_record : MethodName := ⟨RX5, "record", "()V"⟩
abbrev cX5_putAside : ByteArray := prog_7_method_10_code
def yX5_putAside : MethodName := ⟨RX5, "putAside", "()V"⟩
abbrev cX5_putBack : ByteArray := prog_7_method_11_code
def yX5_putBack : MethodName := ⟨RX5, "putBack", "()V"⟩
abbrev cX5_bits : ByteArray := prog_7_method_12_code
def yX5_bits : MethodName := ⟨RX5, "bits", "(I)I"⟩
abbrev cX5_wordOf : ByteArray := prog_7_method_13_code
def yX5_wordOf : MethodName := ⟨RX5, "wordOf", "(II)I"⟩
abbrev cX5_strikes : ByteArray := prog_7_method_14_code
def yX5_strikes : MethodName := ⟨RX5, "strikes", "(II)I"⟩
abbrev cX5_shiftNow : ByteArray := prog_7_method_15_code
def yX5_shiftNow : MethodName := ⟨RX5, "shiftNow", "(I)I"⟩
abbrev cX5_isBarred : ByteArray := prog_7_method_16_code
def yX5_isBarred : MethodName := ⟨RX5, "isBarred", "(I)Z"⟩
abbrev cX5_reads : ByteArray := prog_7_method_17_code
def yX5_reads : MethodName := ⟨RX5, "reads", "(II)V"⟩
abbrev cX5_goesThrough : ByteArray := prog_7_method_18_code
def yX5_goesThrough : MethodName := ⟨RX5, "goesThrough", "(I)V"⟩
abbrev cX5_week : ByteArray := prog_7_method_19_code
def yX5_week : MethodName := ⟨RX5, "week", "()I"⟩
abbrev cX5_passes : ByteArray := prog_7_method_20_code
def yX5_passes : MethodName := ⟨RX5, "passes", "(I)I"⟩
abbrev cX5_many : ByteArray := prog_7_method_21_code
def yX5_many : MethodName := ⟨RX5, "many", "(I)I"⟩
abbrev cX5_struckWords : ByteArray := prog_7_method_22_code
def yX5_struckWords : MethodName := ⟨RX5, "struckWords", "()I"⟩
abbrev cX5_turnedBack : ByteArray := prog_7_method_23_code
def yX5_turnedBack : MethodName := ⟨RX5, "turnedBack", "()I"⟩
abbrev cX5_lays : ByteArray := prog_7_method_24_code
def yX5_lays : MethodName := ⟨RX5, "lays", "(II)I"⟩
abbrev cX5_set : ByteArray := prog_7_method_25_code
def yX5_set : MethodName := ⟨RX5, "set", "(II)I"⟩
abbrev cX5_strike : ByteArray := prog_7_method_26_code
def yX5_strike : MethodName := ⟨RX5, "strike", "(II)I"⟩
abbrev cX5_isShift : ByteArray := prog_7_method_27_code
def yX5_isShift : MethodName := ⟨RX5, "isShift", "(I)Z"⟩
abbrev cX5_trades : ByteArray := prog_7_method_28_code
def yX5_trades : MethodName := ⟨RX5, "trades", "(II)V"⟩
abbrev cX5_trade : ByteArray := prog_7_method_29_code
def yX5_trade : MethodName := ⟨RX5, "trade", "(II)I"⟩
abbrev cX5_burn : ByteArray := prog_7_method_30_code
def yX5_burn : MethodName := ⟨RX5, "burn", "(I)I"⟩
abbrev cX5_pass : ByteArray := prog_7_method_31_code
def yX5_pass : MethodName := ⟨RX5, "pass", "(I)I"⟩
abbrev cX5_placeOf : ByteArray := prog_7_method_32_code
def yX5_placeOf : MethodName := ⟨RX5, "placeOf", "(I)I"⟩
abbrev cX5_aheadOf : ByteArray := prog_7_method_33_code
def yX5_aheadOf : MethodName := ⟨RX5, "aheadOf", "(I)I"⟩
abbrev cX5_letter : ByteArray := prog_7_method_34_code
def yX5_letter : MethodName := ⟨RX5, "letter", "(II)I"⟩
abbrev cX5_word : ByteArray := prog_7_method_35_code
def yX5_word : MethodName := ⟨RX5, "word", "(II)I"⟩
abbrev cX5_why : ByteArray := prog_7_method_36_code
def yX5_why : MethodName := ⟨RX5, "why", "(I)I"⟩
abbrev cX5_shiftsOf : ByteArray := prog_7_method_37_code
def yX5_shiftsOf : MethodName := ⟨RX5, "shiftsOf", "(I)I"⟩
abbrev cX5_censor : ByteArray := prog_7_method_38_code
def yX5_censor : MethodName := ⟨RX5, "censor", "(II)I"⟩
abbrev cX5_onShift : ByteArray := prog_7_method_39_code
def yX5_onShift : MethodName := ⟨RX5, "onShift", "(II)I"⟩
abbrev cX5_delays : ByteArray := prog_7_method_40_code
def yX5_delays : MethodName := ⟨RX5, "delays", "()I"⟩
abbrev cX5_longest : ByteArray := prog_7_method_41_code
def yX5_longest : MethodName := ⟨RX5, "longest", "()I"⟩
abbrev cX5_waitingThreads : ByteArray := prog_7_method_42_code
def yX5_waitingThreads : MethodName := ⟨RX5, "waitingThreads", "()I"⟩
abbrev cX5_count : ByteArray := prog_7_method_43_code
def yX5_count : MethodName := ⟨RX5, "count", "(I)I"⟩
abbrev cX5_untilCome : ByteArray := prog_7_method_44_code
def yX5_untilCome : MethodName := ⟨RX5, "untilCome", "(I)I"⟩
abbrev cX5_ifPassed : ByteArray := prog_7_method_45_code
def yX5_ifPassed : MethodName := ⟨RX5, "ifPassed", "(II)I"⟩
abbrev cX5_bestTrade : ByteArray := prog_7_method_46_code
def yX5_bestTrade : MethodName := ⟨RX5, "bestTrade", "()I"⟩
abbrev cX5_leastLimit : ByteArray := prog_7_method_47_code
def yX5_leastLimit : MethodName := ⟨RX5, "leastLimit", "()I"⟩
abbrev cX5_put : ByteArray := prog_7_method_48_code
def yX5_put : MethodName := ⟨RX5, "put", "(J)I"⟩
abbrev cX5_wipe : ByteArray := prog_7_method_49_code
def yX5_wipe : MethodName := ⟨RX5, "wipe", "()I"⟩
abbrev cX5_next : ByteArray := prog_7_method_50_code
def yX5_next : MethodName := ⟨RX5, "next", "(I)I"⟩
abbrev cX5_isWordAt : ByteArray := prog_7_method_51_code
def yX5_isWordAt : MethodName := ⟨RX5, "isWordAt", "(I)Z"⟩
abbrev cX5_right : ByteArray := prog_7_method_52_code
def yX5_right : MethodName := ⟨RX5, "right", "(I)I"⟩
abbrev cX5_wrong : ByteArray := prog_7_method_53_code
def yX5_wrong : MethodName := ⟨RX5, "wrong", "()I"⟩
abbrev cX5_fault : ByteArray := prog_7_method_54_code
def yX5_fault : MethodName := ⟨RX5, "fault", "()I"⟩
abbrev cX5_writes : ByteArray := prog_7_method_55_code
def yX5_writes : MethodName := ⟨RX5, "writes", "(II)V"⟩
abbrev cX5_read : ByteArray := prog_7_method_56_code
def yX5_read : MethodName := ⟨RX5, "read", "()I"⟩
abbrev cX5_undo : ByteArray := prog_7_method_57_code
def yX5_undo : MethodName := ⟨RX5, "undo", "()I"⟩
abbrev cX5_save : ByteArray := prog_7_method_58_code
def yX5_save : MethodName := ⟨RX5, "save", "(I)I"⟩
abbrev cX5_restore : ByteArray := prog_7_method_59_code
def yX5_restore : MethodName := ⟨RX5, "restore", "(I)I"⟩
def RJ6 : String := "java/lang/Integer"
def TJ6 : u_T := fun k => match k with
  | _ => ("", "", "", false)
def tyJ6 : Nat → FieldType := fun k => match k with
  | _ => .int
abbrev cJ6_bitCount_0f7a4 : ByteArray := prog_8_method_49_code
def yJ6_bitCount_0f7a4 : MethodName := ⟨RJ6, "bitCount", "(I)I"⟩
def RJ9 : String := "java/lang/Math"
def TJ9 : u_T := fun k => match k with
  | _ => ("", "", "", false)
def tyJ9 : Nat → FieldType := fun k => match k with
  | _ => .int
abbrev cJ9_max_7cf53 : ByteArray := prog_9_method_65_code
def yJ9_max_7cf53 : MethodName := ⟨RJ9, "max", "(II)I"⟩
def RJ10 : String := "java/lang/System"
def TJ10 : u_T := fun k => match k with
  | _ => ("", "", "", false)
def tyJ10 : Nat → FieldType := fun k => match k with
  | _ => .int
def RL : String := "CensoredThreadsLaw"
abbrev cL_law : ByteArray := code
def yL_law : MethodName := ⟨RL, "law", "([I)Z"⟩
abbrev vwCl : List vw_C := [(RX0, TX0, 4), (RX1, TX1, 11), (RX2, TX2, 9), (RX3, TX3, 2), (RX4, TX4, 8), (RX5, TX5, 12)]
end
section
def lw_gd : List Cond := lw_tbl.filter goodWord
theorem gd_of {w : Cond} (h : w ∈ lw_tbl) (hg : goodWord w = true) : w ∈ lw_gd := List.mem_filter.mpr ⟨h, hg⟩
theorem gd_tbl {w : Cond} (h : w ∈ lw_gd) : w ∈ lw_tbl := (List.mem_filter.mp h).1
theorem gd_good {w : Cond} (h : w ∈ lw_gd) : goodWord w = true := (List.mem_filter.mp h).2
theorem in_t1 {w : Cond} (h : w ∈ tables_1_1) : w ∈ lw_tbl := List.mem_append_right _ (List.mem_append_left _ h)
theorem in_t2 {w : Cond} (h : w ∈ tables_1_2) : w ∈ lw_tbl := List.mem_append_right _ (List.mem_append_right _ (List.mem_append_left _ h))
theorem in_t3 {w : Cond} (h : w ∈ tables_1_3) : w ∈ lw_tbl := List.mem_append_right _ (List.mem_append_right _ (List.mem_append_right _ (List.mem_append_left _ h)))
theorem in_t4 {w : Cond} (h : w ∈ tables_1_4) : w ∈ lw_tbl := List.mem_append_right _ (List.mem_append_right _ (List.mem_append_right _ (List.mem_append_right _ h)))
theorem ini_L : Cond.initialized RL ∈ lw_gd := gd_of (in_t1 (List.mem_of_getElem? (i := 0) (by decide +kernel))) rfl
theorem ini_X4 : Cond.initialized RX4 ∈ lw_gd := gd_of (in_t1 (List.mem_of_getElem? (i := 1) (by decide +kernel))) rfl
theorem ini_X2 : Cond.initialized RX2 ∈ lw_gd := gd_of (in_t1 (List.mem_of_getElem? (i := 2) (by decide +kernel))) rfl
theorem ini_X3 : Cond.initialized RX3 ∈ lw_gd := gd_of (in_t1 (List.mem_of_getElem? (i := 3) (by decide +kernel))) rfl
theorem ini_X0 : Cond.initialized RX0 ∈ lw_gd := gd_of (in_t1 (List.mem_of_getElem? (i := 4) (by decide +kernel))) rfl
theorem ini_X1 : Cond.initialized RX1 ∈ lw_gd := gd_of (in_t1 (List.mem_of_getElem? (i := 5) (by decide +kernel))) rfl
theorem ini_X5 : Cond.initialized RX5 ∈ lw_gd := gd_of (in_t1 (List.mem_of_getElem? (i := 6) (by decide +kernel))) rfl
theorem ini_J10 : Cond.initialized "java/lang/System" ∈ lw_gd := gd_of (in_t1 (List.mem_of_getElem? (i := 7) (by decide +kernel))) rfl
theorem ini_J6 : Cond.initialized RJ6 ∈ lw_gd := gd_of (in_t1 (List.mem_of_getElem? (i := 8) (by decide +kernel))) rfl
theorem ini_J9 : Cond.initialized "java/lang/Math" ∈ lw_gd := gd_of (in_t1 (List.mem_of_getElem? (i := 9) (by decide +kernel))) rfl
theorem cl_L_7 : Cond.classLink RL 7 RX4 ∈ lw_gd := gd_of (in_t1 (List.mem_of_getElem? (i := 10) (by decide +kernel))) rfl
theorem is_X4 : Cond.instantiable RX4 8 ∈ lw_gd := gd_of (in_t1 (List.mem_of_getElem? (i := 11) (by decide +kernel))) rfl
theorem ml_L_9 : Cond.methodLink RL 9 yX4_init ∈ lw_gd := gd_of (in_t1 (List.mem_of_getElem? (i := 12) (by decide +kernel))) rfl
theorem mi_X4_init : Cond.instanceMethod yX4_init ∈ lw_gd := gd_of (in_t1 (List.mem_of_getElem? (i := 13) (by decide +kernel))) rfl
theorem mc_X4_init : Cond.code yX4_init cX4_init 2 none ∈ lw_gd := gd_of (in_t1 (List.mem_of_getElem? (i := 14) (by decide +kernel))) rfl
theorem ml_X4_3 : Cond.methodLink RX4 3 objectInit ∈ lw_gd := gd_of (in_t1 (List.mem_of_getElem? (i := 15) (by decide +kernel))) rfl
theorem mi_obj : Cond.instanceMethod objectInit ∈ lw_gd := gd_of (in_t1 (List.mem_of_getElem? (i := 16) (by decide +kernel))) rfl
theorem mc_obj : Cond.code objectInit ⟨#[0xb1]⟩ 1 none ∈ lw_gd := gd_of (in_t1 (List.mem_of_getElem? (i := 17) (by decide +kernel))) rfl
theorem cl_X4_9 : Cond.classLink RX4 9 RX2 ∈ lw_gd := gd_of (in_t1 (List.mem_of_getElem? (i := 18) (by decide +kernel))) rfl
theorem is_X2 : Cond.instantiable RX2 9 ∈ lw_gd := gd_of (in_t1 (List.mem_of_getElem? (i := 19) (by decide +kernel))) rfl
theorem ml_X4_11 : Cond.methodLink RX4 11 yX2_init ∈ lw_gd := gd_of (in_t1 (List.mem_of_getElem? (i := 20) (by decide +kernel))) rfl
theorem mi_X2_init : Cond.instanceMethod yX2_init ∈ lw_gd := gd_of (in_t1 (List.mem_of_getElem? (i := 21) (by decide +kernel))) rfl
theorem mc_X2_init : Cond.code yX2_init cX2_init 2 none ∈ lw_gd := gd_of (in_t1 (List.mem_of_getElem? (i := 22) (by decide +kernel))) rfl
theorem ml_X2_3 : Cond.methodLink RX2 3 objectInit ∈ lw_gd := gd_of (in_t1 (List.mem_of_getElem? (i := 23) (by decide +kernel))) rfl
theorem cl_X2_15 : Cond.classLink RX2 15 RX0 ∈ lw_gd := gd_of (in_t1 (List.mem_of_getElem? (i := 24) (by decide +kernel))) rfl
theorem ao_X0 : Cond.arrayOver (.object RX0) ∈ lw_tbl := in_t1 (List.mem_of_getElem? (i := 25) (by decide +kernel))
theorem cl_X2_24 : Cond.classLink RX2 24 RX1 ∈ lw_gd := gd_of (in_t1 (List.mem_of_getElem? (i := 26) (by decide +kernel))) rfl
theorem ao_X1 : Cond.arrayOver (.object RX1) ∈ lw_tbl := in_t1 (List.mem_of_getElem? (i := 27) (by decide +kernel))
theorem cl_X2_30 : Cond.classLink RX2 30 RX3 ∈ lw_gd := gd_of (in_t1 (List.mem_of_getElem? (i := 28) (by decide +kernel))) rfl
theorem ao_X3 : Cond.arrayOver (.object RX3) ∈ lw_tbl := in_t1 (List.mem_of_getElem? (i := 29) (by decide +kernel))
theorem is_X3 : Cond.instantiable RX3 2 ∈ lw_gd := gd_of (in_t1 (List.mem_of_getElem? (i := 30) (by decide +kernel))) rfl
theorem ml_X2_36 : Cond.methodLinkNest RX2 36 yX3_init RX4 ∈ lw_tbl := in_t1 (List.mem_of_getElem? (i := 31) (by decide +kernel))
theorem mi_X3_init : Cond.instanceMethod yX3_init ∈ lw_gd := gd_of (in_t1 (List.mem_of_getElem? (i := 32) (by decide +kernel))) rfl
theorem mc_X3_init : Cond.code yX3_init cX3_init 1 none ∈ lw_gd := gd_of (in_t1 (List.mem_of_getElem? (i := 33) (by decide +kernel))) rfl
theorem ml_X3_3 : Cond.methodLink RX3 3 objectInit ∈ lw_gd := gd_of (in_t1 (List.mem_of_getElem? (i := 34) (by decide +kernel))) rfl
theorem lk_X3_9 : Cond.fieldLink RX3 9 RX3 (TX3 0).2.1 (TX3 0).2.2.1 ∈ lw_gd := gd_of (in_t1 (List.mem_of_getElem? (i := 35) (by decide +kernel))) rfl
theorem lk_X2_114 : Cond.fieldLink RX2 114 RX3 (TX3 0).2.1 (TX3 0).2.2.1 ∈ lw_gd := gd_of (in_t1 (List.mem_of_getElem? (i := 36) (by decide +kernel))) rfl
theorem lk_X3_15 : Cond.fieldLink RX3 15 RX3 (TX3 1).2.1 (TX3 1).2.2.1 ∈ lw_gd := gd_of (in_t1 (List.mem_of_getElem? (i := 37) (by decide +kernel))) rfl
theorem lk_X4_176 : Cond.fieldLink RX4 176 RX3 (TX3 1).2.1 (TX3 1).2.2.1 ∈ lw_gd := gd_of (in_t1 (List.mem_of_getElem? (i := 38) (by decide +kernel))) rfl
theorem lk_X2_111 : Cond.fieldLink RX2 111 RX3 (TX3 1).2.1 (TX3 1).2.2.1 ∈ lw_gd := gd_of (in_t1 (List.mem_of_getElem? (i := 39) (by decide +kernel))) rfl
theorem ac_int : Cond.arrayClass .int ∈ lw_gd := gd_of (in_t1 (List.mem_of_getElem? (i := 45) (by decide +kernel))) rfl
theorem is_X0 : Cond.instantiable RX0 4 ∈ lw_gd := gd_of (in_t1 (List.mem_of_getElem? (i := 46) (by decide +kernel))) rfl
theorem ml_X2_44 : Cond.methodLinkNest RX2 44 yX0_init RX4 ∈ lw_tbl := in_t1 (List.mem_of_getElem? (i := 47) (by decide +kernel))
theorem mi_X0_init : Cond.instanceMethod yX0_init ∈ lw_gd := gd_of (in_t1 (List.mem_of_getElem? (i := 48) (by decide +kernel))) rfl
theorem mc_X0_init : Cond.code yX0_init cX0_init 1 none ∈ lw_gd := gd_of (in_t1 (List.mem_of_getElem? (i := 49) (by decide +kernel))) rfl
theorem ml_X0_1 : Cond.methodLink RX0 1 objectInit ∈ lw_gd := gd_of (in_t1 (List.mem_of_getElem? (i := 50) (by decide +kernel))) rfl
theorem lk_X0_7 : Cond.fieldLink RX0 7 RX0 (TX0 0).2.1 (TX0 0).2.2.1 ∈ lw_gd := gd_of (in_t1 (List.mem_of_getElem? (i := 51) (by decide +kernel))) rfl
theorem lk_X4_51 : Cond.fieldLink RX4 51 RX0 (TX0 0).2.1 (TX0 0).2.2.1 ∈ lw_gd := gd_of (in_t1 (List.mem_of_getElem? (i := 52) (by decide +kernel))) rfl
theorem lk_X2_123 : Cond.fieldLink RX2 123 RX0 (TX0 0).2.1 (TX0 0).2.2.1 ∈ lw_gd := gd_of (in_t1 (List.mem_of_getElem? (i := 53) (by decide +kernel))) rfl
theorem lk_X0_13 : Cond.fieldLink RX0 13 RX0 (TX0 1).2.1 (TX0 1).2.2.1 ∈ lw_gd := gd_of (in_t1 (List.mem_of_getElem? (i := 54) (by decide +kernel))) rfl
theorem lk_X4_160 : Cond.fieldLink RX4 160 RX0 (TX0 1).2.1 (TX0 1).2.2.1 ∈ lw_gd := gd_of (in_t1 (List.mem_of_getElem? (i := 55) (by decide +kernel))) rfl
theorem lk_X2_174 : Cond.fieldLink RX2 174 RX0 (TX0 1).2.1 (TX0 1).2.2.1 ∈ lw_gd := gd_of (in_t1 (List.mem_of_getElem? (i := 56) (by decide +kernel))) rfl
theorem lk_X0_16 : Cond.fieldLink RX0 16 RX0 (TX0 2).2.1 (TX0 2).2.2.1 ∈ lw_gd := gd_of (in_t1 (List.mem_of_getElem? (i := 57) (by decide +kernel))) rfl
theorem lk_X4_163 : Cond.fieldLink RX4 163 RX0 (TX0 2).2.1 (TX0 2).2.2.1 ∈ lw_gd := gd_of (in_t1 (List.mem_of_getElem? (i := 58) (by decide +kernel))) rfl
theorem lk_X2_177 : Cond.fieldLink RX2 177 RX0 (TX0 2).2.1 (TX0 2).2.2.1 ∈ lw_gd := gd_of (in_t1 (List.mem_of_getElem? (i := 59) (by decide +kernel))) rfl
theorem lk_X0_19 : Cond.fieldLink RX0 19 RX0 (TX0 3).2.1 (TX0 3).2.2.1 ∈ lw_gd := gd_of (in_t1 (List.mem_of_getElem? (i := 60) (by decide +kernel))) rfl
theorem lk_X4_166 : Cond.fieldLink RX4 166 RX0 (TX0 3).2.1 (TX0 3).2.2.1 ∈ lw_gd := gd_of (in_t1 (List.mem_of_getElem? (i := 61) (by decide +kernel))) rfl
theorem lk_X2_105 : Cond.fieldLink RX2 105 RX0 (TX0 3).2.1 (TX0 3).2.2.1 ∈ lw_gd := gd_of (in_t1 (List.mem_of_getElem? (i := 62) (by decide +kernel))) rfl
theorem is_X1 : Cond.instantiable RX1 11 ∈ lw_gd := gd_of (in_t1 (List.mem_of_getElem? (i := 72) (by decide +kernel))) rfl
theorem ml_X2_45 : Cond.methodLinkNest RX2 45 yX1_init RX4 ∈ lw_tbl := in_t1 (List.mem_of_getElem? (i := 73) (by decide +kernel))
theorem mi_X1_init : Cond.instanceMethod yX1_init ∈ lw_gd := gd_of (in_t1 (List.mem_of_getElem? (i := 74) (by decide +kernel))) rfl
theorem mc_X1_init : Cond.code yX1_init cX1_init 1 none ∈ lw_gd := gd_of (in_t1 (List.mem_of_getElem? (i := 75) (by decide +kernel))) rfl
theorem ml_X1_3 : Cond.methodLink RX1 3 objectInit ∈ lw_gd := gd_of (in_t1 (List.mem_of_getElem? (i := 76) (by decide +kernel))) rfl
theorem lk_X1_9 : Cond.fieldLink RX1 9 RX1 (TX1 0).2.1 (TX1 0).2.2.1 ∈ lw_gd := gd_of (in_t1 (List.mem_of_getElem? (i := 77) (by decide +kernel))) rfl
theorem lk_X4_112 : Cond.fieldLink RX4 112 RX1 (TX1 0).2.1 (TX1 0).2.2.1 ∈ lw_gd := gd_of (in_t1 (List.mem_of_getElem? (i := 78) (by decide +kernel))) rfl
theorem lk_X2_86 : Cond.fieldLink RX2 86 RX1 (TX1 0).2.1 (TX1 0).2.2.1 ∈ lw_gd := gd_of (in_t1 (List.mem_of_getElem? (i := 79) (by decide +kernel))) rfl
theorem lk_X1_15 : Cond.fieldLink RX1 15 RX1 (TX1 1).2.1 (TX1 1).2.2.1 ∈ lw_gd := gd_of (in_t1 (List.mem_of_getElem? (i := 80) (by decide +kernel))) rfl
theorem lk_X2_73 : Cond.fieldLink RX2 73 RX1 (TX1 1).2.1 (TX1 1).2.2.1 ∈ lw_gd := gd_of (in_t1 (List.mem_of_getElem? (i := 81) (by decide +kernel))) rfl
theorem lk_X4_115 : Cond.fieldLink RX4 115 RX1 (TX1 1).2.1 (TX1 1).2.2.1 ∈ lw_gd := gd_of (in_t1 (List.mem_of_getElem? (i := 82) (by decide +kernel))) rfl
theorem lk_X1_18 : Cond.fieldLink RX1 18 RX1 (TX1 2).2.1 (TX1 2).2.2.1 ∈ lw_gd := gd_of (in_t1 (List.mem_of_getElem? (i := 83) (by decide +kernel))) rfl
theorem lk_X1_22 : Cond.fieldLink RX1 22 RX1 (TX1 3).2.1 (TX1 3).2.2.1 ∈ lw_gd := gd_of (in_t1 (List.mem_of_getElem? (i := 84) (by decide +kernel))) rfl
theorem lk_X4_142 : Cond.fieldLink RX4 142 RX1 (TX1 3).2.1 (TX1 3).2.2.1 ∈ lw_gd := gd_of (in_t1 (List.mem_of_getElem? (i := 85) (by decide +kernel))) rfl
theorem lk_X1_25 : Cond.fieldLink RX1 25 RX1 (TX1 4).2.1 (TX1 4).2.2.1 ∈ lw_gd := gd_of (in_t1 (List.mem_of_getElem? (i := 86) (by decide +kernel))) rfl
theorem lk_X4_106 : Cond.fieldLink RX4 106 RX1 (TX1 4).2.1 (TX1 4).2.2.1 ∈ lw_gd := gd_of (in_t1 (List.mem_of_getElem? (i := 87) (by decide +kernel))) rfl
theorem lk_X2_168 : Cond.fieldLink RX2 168 RX1 (TX1 4).2.1 (TX1 4).2.2.1 ∈ lw_gd := gd_of (in_t1 (List.mem_of_getElem? (i := 88) (by decide +kernel))) rfl
theorem lk_X1_28 : Cond.fieldLink RX1 28 RX1 (TX1 5).2.1 (TX1 5).2.2.1 ∈ lw_gd := gd_of (in_t1 (List.mem_of_getElem? (i := 89) (by decide +kernel))) rfl
theorem lk_X2_80 : Cond.fieldLink RX2 80 RX1 (TX1 5).2.1 (TX1 5).2.2.1 ∈ lw_gd := gd_of (in_t1 (List.mem_of_getElem? (i := 90) (by decide +kernel))) rfl
theorem lk_X4_94 : Cond.fieldLink RX4 94 RX1 (TX1 5).2.1 (TX1 5).2.2.1 ∈ lw_gd := gd_of (in_t1 (List.mem_of_getElem? (i := 91) (by decide +kernel))) rfl
theorem lk_X1_31 : Cond.fieldLink RX1 31 RX1 (TX1 6).2.1 (TX1 6).2.2.1 ∈ lw_gd := gd_of (in_t1 (List.mem_of_getElem? (i := 92) (by decide +kernel))) rfl
theorem lk_X4_127 : Cond.fieldLink RX4 127 RX1 (TX1 6).2.1 (TX1 6).2.2.1 ∈ lw_gd := gd_of (in_t1 (List.mem_of_getElem? (i := 93) (by decide +kernel))) rfl
theorem lk_X2_89 : Cond.fieldLink RX2 89 RX1 (TX1 6).2.1 (TX1 6).2.2.1 ∈ lw_gd := gd_of (in_t1 (List.mem_of_getElem? (i := 94) (by decide +kernel))) rfl
theorem lk_X1_34 : Cond.fieldLink RX1 34 RX1 (TX1 7).2.1 (TX1 7).2.2.1 ∈ lw_gd := gd_of (in_t1 (List.mem_of_getElem? (i := 95) (by decide +kernel))) rfl
theorem lk_X4_133 : Cond.fieldLink RX4 133 RX1 (TX1 7).2.1 (TX1 7).2.2.1 ∈ lw_gd := gd_of (in_t1 (List.mem_of_getElem? (i := 96) (by decide +kernel))) rfl
theorem lk_X2_142 : Cond.fieldLink RX2 142 RX1 (TX1 7).2.1 (TX1 7).2.2.1 ∈ lw_gd := gd_of (in_t1 (List.mem_of_getElem? (i := 97) (by decide +kernel))) rfl
theorem lk_X1_37 : Cond.fieldLink RX1 37 RX1 (TX1 8).2.1 (TX1 8).2.2.1 ∈ lw_gd := gd_of (in_t1 (List.mem_of_getElem? (i := 98) (by decide +kernel))) rfl
theorem lk_X2_165 : Cond.fieldLink RX2 165 RX1 (TX1 8).2.1 (TX1 8).2.2.1 ∈ lw_gd := gd_of (in_t1 (List.mem_of_getElem? (i := 99) (by decide +kernel))) rfl
theorem lk_X1_40 : Cond.fieldLink RX1 40 RX1 (TX1 9).2.1 (TX1 9).2.2.1 ∈ lw_gd := gd_of (in_t1 (List.mem_of_getElem? (i := 100) (by decide +kernel))) rfl
theorem lk_X4_136 : Cond.fieldLink RX4 136 RX1 (TX1 9).2.1 (TX1 9).2.2.1 ∈ lw_gd := gd_of (in_t1 (List.mem_of_getElem? (i := 101) (by decide +kernel))) rfl
theorem lk_X2_171 : Cond.fieldLink RX2 171 RX1 (TX1 9).2.1 (TX1 9).2.2.1 ∈ lw_gd := gd_of (in_t1 (List.mem_of_getElem? (i := 102) (by decide +kernel))) rfl
theorem lk_X4_154 : Cond.fieldLink RX4 154 RX1 (TX1 10).2.1 (TX1 10).2.2.1 ∈ lw_gd := gd_of (in_t1 (List.mem_of_getElem? (i := 103) (by decide +kernel))) rfl
theorem lk_X2_126 : Cond.fieldLink RX2 126 RX1 (TX1 10).2.1 (TX1 10).2.2.1 ∈ lw_gd := gd_of (in_t1 (List.mem_of_getElem? (i := 104) (by decide +kernel))) rfl
theorem lk_X2_9 : Cond.fieldLink RX2 9 RX2 (TX2 0).2.1 (TX2 0).2.2.1 ∈ lw_gd := gd_of (in_t1 (List.mem_of_getElem? (i := 128) (by decide +kernel))) rfl
theorem lk_X4_44 : Cond.fieldLink RX4 44 RX2 (TX2 0).2.1 (TX2 0).2.2.1 ∈ lw_gd := gd_of (in_t1 (List.mem_of_getElem? (i := 129) (by decide +kernel))) rfl
theorem lk_X2_17 : Cond.fieldLink RX2 17 RX2 (TX2 1).2.1 (TX2 1).2.2.1 ∈ lw_gd := gd_of (in_t1 (List.mem_of_getElem? (i := 130) (by decide +kernel))) rfl
theorem lk_X4_47 : Cond.fieldLink RX4 47 RX2 (TX2 1).2.1 (TX2 1).2.2.1 ∈ lw_gd := gd_of (in_t1 (List.mem_of_getElem? (i := 131) (by decide +kernel))) rfl
theorem lk_X2_21 : Cond.fieldLink RX2 21 RX2 (TX2 2).2.1 (TX2 2).2.2.1 ∈ lw_gd := gd_of (in_t1 (List.mem_of_getElem? (i := 132) (by decide +kernel))) rfl
theorem lk_X4_63 : Cond.fieldLink RX4 63 RX2 (TX2 2).2.1 (TX2 2).2.2.1 ∈ lw_gd := gd_of (in_t1 (List.mem_of_getElem? (i := 133) (by decide +kernel))) rfl
theorem lk_X2_26 : Cond.fieldLink RX2 26 RX2 (TX2 3).2.1 (TX2 3).2.2.1 ∈ lw_gd := gd_of (in_t1 (List.mem_of_getElem? (i := 134) (by decide +kernel))) rfl
theorem lk_X4_90 : Cond.fieldLink RX4 90 RX2 (TX2 3).2.1 (TX2 3).2.2.1 ∈ lw_gd := gd_of (in_t1 (List.mem_of_getElem? (i := 135) (by decide +kernel))) rfl
theorem lk_X2_32 : Cond.fieldLink RX2 32 RX2 (TX2 4).2.1 (TX2 4).2.2.1 ∈ lw_gd := gd_of (in_t1 (List.mem_of_getElem? (i := 136) (by decide +kernel))) rfl
theorem lk_X4_118 : Cond.fieldLink RX4 118 RX2 (TX2 4).2.1 (TX2 4).2.2.1 ∈ lw_gd := gd_of (in_t1 (List.mem_of_getElem? (i := 137) (by decide +kernel))) rfl
theorem lk_X2_37 : Cond.fieldLink RX2 37 RX2 (TX2 5).2.1 (TX2 5).2.2.1 ∈ lw_gd := gd_of (in_t1 (List.mem_of_getElem? (i := 138) (by decide +kernel))) rfl
theorem lk_X2_41 : Cond.fieldLink RX2 41 RX2 (TX2 6).2.1 (TX2 6).2.2.1 ∈ lw_gd := gd_of (in_t1 (List.mem_of_getElem? (i := 139) (by decide +kernel))) rfl
theorem lk_X2_56 : Cond.fieldLink RX2 56 RX2 (TX2 7).2.1 (TX2 7).2.2.1 ∈ lw_gd := gd_of (in_t1 (List.mem_of_getElem? (i := 140) (by decide +kernel))) rfl
theorem lk_X4_74 : Cond.fieldLink RX4 74 RX2 (TX2 7).2.1 (TX2 7).2.2.1 ∈ lw_gd := gd_of (in_t1 (List.mem_of_getElem? (i := 141) (by decide +kernel))) rfl
theorem lk_X2_66 : Cond.fieldLink RX2 66 RX2 (TX2 8).2.1 (TX2 8).2.2.1 ∈ lw_gd := gd_of (in_t1 (List.mem_of_getElem? (i := 142) (by decide +kernel))) rfl
theorem lk_X4_103 : Cond.fieldLink RX4 103 RX2 (TX2 8).2.1 (TX2 8).2.2.1 ∈ lw_gd := gd_of (in_t1 (List.mem_of_getElem? (i := 143) (by decide +kernel))) rfl
theorem ao_X2 : Cond.arrayOver (.object RX2) ∈ lw_tbl := in_t1 (List.mem_of_getElem? (i := 163) (by decide +kernel))
theorem lk_X4_12 : Cond.fieldLink RX4 12 RX4 (TX4 0).2.1 (TX4 0).2.2.1 ∈ lw_gd := gd_of (in_t1 (List.mem_of_getElem? (i := 164) (by decide +kernel))) rfl
theorem lk_X4_16 : Cond.fieldLink RX4 16 RX4 (TX4 1).2.1 (TX4 1).2.2.1 ∈ lw_gd := gd_of (in_t1 (List.mem_of_getElem? (i := 165) (by decide +kernel))) rfl
theorem lk_X4_19 : Cond.fieldLink RX4 19 RX4 (TX4 2).2.1 (TX4 2).2.2.1 ∈ lw_gd := gd_of (in_t1 (List.mem_of_getElem? (i := 166) (by decide +kernel))) rfl
theorem lk_X4_23 : Cond.fieldLink RX4 23 RX4 (TX4 3).2.1 (TX4 3).2.2.1 ∈ lw_gd := gd_of (in_t1 (List.mem_of_getElem? (i := 167) (by decide +kernel))) rfl
theorem lk_X4_26 : Cond.fieldLink RX4 26 RX4 (TX4 4).2.1 (TX4 4).2.2.1 ∈ lw_gd := gd_of (in_t1 (List.mem_of_getElem? (i := 168) (by decide +kernel))) rfl
theorem lk_X4_30 : Cond.fieldLink RX4 30 RX4 (TX4 5).2.1 (TX4 5).2.2.1 ∈ lw_gd := gd_of (in_t1 (List.mem_of_getElem? (i := 169) (by decide +kernel))) rfl
theorem lk_X4_191 : Cond.fieldLink RX4 191 RX4 (TX4 6).2.1 (TX4 6).2.2.1 ∈ lw_gd := gd_of (in_t1 (List.mem_of_getElem? (i := 170) (by decide +kernel))) rfl
theorem lk_X4_83 : Cond.fieldLink RX4 83 RX4 (TX4 7).2.1 (TX4 7).2.2.1 ∈ lw_gd := gd_of (in_t1 (List.mem_of_getElem? (i := 171) (by decide +kernel))) rfl
theorem ac_boolean : Cond.arrayClass .boolean ∈ lw_gd := gd_of (in_t1 (List.mem_of_getElem? (i := 189) (by decide +kernel))) rfl
theorem ac_char : Cond.arrayClass .char ∈ lw_gd := gd_of (in_t1 (List.mem_of_getElem? (i := 190) (by decide +kernel))) rfl
theorem ml_L_13 : Cond.methodLink RL 13 yX4_set ∈ lw_gd := gd_of (in_t1 (List.mem_of_getElem? (i := 191) (by decide +kernel))) rfl
theorem mi_X4_set : Cond.instanceMethod yX4_set ∈ lw_gd := gd_of (in_t1 (List.mem_of_getElem? (i := 192) (by decide +kernel))) rfl
theorem ms_X4_set : Cond.selects RX4 yX4_set yX4_set ∈ lw_gd := gd_of (in_t1 (List.mem_of_getElem? (i := 193) (by decide +kernel))) rfl
theorem mc_X4_set : Cond.code yX4_set cX4_set 4 (some .int) ∈ lw_gd := gd_of (in_t1 (List.mem_of_getElem? (i := 194) (by decide +kernel))) rfl
theorem lk_X4_34 : Cond.fieldLink RX4 34 RX4 "LEAST_VALUES" "[I" ∈ lw_gd := gd_of (in_t1 (List.mem_of_getElem? (i := 195) (by decide +kernel))) rfl
theorem ls_LEAST_VALUES : Cond.laysStatic RX4 "LEAST_VALUES" "[I" ∈ lw_tbl := in_t1 (List.mem_of_getElem? (i := 196) (by decide +kernel))
theorem lk_X4_38 : Cond.fieldLink RX4 38 RX4 "MOST_VALUES" "[I" ∈ lw_gd := gd_of (in_t1 (List.mem_of_getElem? (i := 197) (by decide +kernel))) rfl
theorem ls_MOST_VALUES : Cond.laysStatic RX4 "MOST_VALUES" "[I" ∈ lw_tbl := in_t1 (List.mem_of_getElem? (i := 198) (by decide +kernel))
theorem ml_X4_41 : Cond.methodLink RX4 41 yX4_remember ∈ lw_gd := gd_of (in_t1 (List.mem_of_getElem? (i := 199) (by decide +kernel))) rfl
theorem mi_X4_remember : Cond.instanceMethod yX4_remember ∈ lw_gd := gd_of (in_t1 (List.mem_of_getElem? (i := 201) (by decide +kernel))) rfl
theorem mc_X4_remember : Cond.code yX4_remember cX4_remember 3 none ∈ lw_gd := gd_of (in_t1 (List.mem_of_getElem? (i := 202) (by decide +kernel))) rfl
theorem ml_X4_194 : Cond.methodLink RX4 194 yX2_copyFrom ∈ lw_gd := gd_of (in_t1 (List.mem_of_getElem? (i := 203) (by decide +kernel))) rfl
theorem mi_X2_copyFrom : Cond.instanceMethod yX2_copyFrom ∈ lw_gd := gd_of (in_t1 (List.mem_of_getElem? (i := 204) (by decide +kernel))) rfl
theorem ms_X2_copyFrom : Cond.selects RX2 yX2_copyFrom yX2_copyFrom ∈ lw_gd := gd_of (in_t1 (List.mem_of_getElem? (i := 205) (by decide +kernel))) rfl
theorem mc_X2_copyFrom : Cond.code yX2_copyFrom cX2_copyFrom 3 none ∈ lw_gd := gd_of (in_t1 (List.mem_of_getElem? (i := 206) (by decide +kernel))) rfl
theorem ml_X2_46 : Cond.methodLink RX2 46 arraycopyName ∈ lw_gd := gd_of (in_t1 (List.mem_of_getElem? (i := 207) (by decide +kernel))) rfl
theorem mt_acopy : Cond.static arraycopyName ∈ lw_gd := gd_of (in_t1 (List.mem_of_getElem? (i := 208) (by decide +kernel))) rfl
theorem mn_acopy : Cond.native arraycopyName ∈ lw_gd := gd_of (in_t1 (List.mem_of_getElem? (i := 209) (by decide +kernel))) rfl
theorem ml_X2_52 : Cond.methodLink RX2 52 yX0_copyFrom ∈ lw_gd := gd_of (in_t1 (List.mem_of_getElem? (i := 210) (by decide +kernel))) rfl
theorem mi_X0_copyFrom : Cond.instanceMethod yX0_copyFrom ∈ lw_gd := gd_of (in_t1 (List.mem_of_getElem? (i := 211) (by decide +kernel))) rfl
theorem ms_X0_copyFrom : Cond.selects RX0 yX0_copyFrom yX0_copyFrom ∈ lw_gd := gd_of (in_t1 (List.mem_of_getElem? (i := 212) (by decide +kernel))) rfl
theorem mc_X0_copyFrom : Cond.code yX0_copyFrom cX0_copyFrom 2 none ∈ lw_gd := gd_of (in_t1 (List.mem_of_getElem? (i := 213) (by decide +kernel))) rfl
theorem ml_X2_60 : Cond.methodLink RX2 60 yX1_copyFrom ∈ lw_gd := gd_of (in_t1 (List.mem_of_getElem? (i := 214) (by decide +kernel))) rfl
theorem mi_X1_copyFrom : Cond.instanceMethod yX1_copyFrom ∈ lw_gd := gd_of (in_t1 (List.mem_of_getElem? (i := 215) (by decide +kernel))) rfl
theorem ms_X1_copyFrom : Cond.selects RX1 yX1_copyFrom yX1_copyFrom ∈ lw_gd := gd_of (in_t1 (List.mem_of_getElem? (i := 216) (by decide +kernel))) rfl
theorem mc_X1_copyFrom : Cond.code yX1_copyFrom cX1_copyFrom 2 none ∈ lw_gd := gd_of (in_t1 (List.mem_of_getElem? (i := 217) (by decide +kernel))) rfl
theorem ml_X2_63 : Cond.methodLink RX2 63 yX3_copyFrom ∈ lw_gd := gd_of (in_t1 (List.mem_of_getElem? (i := 218) (by decide +kernel))) rfl
theorem mi_X3_copyFrom : Cond.instanceMethod yX3_copyFrom ∈ lw_gd := gd_of (in_t1 (List.mem_of_getElem? (i := 219) (by decide +kernel))) rfl
theorem ms_X3_copyFrom : Cond.selects RX3 yX3_copyFrom yX3_copyFrom ∈ lw_gd := gd_of (in_t1 (List.mem_of_getElem? (i := 220) (by decide +kernel))) rfl
theorem mc_X3_copyFrom : Cond.code yX3_copyFrom cX3_copyFrom 2 none ∈ lw_gd := gd_of (in_t1 (List.mem_of_getElem? (i := 221) (by decide +kernel))) rfl
theorem ml_X3_19 : Cond.methodLink RX3 19 arraycopyName ∈ lw_gd := gd_of (in_t1 (List.mem_of_getElem? (i := 222) (by decide +kernel))) rfl
theorem ml_L_18 : Cond.methodLink RL 18 yX4_strike ∈ lw_gd := gd_of (in_t1 (List.mem_of_getElem? (i := 223) (by decide +kernel))) rfl
theorem mi_X4_strike : Cond.instanceMethod yX4_strike ∈ lw_gd := gd_of (in_t1 (List.mem_of_getElem? (i := 224) (by decide +kernel))) rfl
theorem ms_X4_strike : Cond.selects RX4 yX4_strike yX4_strike ∈ lw_gd := gd_of (in_t1 (List.mem_of_getElem? (i := 225) (by decide +kernel))) rfl
theorem mc_X4_strike : Cond.code yX4_strike cX4_strike 4 (some .int) ∈ lw_gd := gd_of (in_t1 (List.mem_of_getElem? (i := 226) (by decide +kernel))) rfl
theorem ml_X4_57 : Cond.methodLink RX4 57 yJ6_bitCount_0f7a4 ∈ lw_gd := gd_of (in_t1 (List.mem_of_getElem? (i := 227) (by decide +kernel))) rfl
theorem mt_J6_bitCount_0f7a4 : Cond.static yJ6_bitCount_0f7a4 ∈ lw_gd := gd_of (in_t1 (List.mem_of_getElem? (i := 228) (by decide +kernel))) rfl
theorem mc_J6_bitCount_0f7a4 : Cond.code yJ6_bitCount_0f7a4 cJ6_bitCount_0f7a4 1 (some .int) ∈ lw_gd := gd_of (in_t1 (List.mem_of_getElem? (i := 229) (by decide +kernel))) rfl
theorem lc_J6_265 : Cond.constant RJ6 265 1431655765 ∈ lw_gd := gd_of (in_t1 (List.mem_of_getElem? (i := 230) (by decide +kernel))) rfl
theorem lc_J6_266 : Cond.constant RJ6 266 858993459 ∈ lw_gd := gd_of (in_t1 (List.mem_of_getElem? (i := 231) (by decide +kernel))) rfl
theorem lc_J6_267 : Cond.constant RJ6 267 252645135 ∈ lw_gd := gd_of (in_t1 (List.mem_of_getElem? (i := 232) (by decide +kernel))) rfl
theorem ml_L_22 : Cond.methodLink RL 22 yX4_trade ∈ lw_gd := gd_of (in_t1 (List.mem_of_getElem? (i := 233) (by decide +kernel))) rfl
theorem mi_X4_trade : Cond.instanceMethod yX4_trade ∈ lw_gd := gd_of (in_t1 (List.mem_of_getElem? (i := 234) (by decide +kernel))) rfl
theorem ms_X4_trade : Cond.selects RX4 yX4_trade yX4_trade ∈ lw_gd := gd_of (in_t1 (List.mem_of_getElem? (i := 235) (by decide +kernel))) rfl
theorem mc_X4_trade : Cond.code yX4_trade cX4_trade 3 (some .int) ∈ lw_gd := gd_of (in_t1 (List.mem_of_getElem? (i := 236) (by decide +kernel))) rfl
theorem ml_X4_66 : Cond.methodLink RX4 66 yX2_tradeShifts ∈ lw_gd := gd_of (in_t1 (List.mem_of_getElem? (i := 237) (by decide +kernel))) rfl
theorem mi_X2_tradeShifts : Cond.instanceMethod yX2_tradeShifts ∈ lw_gd := gd_of (in_t1 (List.mem_of_getElem? (i := 238) (by decide +kernel))) rfl
theorem ms_X2_tradeShifts : Cond.selects RX2 yX2_tradeShifts yX2_tradeShifts ∈ lw_gd := gd_of (in_t1 (List.mem_of_getElem? (i := 239) (by decide +kernel))) rfl
theorem mc_X2_tradeShifts : Cond.code yX2_tradeShifts cX2_tradeShifts 4 none ∈ lw_gd := gd_of (in_t2 (List.mem_of_getElem? (i := 0) (by decide +kernel))) rfl
theorem ml_L_26 : Cond.methodLink RL 26 yX4_read ∈ lw_gd := gd_of (in_t2 (List.mem_of_getElem? (i := 1) (by decide +kernel))) rfl
theorem mi_X4_read : Cond.instanceMethod yX4_read ∈ lw_gd := gd_of (in_t2 (List.mem_of_getElem? (i := 2) (by decide +kernel))) rfl
theorem ms_X4_read : Cond.selects RX4 yX4_read yX4_read ∈ lw_gd := gd_of (in_t2 (List.mem_of_getElem? (i := 3) (by decide +kernel))) rfl
theorem mc_X4_read : Cond.code yX4_read cX4_read 1 (some .int) ∈ lw_gd := gd_of (in_t2 (List.mem_of_getElem? (i := 4) (by decide +kernel))) rfl
theorem ml_X4_70 : Cond.methodLink RX4 70 yX4_faultOfPad ∈ lw_gd := gd_of (in_t2 (List.mem_of_getElem? (i := 5) (by decide +kernel))) rfl
theorem mi_X4_faultOfPad : Cond.instanceMethod yX4_faultOfPad ∈ lw_gd := gd_of (in_t2 (List.mem_of_getElem? (i := 7) (by decide +kernel))) rfl
theorem mc_X4_faultOfPad : Cond.code yX4_faultOfPad cX4_faultOfPad 3 (some .int) ∈ lw_gd := gd_of (in_t2 (List.mem_of_getElem? (i := 8) (by decide +kernel))) rfl
theorem ml_X4_213 : Cond.methodLink RX4 213 yX4_stageBehind ∈ lw_gd := gd_of (in_t2 (List.mem_of_getElem? (i := 9) (by decide +kernel))) rfl
theorem mt_X4_stageBehind : Cond.static yX4_stageBehind ∈ lw_gd := gd_of (in_t2 (List.mem_of_getElem? (i := 10) (by decide +kernel))) rfl
theorem mc_X4_stageBehind : Cond.code yX4_stageBehind cX4_stageBehind 2 (some .int) ∈ lw_gd := gd_of (in_t2 (List.mem_of_getElem? (i := 11) (by decide +kernel))) rfl
theorem ml_X4_217 : Cond.methodLink RX4 217 yX4_isWord ∈ lw_gd := gd_of (in_t2 (List.mem_of_getElem? (i := 12) (by decide +kernel))) rfl
theorem mt_X4_isWord : Cond.static yX4_isWord ∈ lw_gd := gd_of (in_t2 (List.mem_of_getElem? (i := 13) (by decide +kernel))) rfl
theorem mc_X4_isWord : Cond.code yX4_isWord cX4_isWord 1 (some .boolean) ∈ lw_gd := gd_of (in_t2 (List.mem_of_getElem? (i := 14) (by decide +kernel))) rfl
theorem ml_X4_77 : Cond.methodLink RX4 77 yX4_lettersOfPad ∈ lw_gd := gd_of (in_t2 (List.mem_of_getElem? (i := 15) (by decide +kernel))) rfl
theorem mi_X4_lettersOfPad : Cond.instanceMethod yX4_lettersOfPad ∈ lw_gd := gd_of (in_t2 (List.mem_of_getElem? (i := 17) (by decide +kernel))) rfl
theorem mc_X4_lettersOfPad : Cond.code yX4_lettersOfPad cX4_lettersOfPad 3 (some .int) ∈ lw_gd := gd_of (in_t2 (List.mem_of_getElem? (i := 18) (by decide +kernel))) rfl
theorem ml_X4_80 : Cond.methodLink RX4 80 yX4_writeLettersOfPad ∈ lw_gd := gd_of (in_t2 (List.mem_of_getElem? (i := 19) (by decide +kernel))) rfl
theorem mi_X4_writeLettersOfPad : Cond.instanceMethod yX4_writeLettersOfPad ∈ lw_gd := gd_of (in_t2 (List.mem_of_getElem? (i := 21) (by decide +kernel))) rfl
theorem mc_X4_writeLettersOfPad : Cond.code yX4_writeLettersOfPad cX4_writeLettersOfPad 4 none ∈ lw_gd := gd_of (in_t2 (List.mem_of_getElem? (i := 22) (by decide +kernel))) rfl
theorem ml_X4_221 : Cond.methodLink RX4 221 yX1_addWord ∈ lw_gd := gd_of (in_t2 (List.mem_of_getElem? (i := 23) (by decide +kernel))) rfl
theorem mi_X1_addWord : Cond.instanceMethod yX1_addWord ∈ lw_gd := gd_of (in_t2 (List.mem_of_getElem? (i := 24) (by decide +kernel))) rfl
theorem ms_X1_addWord : Cond.selects RX1 yX1_addWord yX1_addWord ∈ lw_gd := gd_of (in_t2 (List.mem_of_getElem? (i := 25) (by decide +kernel))) rfl
theorem mc_X1_addWord : Cond.code yX1_addWord cX1_addWord 2 none ∈ lw_gd := gd_of (in_t2 (List.mem_of_getElem? (i := 26) (by decide +kernel))) rfl
theorem ml_X4_224 : Cond.methodLink RX4 224 yX2_sendNewest ∈ lw_gd := gd_of (in_t2 (List.mem_of_getElem? (i := 27) (by decide +kernel))) rfl
theorem mi_X2_sendNewest : Cond.instanceMethod yX2_sendNewest ∈ lw_gd := gd_of (in_t2 (List.mem_of_getElem? (i := 28) (by decide +kernel))) rfl
theorem ms_X2_sendNewest : Cond.selects RX2 yX2_sendNewest yX2_sendNewest ∈ lw_gd := gd_of (in_t2 (List.mem_of_getElem? (i := 29) (by decide +kernel))) rfl
theorem mc_X2_sendNewest : Cond.code yX2_sendNewest cX2_sendNewest 2 none ∈ lw_gd := gd_of (in_t2 (List.mem_of_getElem? (i := 30) (by decide +kernel))) rfl
theorem ml_X2_76 : Cond.methodLink RX2 76 yX3_append ∈ lw_gd := gd_of (in_t2 (List.mem_of_getElem? (i := 31) (by decide +kernel))) rfl
theorem mi_X3_append : Cond.instanceMethod yX3_append ∈ lw_gd := gd_of (in_t2 (List.mem_of_getElem? (i := 32) (by decide +kernel))) rfl
theorem ms_X3_append : Cond.selects RX3 yX3_append yX3_append ∈ lw_gd := gd_of (in_t2 (List.mem_of_getElem? (i := 33) (by decide +kernel))) rfl
theorem mc_X3_append : Cond.code yX3_append cX3_append 2 none ∈ lw_gd := gd_of (in_t2 (List.mem_of_getElem? (i := 34) (by decide +kernel))) rfl
theorem ml_X4_227 : Cond.methodLink RX4 227 yX2_beginLetter ∈ lw_gd := gd_of (in_t2 (List.mem_of_getElem? (i := 35) (by decide +kernel))) rfl
theorem mi_X2_beginLetter : Cond.instanceMethod yX2_beginLetter ∈ lw_gd := gd_of (in_t2 (List.mem_of_getElem? (i := 36) (by decide +kernel))) rfl
theorem ms_X2_beginLetter : Cond.selects RX2 yX2_beginLetter yX2_beginLetter ∈ lw_gd := gd_of (in_t2 (List.mem_of_getElem? (i := 37) (by decide +kernel))) rfl
theorem mc_X2_beginLetter : Cond.code yX2_beginLetter cX2_beginLetter 3 (some (FieldType.object "CensoredThreads$Letter")) ∈ lw_gd := gd_of (in_t2 (List.mem_of_getElem? (i := 38) (by decide +kernel))) rfl
theorem ml_X2_69 : Cond.methodLink RX2 69 yX1_begin ∈ lw_gd := gd_of (in_t2 (List.mem_of_getElem? (i := 39) (by decide +kernel))) rfl
theorem mi_X1_begin : Cond.instanceMethod yX1_begin ∈ lw_gd := gd_of (in_t2 (List.mem_of_getElem? (i := 40) (by decide +kernel))) rfl
theorem ms_X1_begin : Cond.selects RX1 yX1_begin yX1_begin ∈ lw_gd := gd_of (in_t2 (List.mem_of_getElem? (i := 41) (by decide +kernel))) rfl
theorem mc_X1_begin : Cond.code yX1_begin cX1_begin 3 none ∈ lw_gd := gd_of (in_t2 (List.mem_of_getElem? (i := 42) (by decide +kernel))) rfl
theorem ml_L_31 : Cond.methodLink RL 31 yX4_burn ∈ lw_gd := gd_of (in_t2 (List.mem_of_getElem? (i := 43) (by decide +kernel))) rfl
theorem mi_X4_burn : Cond.instanceMethod yX4_burn ∈ lw_gd := gd_of (in_t2 (List.mem_of_getElem? (i := 44) (by decide +kernel))) rfl
theorem ms_X4_burn : Cond.selects RX4 yX4_burn yX4_burn ∈ lw_gd := gd_of (in_t2 (List.mem_of_getElem? (i := 45) (by decide +kernel))) rfl
theorem mc_X4_burn : Cond.code yX4_burn cX4_burn 2 (some .int) ∈ lw_gd := gd_of (in_t2 (List.mem_of_getElem? (i := 46) (by decide +kernel))) rfl
theorem ml_X4_86 : Cond.methodLink RX4 86 yX2_hasLetter ∈ lw_gd := gd_of (in_t2 (List.mem_of_getElem? (i := 47) (by decide +kernel))) rfl
theorem mi_X2_hasLetter : Cond.instanceMethod yX2_hasLetter ∈ lw_gd := gd_of (in_t2 (List.mem_of_getElem? (i := 48) (by decide +kernel))) rfl
theorem ms_X2_hasLetter : Cond.selects RX2 yX2_hasLetter yX2_hasLetter ∈ lw_gd := gd_of (in_t2 (List.mem_of_getElem? (i := 49) (by decide +kernel))) rfl
theorem mc_X2_hasLetter : Cond.code yX2_hasLetter cX2_hasLetter 2 (some .boolean) ∈ lw_gd := gd_of (in_t2 (List.mem_of_getElem? (i := 50) (by decide +kernel))) rfl
theorem ml_X4_99 : Cond.methodLink RX4 99 yX2_burnWaiting ∈ lw_gd := gd_of (in_t2 (List.mem_of_getElem? (i := 51) (by decide +kernel))) rfl
theorem mi_X2_burnWaiting : Cond.instanceMethod yX2_burnWaiting ∈ lw_gd := gd_of (in_t2 (List.mem_of_getElem? (i := 52) (by decide +kernel))) rfl
theorem ms_X2_burnWaiting : Cond.selects RX2 yX2_burnWaiting yX2_burnWaiting ∈ lw_gd := gd_of (in_t2 (List.mem_of_getElem? (i := 53) (by decide +kernel))) rfl
theorem mc_X2_burnWaiting : Cond.code yX2_burnWaiting cX2_burnWaiting 2 none ∈ lw_gd := gd_of (in_t2 (List.mem_of_getElem? (i := 54) (by decide +kernel))) rfl
theorem ml_X2_83 : Cond.methodLink RX2 83 yX3_takeOut ∈ lw_gd := gd_of (in_t2 (List.mem_of_getElem? (i := 55) (by decide +kernel))) rfl
theorem mi_X3_takeOut : Cond.instanceMethod yX3_takeOut ∈ lw_gd := gd_of (in_t2 (List.mem_of_getElem? (i := 56) (by decide +kernel))) rfl
theorem ms_X3_takeOut : Cond.selects RX3 yX3_takeOut yX3_takeOut ∈ lw_gd := gd_of (in_t2 (List.mem_of_getElem? (i := 57) (by decide +kernel))) rfl
theorem mc_X3_takeOut : Cond.code yX3_takeOut cX3_takeOut 4 none ∈ lw_gd := gd_of (in_t2 (List.mem_of_getElem? (i := 58) (by decide +kernel))) rfl
theorem ml_L_36 : Cond.methodLink RL 36 yX4_pass ∈ lw_gd := gd_of (in_t2 (List.mem_of_getElem? (i := 59) (by decide +kernel))) rfl
theorem mi_X4_pass : Cond.instanceMethod yX4_pass ∈ lw_gd := gd_of (in_t2 (List.mem_of_getElem? (i := 60) (by decide +kernel))) rfl
theorem ms_X4_pass : Cond.selects RX4 yX4_pass yX4_pass ∈ lw_gd := gd_of (in_t2 (List.mem_of_getElem? (i := 61) (by decide +kernel))) rfl
theorem mc_X4_pass : Cond.code yX4_pass cX4_pass 2 (some .int) ∈ lw_gd := gd_of (in_t2 (List.mem_of_getElem? (i := 62) (by decide +kernel))) rfl
theorem ml_X4_109 : Cond.methodLink RX4 109 yX2_passWeeks ∈ lw_gd := gd_of (in_t2 (List.mem_of_getElem? (i := 63) (by decide +kernel))) rfl
theorem mi_X2_passWeeks : Cond.instanceMethod yX2_passWeeks ∈ lw_gd := gd_of (in_t2 (List.mem_of_getElem? (i := 64) (by decide +kernel))) rfl
theorem ms_X2_passWeeks : Cond.selects RX2 yX2_passWeeks yX2_passWeeks ∈ lw_gd := gd_of (in_t2 (List.mem_of_getElem? (i := 65) (by decide +kernel))) rfl
theorem mc_X2_passWeeks : Cond.code yX2_passWeeks cX2_passWeeks 4 (some .int) ∈ lw_gd := gd_of (in_t2 (List.mem_of_getElem? (i := 66) (by decide +kernel))) rfl
theorem ml_X2_145 : Cond.methodLink RX2 145 yX2_passWeek ∈ lw_gd := gd_of (in_t2 (List.mem_of_getElem? (i := 67) (by decide +kernel))) rfl
theorem mi_X2_passWeek : Cond.instanceMethod yX2_passWeek ∈ lw_gd := gd_of (in_t2 (List.mem_of_getElem? (i := 68) (by decide +kernel))) rfl
theorem ms_X2_passWeek : Cond.selects RX2 yX2_passWeek yX2_passWeek ∈ lw_gd := gd_of (in_t2 (List.mem_of_getElem? (i := 69) (by decide +kernel))) rfl
theorem mc_X2_passWeek : Cond.code yX2_passWeek cX2_passWeek 3 (some .int) ∈ lw_gd := gd_of (in_t2 (List.mem_of_getElem? (i := 70) (by decide +kernel))) rfl
theorem ml_X2_148 : Cond.methodLink RX2 148 yX2_judgeWeek ∈ lw_gd := gd_of (in_t2 (List.mem_of_getElem? (i := 71) (by decide +kernel))) rfl
theorem mi_X2_judgeWeek : Cond.instanceMethod yX2_judgeWeek ∈ lw_gd := gd_of (in_t2 (List.mem_of_getElem? (i := 72) (by decide +kernel))) rfl
theorem ms_X2_judgeWeek : Cond.selects RX2 yX2_judgeWeek yX2_judgeWeek ∈ lw_gd := gd_of (in_t2 (List.mem_of_getElem? (i := 73) (by decide +kernel))) rfl
theorem mc_X2_judgeWeek : Cond.code yX2_judgeWeek cX2_judgeWeek 2 none ∈ lw_gd := gd_of (in_t2 (List.mem_of_getElem? (i := 74) (by decide +kernel))) rfl
theorem ml_X2_102 : Cond.methodLink RX2 102 yX2_findHeads ∈ lw_gd := gd_of (in_t2 (List.mem_of_getElem? (i := 75) (by decide +kernel))) rfl
theorem mi_X2_findHeads : Cond.instanceMethod yX2_findHeads ∈ lw_gd := gd_of (in_t2 (List.mem_of_getElem? (i := 76) (by decide +kernel))) rfl
theorem ms_X2_findHeads : Cond.selects RX2 yX2_findHeads yX2_findHeads ∈ lw_gd := gd_of (in_t2 (List.mem_of_getElem? (i := 77) (by decide +kernel))) rfl
theorem mc_X2_findHeads : Cond.code yX2_findHeads cX2_findHeads 2 none ∈ lw_gd := gd_of (in_t2 (List.mem_of_getElem? (i := 78) (by decide +kernel))) rfl
theorem ml_X2_108 : Cond.methodLink RX2 108 yX2_findHeadsIn ∈ lw_gd := gd_of (in_t2 (List.mem_of_getElem? (i := 79) (by decide +kernel))) rfl
theorem mi_X2_findHeadsIn : Cond.instanceMethod yX2_findHeadsIn ∈ lw_gd := gd_of (in_t2 (List.mem_of_getElem? (i := 80) (by decide +kernel))) rfl
theorem ms_X2_findHeadsIn : Cond.selects RX2 yX2_findHeadsIn yX2_findHeadsIn ∈ lw_gd := gd_of (in_t2 (List.mem_of_getElem? (i := 81) (by decide +kernel))) rfl
theorem mc_X2_findHeadsIn : Cond.code yX2_findHeadsIn cX2_findHeadsIn 5 none ∈ lw_gd := gd_of (in_t2 (List.mem_of_getElem? (i := 82) (by decide +kernel))) rfl
theorem ml_X2_117 : Cond.methodLink RX2 117 yX2_judgeRow ∈ lw_gd := gd_of (in_t2 (List.mem_of_getElem? (i := 83) (by decide +kernel))) rfl
theorem mi_X2_judgeRow : Cond.instanceMethod yX2_judgeRow ∈ lw_gd := gd_of (in_t2 (List.mem_of_getElem? (i := 84) (by decide +kernel))) rfl
theorem ms_X2_judgeRow : Cond.selects RX2 yX2_judgeRow yX2_judgeRow ∈ lw_gd := gd_of (in_t2 (List.mem_of_getElem? (i := 85) (by decide +kernel))) rfl
theorem mc_X2_judgeRow : Cond.code yX2_judgeRow cX2_judgeRow 8 none ∈ lw_gd := gd_of (in_t2 (List.mem_of_getElem? (i := 86) (by decide +kernel))) rfl
theorem ml_X2_120 : Cond.methodLink RX2 120 yX2_censorNumber ∈ lw_gd := gd_of (in_t2 (List.mem_of_getElem? (i := 87) (by decide +kernel))) rfl
theorem mi_X2_censorNumber : Cond.instanceMethod yX2_censorNumber ∈ lw_gd := gd_of (in_t2 (List.mem_of_getElem? (i := 88) (by decide +kernel))) rfl
theorem ms_X2_censorNumber : Cond.selects RX2 yX2_censorNumber yX2_censorNumber ∈ lw_gd := gd_of (in_t2 (List.mem_of_getElem? (i := 89) (by decide +kernel))) rfl
theorem mc_X2_censorNumber : Cond.code yX2_censorNumber cX2_censorNumber 3 (some .int) ∈ lw_gd := gd_of (in_t2 (List.mem_of_getElem? (i := 90) (by decide +kernel))) rfl
theorem ml_X2_129 : Cond.methodLink RX2 129 yX2_fateIfRead ∈ lw_gd := gd_of (in_t2 (List.mem_of_getElem? (i := 91) (by decide +kernel))) rfl
theorem mi_X2_fateIfRead : Cond.instanceMethod yX2_fateIfRead ∈ lw_gd := gd_of (in_t2 (List.mem_of_getElem? (i := 92) (by decide +kernel))) rfl
theorem ms_X2_fateIfRead : Cond.selects RX2 yX2_fateIfRead yX2_fateIfRead ∈ lw_gd := gd_of (in_t2 (List.mem_of_getElem? (i := 93) (by decide +kernel))) rfl
theorem mc_X2_fateIfRead : Cond.code yX2_fateIfRead cX2_fateIfRead 3 (some .int) ∈ lw_gd := gd_of (in_t2 (List.mem_of_getElem? (i := 94) (by decide +kernel))) rfl
theorem ml_X2_133 : Cond.methodLink RX2 133 yX1_placesOf ∈ lw_gd := gd_of (in_t2 (List.mem_of_getElem? (i := 95) (by decide +kernel))) rfl
theorem mi_X1_placesOf : Cond.instanceMethod yX1_placesOf ∈ lw_gd := gd_of (in_t2 (List.mem_of_getElem? (i := 96) (by decide +kernel))) rfl
theorem ms_X1_placesOf : Cond.selects RX1 yX1_placesOf yX1_placesOf ∈ lw_gd := gd_of (in_t2 (List.mem_of_getElem? (i := 97) (by decide +kernel))) rfl
theorem mc_X1_placesOf : Cond.code yX1_placesOf cX1_placesOf 7 (some .int) ∈ lw_gd := gd_of (in_t2 (List.mem_of_getElem? (i := 98) (by decide +kernel))) rfl
theorem lc_X1_49 : Cond.constantLong RX1 49 255 ∈ lw_gd := gd_of (in_t2 (List.mem_of_getElem? (i := 99) (by decide +kernel))) rfl
theorem ml_X2_137 : Cond.methodLink RX2 137 yJ6_bitCount_0f7a4 ∈ lw_gd := gd_of (in_t2 (List.mem_of_getElem? (i := 100) (by decide +kernel))) rfl
theorem ml_X2_151 : Cond.methodLink RX2 151 yX2_readRow ∈ lw_gd := gd_of (in_t2 (List.mem_of_getElem? (i := 101) (by decide +kernel))) rfl
theorem mi_X2_readRow : Cond.instanceMethod yX2_readRow ∈ lw_gd := gd_of (in_t2 (List.mem_of_getElem? (i := 102) (by decide +kernel))) rfl
theorem ms_X2_readRow : Cond.selects RX2 yX2_readRow yX2_readRow ∈ lw_gd := gd_of (in_t2 (List.mem_of_getElem? (i := 103) (by decide +kernel))) rfl
theorem mc_X2_readRow : Cond.code yX2_readRow cX2_readRow 7 (some .int) ∈ lw_gd := gd_of (in_t2 (List.mem_of_getElem? (i := 104) (by decide +kernel))) rfl
theorem ml_X2_154 : Cond.methodLink RX2 154 yX2_letThrough ∈ lw_gd := gd_of (in_t2 (List.mem_of_getElem? (i := 105) (by decide +kernel))) rfl
theorem mi_X2_letThrough : Cond.instanceMethod yX2_letThrough ∈ lw_gd := gd_of (in_t2 (List.mem_of_getElem? (i := 106) (by decide +kernel))) rfl
theorem ms_X2_letThrough : Cond.selects RX2 yX2_letThrough yX2_letThrough ∈ lw_gd := gd_of (in_t2 (List.mem_of_getElem? (i := 107) (by decide +kernel))) rfl
theorem mc_X2_letThrough : Cond.code yX2_letThrough cX2_letThrough 3 none ∈ lw_gd := gd_of (in_t2 (List.mem_of_getElem? (i := 108) (by decide +kernel))) rfl
theorem ml_X2_98 : Cond.methodLink RX2 98 yX1_struckCount ∈ lw_gd := gd_of (in_t2 (List.mem_of_getElem? (i := 109) (by decide +kernel))) rfl
theorem mi_X1_struckCount : Cond.instanceMethod yX1_struckCount ∈ lw_gd := gd_of (in_t2 (List.mem_of_getElem? (i := 110) (by decide +kernel))) rfl
theorem ms_X1_struckCount : Cond.selects RX1 yX1_struckCount yX1_struckCount ∈ lw_gd := gd_of (in_t2 (List.mem_of_getElem? (i := 111) (by decide +kernel))) rfl
theorem mc_X1_struckCount : Cond.code yX1_struckCount cX1_struckCount 1 (some .int) ∈ lw_gd := gd_of (in_t2 (List.mem_of_getElem? (i := 112) (by decide +kernel))) rfl
theorem ml_X1_43 : Cond.methodLink RX1 43 yJ6_bitCount_0f7a4 ∈ lw_gd := gd_of (in_t2 (List.mem_of_getElem? (i := 113) (by decide +kernel))) rfl
theorem ml_X2_158 : Cond.methodLink RX2 158 yX2_turnBack ∈ lw_gd := gd_of (in_t2 (List.mem_of_getElem? (i := 114) (by decide +kernel))) rfl
theorem mi_X2_turnBack : Cond.instanceMethod yX2_turnBack ∈ lw_gd := gd_of (in_t2 (List.mem_of_getElem? (i := 115) (by decide +kernel))) rfl
theorem ms_X2_turnBack : Cond.selects RX2 yX2_turnBack yX2_turnBack ∈ lw_gd := gd_of (in_t2 (List.mem_of_getElem? (i := 116) (by decide +kernel))) rfl
theorem mc_X2_turnBack : Cond.code yX2_turnBack cX2_turnBack 3 none ∈ lw_gd := gd_of (in_t2 (List.mem_of_getElem? (i := 117) (by decide +kernel))) rfl
theorem ml_X2_161 : Cond.methodLink RX2 161 yX2_appendIfFate ∈ lw_gd := gd_of (in_t2 (List.mem_of_getElem? (i := 118) (by decide +kernel))) rfl
theorem mi_X2_appendIfFate : Cond.instanceMethod yX2_appendIfFate ∈ lw_gd := gd_of (in_t2 (List.mem_of_getElem? (i := 119) (by decide +kernel))) rfl
theorem ms_X2_appendIfFate : Cond.selects RX2 yX2_appendIfFate yX2_appendIfFate ∈ lw_gd := gd_of (in_t2 (List.mem_of_getElem? (i := 120) (by decide +kernel))) rfl
theorem mc_X2_appendIfFate : Cond.code yX2_appendIfFate cX2_appendIfFate 6 none ∈ lw_gd := gd_of (in_t2 (List.mem_of_getElem? (i := 121) (by decide +kernel))) rfl
theorem ml_L_40 : Cond.methodLink RL 40 yX4_letter ∈ lw_gd := gd_of (in_t2 (List.mem_of_getElem? (i := 122) (by decide +kernel))) rfl
theorem mi_X4_letter : Cond.instanceMethod yX4_letter ∈ lw_gd := gd_of (in_t2 (List.mem_of_getElem? (i := 123) (by decide +kernel))) rfl
theorem ms_X4_letter : Cond.selects RX4 yX4_letter yX4_letter ∈ lw_gd := gd_of (in_t2 (List.mem_of_getElem? (i := 124) (by decide +kernel))) rfl
theorem mc_X4_letter : Cond.code yX4_letter cX4_letter 4 (some .int) ∈ lw_gd := gd_of (in_t2 (List.mem_of_getElem? (i := 125) (by decide +kernel))) rfl
theorem ml_X4_122 : Cond.methodLink RX4 122 yX3_placeOf ∈ lw_gd := gd_of (in_t2 (List.mem_of_getElem? (i := 126) (by decide +kernel))) rfl
theorem mi_X3_placeOf : Cond.instanceMethod yX3_placeOf ∈ lw_gd := gd_of (in_t2 (List.mem_of_getElem? (i := 127) (by decide +kernel))) rfl
theorem ms_X3_placeOf : Cond.selects RX3 yX3_placeOf yX3_placeOf ∈ lw_gd := gd_of (in_t2 (List.mem_of_getElem? (i := 128) (by decide +kernel))) rfl
theorem mc_X3_placeOf : Cond.code yX3_placeOf cX3_placeOf 3 (some .int) ∈ lw_gd := gd_of (in_t2 (List.mem_of_getElem? (i := 129) (by decide +kernel))) rfl
theorem ml_X4_130 : Cond.methodLink RX4 130 yX1_struckCount ∈ lw_gd := gd_of (in_t2 (List.mem_of_getElem? (i := 130) (by decide +kernel))) rfl
theorem ml_X4_139 : Cond.methodLink RX4 139 yX2_aheadOf ∈ lw_gd := gd_of (in_t2 (List.mem_of_getElem? (i := 131) (by decide +kernel))) rfl
theorem mi_X2_aheadOf : Cond.instanceMethod yX2_aheadOf ∈ lw_gd := gd_of (in_t2 (List.mem_of_getElem? (i := 132) (by decide +kernel))) rfl
theorem ms_X2_aheadOf : Cond.selects RX2 yX2_aheadOf yX2_aheadOf ∈ lw_gd := gd_of (in_t2 (List.mem_of_getElem? (i := 133) (by decide +kernel))) rfl
theorem mc_X2_aheadOf : Cond.code yX2_aheadOf cX2_aheadOf 3 (some .int) ∈ lw_gd := gd_of (in_t2 (List.mem_of_getElem? (i := 134) (by decide +kernel))) rfl
theorem ml_L_44 : Cond.methodLink RL 44 yX4_word ∈ lw_gd := gd_of (in_t2 (List.mem_of_getElem? (i := 135) (by decide +kernel))) rfl
theorem mi_X4_word : Cond.instanceMethod yX4_word ∈ lw_gd := gd_of (in_t2 (List.mem_of_getElem? (i := 136) (by decide +kernel))) rfl
theorem ms_X4_word : Cond.selects RX4 yX4_word yX4_word ∈ lw_gd := gd_of (in_t2 (List.mem_of_getElem? (i := 137) (by decide +kernel))) rfl
theorem mc_X4_word : Cond.code yX4_word cX4_word 4 (some .int) ∈ lw_gd := gd_of (in_t2 (List.mem_of_getElem? (i := 138) (by decide +kernel))) rfl
theorem ml_X4_145 : Cond.methodLink RX4 145 yX1_isStruckAt ∈ lw_gd := gd_of (in_t2 (List.mem_of_getElem? (i := 139) (by decide +kernel))) rfl
theorem mi_X1_isStruckAt : Cond.instanceMethod yX1_isStruckAt ∈ lw_gd := gd_of (in_t2 (List.mem_of_getElem? (i := 140) (by decide +kernel))) rfl
theorem ms_X1_isStruckAt : Cond.selects RX1 yX1_isStruckAt yX1_isStruckAt ∈ lw_gd := gd_of (in_t2 (List.mem_of_getElem? (i := 141) (by decide +kernel))) rfl
theorem mc_X1_isStruckAt : Cond.code yX1_isStruckAt cX1_isStruckAt 2 (some .boolean) ∈ lw_gd := gd_of (in_t2 (List.mem_of_getElem? (i := 142) (by decide +kernel))) rfl
theorem ml_X4_148 : Cond.methodLink RX4 148 yX1_codeAt ∈ lw_gd := gd_of (in_t2 (List.mem_of_getElem? (i := 143) (by decide +kernel))) rfl
theorem mi_X1_codeAt : Cond.instanceMethod yX1_codeAt ∈ lw_gd := gd_of (in_t2 (List.mem_of_getElem? (i := 144) (by decide +kernel))) rfl
theorem ms_X1_codeAt : Cond.selects RX1 yX1_codeAt yX1_codeAt ∈ lw_gd := gd_of (in_t2 (List.mem_of_getElem? (i := 145) (by decide +kernel))) rfl
theorem mc_X1_codeAt : Cond.code yX1_codeAt cX1_codeAt 2 (some .int) ∈ lw_gd := gd_of (in_t2 (List.mem_of_getElem? (i := 146) (by decide +kernel))) rfl
theorem ml_L_48 : Cond.methodLink RL 48 yX4_why ∈ lw_gd := gd_of (in_t2 (List.mem_of_getElem? (i := 147) (by decide +kernel))) rfl
theorem mi_X4_why : Cond.instanceMethod yX4_why ∈ lw_gd := gd_of (in_t2 (List.mem_of_getElem? (i := 148) (by decide +kernel))) rfl
theorem ms_X4_why : Cond.selects RX4 yX4_why yX4_why ∈ lw_gd := gd_of (in_t2 (List.mem_of_getElem? (i := 149) (by decide +kernel))) rfl
theorem mc_X4_why : Cond.code yX4_why cX4_why 3 (some .int) ∈ lw_gd := gd_of (in_t2 (List.mem_of_getElem? (i := 150) (by decide +kernel))) rfl
theorem ml_X4_151 : Cond.methodLink RX4 151 yX2_judgeWeek ∈ lw_gd := gd_of (in_t2 (List.mem_of_getElem? (i := 151) (by decide +kernel))) rfl
theorem ml_L_52 : Cond.methodLink RL 52 yX4_censor ∈ lw_gd := gd_of (in_t2 (List.mem_of_getElem? (i := 152) (by decide +kernel))) rfl
theorem mi_X4_censor : Cond.instanceMethod yX4_censor ∈ lw_gd := gd_of (in_t2 (List.mem_of_getElem? (i := 153) (by decide +kernel))) rfl
theorem ms_X4_censor : Cond.selects RX4 yX4_censor yX4_censor ∈ lw_gd := gd_of (in_t2 (List.mem_of_getElem? (i := 154) (by decide +kernel))) rfl
theorem mc_X4_censor : Cond.code yX4_censor cX4_censor 4 (some .int) ∈ lw_gd := gd_of (in_t2 (List.mem_of_getElem? (i := 155) (by decide +kernel))) rfl
theorem ml_X4_157 : Cond.methodLink RX4 157 yX2_shiftsOf ∈ lw_gd := gd_of (in_t2 (List.mem_of_getElem? (i := 156) (by decide +kernel))) rfl
theorem mi_X2_shiftsOf : Cond.instanceMethod yX2_shiftsOf ∈ lw_gd := gd_of (in_t2 (List.mem_of_getElem? (i := 157) (by decide +kernel))) rfl
theorem ms_X2_shiftsOf : Cond.selects RX2 yX2_shiftsOf yX2_shiftsOf ∈ lw_gd := gd_of (in_t2 (List.mem_of_getElem? (i := 158) (by decide +kernel))) rfl
theorem mc_X2_shiftsOf : Cond.code yX2_shiftsOf cX2_shiftsOf 4 (some .int) ∈ lw_gd := gd_of (in_t2 (List.mem_of_getElem? (i := 159) (by decide +kernel))) rfl
theorem ml_L_56 : Cond.methodLink RL 56 yX4_onShift ∈ lw_gd := gd_of (in_t2 (List.mem_of_getElem? (i := 160) (by decide +kernel))) rfl
theorem mi_X4_onShift : Cond.instanceMethod yX4_onShift ∈ lw_gd := gd_of (in_t2 (List.mem_of_getElem? (i := 161) (by decide +kernel))) rfl
theorem ms_X4_onShift : Cond.selects RX4 yX4_onShift yX4_onShift ∈ lw_gd := gd_of (in_t2 (List.mem_of_getElem? (i := 162) (by decide +kernel))) rfl
theorem mc_X4_onShift : Cond.code yX4_onShift cX4_onShift 3 (some .int) ∈ lw_gd := gd_of (in_t2 (List.mem_of_getElem? (i := 163) (by decide +kernel))) rfl
theorem ml_X4_169 : Cond.methodLink RX4 169 yX2_censorNumber ∈ lw_gd := gd_of (in_t2 (List.mem_of_getElem? (i := 164) (by decide +kernel))) rfl
theorem ml_L_60 : Cond.methodLink RL 60 yX4_count ∈ lw_gd := gd_of (in_t2 (List.mem_of_getElem? (i := 165) (by decide +kernel))) rfl
theorem mi_X4_count : Cond.instanceMethod yX4_count ∈ lw_gd := gd_of (in_t2 (List.mem_of_getElem? (i := 166) (by decide +kernel))) rfl
theorem ms_X4_count : Cond.selects RX4 yX4_count yX4_count ∈ lw_gd := gd_of (in_t2 (List.mem_of_getElem? (i := 167) (by decide +kernel))) rfl
theorem mc_X4_count : Cond.code yX4_count cX4_count 2 (some .int) ∈ lw_gd := gd_of (in_t2 (List.mem_of_getElem? (i := 168) (by decide +kernel))) rfl
theorem ml_X4_173 : Cond.methodLink RX4 173 yX2_lettersThatAre ∈ lw_gd := gd_of (in_t2 (List.mem_of_getElem? (i := 169) (by decide +kernel))) rfl
theorem mi_X2_lettersThatAre : Cond.instanceMethod yX2_lettersThatAre ∈ lw_gd := gd_of (in_t2 (List.mem_of_getElem? (i := 170) (by decide +kernel))) rfl
theorem ms_X2_lettersThatAre : Cond.selects RX2 yX2_lettersThatAre yX2_lettersThatAre ∈ lw_gd := gd_of (in_t2 (List.mem_of_getElem? (i := 171) (by decide +kernel))) rfl
theorem mc_X2_lettersThatAre : Cond.code yX2_lettersThatAre cX2_lettersThatAre 4 (some .int) ∈ lw_gd := gd_of (in_t2 (List.mem_of_getElem? (i := 172) (by decide +kernel))) rfl
theorem ml_X4_179 : Cond.methodLink RX4 179 yX2_allDelays ∈ lw_gd := gd_of (in_t2 (List.mem_of_getElem? (i := 173) (by decide +kernel))) rfl
theorem mi_X2_allDelays : Cond.instanceMethod yX2_allDelays ∈ lw_gd := gd_of (in_t2 (List.mem_of_getElem? (i := 174) (by decide +kernel))) rfl
theorem ms_X2_allDelays : Cond.selects RX2 yX2_allDelays yX2_allDelays ∈ lw_gd := gd_of (in_t2 (List.mem_of_getElem? (i := 175) (by decide +kernel))) rfl
theorem mc_X2_allDelays : Cond.code yX2_allDelays cX2_allDelays 3 (some .int) ∈ lw_gd := gd_of (in_t2 (List.mem_of_getElem? (i := 176) (by decide +kernel))) rfl
theorem ml_X4_182 : Cond.methodLink RX4 182 yX2_longestDelay ∈ lw_gd := gd_of (in_t2 (List.mem_of_getElem? (i := 177) (by decide +kernel))) rfl
theorem mi_X2_longestDelay : Cond.instanceMethod yX2_longestDelay ∈ lw_gd := gd_of (in_t2 (List.mem_of_getElem? (i := 178) (by decide +kernel))) rfl
theorem ms_X2_longestDelay : Cond.selects RX2 yX2_longestDelay yX2_longestDelay ∈ lw_gd := gd_of (in_t2 (List.mem_of_getElem? (i := 179) (by decide +kernel))) rfl
theorem mc_X2_longestDelay : Cond.code yX2_longestDelay cX2_longestDelay 3 (some .int) ∈ lw_gd := gd_of (in_t2 (List.mem_of_getElem? (i := 180) (by decide +kernel))) rfl
theorem ml_X2_92 : Cond.methodLink RX2 92 Lib.Math.max.name ∈ lw_gd := gd_of (in_t2 (List.mem_of_getElem? (i := 181) (by decide +kernel))) rfl
theorem mt_max : Cond.static Lib.Math.max.name ∈ lw_gd := gd_of (in_t2 (List.mem_of_getElem? (i := 182) (by decide +kernel))) rfl
theorem mc_max : Cond.code Lib.Math.max.name Lib.Math.max.code 2 (some .int) ∈ lw_gd := gd_of (in_t2 (List.mem_of_getElem? (i := 183) (by decide +kernel))) rfl
theorem ml_X4_185 : Cond.methodLink RX4 185 yX2_wordsStruckInLetters ∈ lw_gd := gd_of (in_t2 (List.mem_of_getElem? (i := 184) (by decide +kernel))) rfl
theorem mi_X2_wordsStruckInLetters : Cond.instanceMethod yX2_wordsStruckInLetters ∈ lw_gd := gd_of (in_t2 (List.mem_of_getElem? (i := 185) (by decide +kernel))) rfl
theorem ms_X2_wordsStruckInLetters : Cond.selects RX2 yX2_wordsStruckInLetters yX2_wordsStruckInLetters ∈ lw_gd := gd_of (in_t2 (List.mem_of_getElem? (i := 186) (by decide +kernel))) rfl
theorem mc_X2_wordsStruckInLetters : Cond.code yX2_wordsStruckInLetters cX2_wordsStruckInLetters 3 (some .int) ∈ lw_gd := gd_of (in_t2 (List.mem_of_getElem? (i := 187) (by decide +kernel))) rfl
theorem ml_X4_188 : Cond.methodLink RX4 188 yX2_threadsThatWait ∈ lw_gd := gd_of (in_t2 (List.mem_of_getElem? (i := 188) (by decide +kernel))) rfl
theorem mi_X2_threadsThatWait : Cond.instanceMethod yX2_threadsThatWait ∈ lw_gd := gd_of (in_t2 (List.mem_of_getElem? (i := 189) (by decide +kernel))) rfl
theorem ms_X2_threadsThatWait : Cond.selects RX2 yX2_threadsThatWait yX2_threadsThatWait ∈ lw_gd := gd_of (in_t2 (List.mem_of_getElem? (i := 190) (by decide +kernel))) rfl
theorem mc_X2_threadsThatWait : Cond.code yX2_threadsThatWait cX2_threadsThatWait 3 (some .int) ∈ lw_gd := gd_of (in_t2 (List.mem_of_getElem? (i := 191) (by decide +kernel))) rfl
theorem ml_L_64 : Cond.methodLink RL 64 yX4_untilCome ∈ lw_gd := gd_of (in_t2 (List.mem_of_getElem? (i := 192) (by decide +kernel))) rfl
theorem mi_X4_untilCome : Cond.instanceMethod yX4_untilCome ∈ lw_gd := gd_of (in_t2 (List.mem_of_getElem? (i := 193) (by decide +kernel))) rfl
theorem ms_X4_untilCome : Cond.selects RX4 yX4_untilCome yX4_untilCome ∈ lw_gd := gd_of (in_t2 (List.mem_of_getElem? (i := 194) (by decide +kernel))) rfl
theorem mc_X4_untilCome : Cond.code yX4_untilCome cX4_untilCome 4 (some .int) ∈ lw_gd := gd_of (in_t2 (List.mem_of_getElem? (i := 195) (by decide +kernel))) rfl
theorem ml_X4_198 : Cond.methodLink RX4 198 yX2_passWeek ∈ lw_gd := gd_of (in_t2 (List.mem_of_getElem? (i := 196) (by decide +kernel))) rfl
theorem ml_L_68 : Cond.methodLink RL 68 yX4_ifPassed ∈ lw_gd := gd_of (in_t2 (List.mem_of_getElem? (i := 197) (by decide +kernel))) rfl
theorem mi_X4_ifPassed : Cond.instanceMethod yX4_ifPassed ∈ lw_gd := gd_of (in_t2 (List.mem_of_getElem? (i := 198) (by decide +kernel))) rfl
theorem ms_X4_ifPassed : Cond.selects RX4 yX4_ifPassed yX4_ifPassed ∈ lw_gd := gd_of (in_t2 (List.mem_of_getElem? (i := 199) (by decide +kernel))) rfl
theorem mc_X4_ifPassed : Cond.code yX4_ifPassed cX4_ifPassed 4 (some .int) ∈ lw_gd := gd_of (in_t2 (List.mem_of_getElem? (i := 200) (by decide +kernel))) rfl
theorem ml_L_72 : Cond.methodLink RL 72 yX4_bestTrade ∈ lw_gd := gd_of (in_t2 (List.mem_of_getElem? (i := 201) (by decide +kernel))) rfl
theorem mi_X4_bestTrade : Cond.instanceMethod yX4_bestTrade ∈ lw_gd := gd_of (in_t2 (List.mem_of_getElem? (i := 202) (by decide +kernel))) rfl
theorem ms_X4_bestTrade : Cond.selects RX4 yX4_bestTrade yX4_bestTrade ∈ lw_gd := gd_of (in_t2 (List.mem_of_getElem? (i := 203) (by decide +kernel))) rfl
theorem mc_X4_bestTrade : Cond.code yX4_bestTrade cX4_bestTrade 6 (some .int) ∈ lw_gd := gd_of (in_t2 (List.mem_of_getElem? (i := 204) (by decide +kernel))) rfl
theorem ml_L_76 : Cond.methodLink RL 76 yX4_leastLimit ∈ lw_gd := gd_of (in_t2 (List.mem_of_getElem? (i := 205) (by decide +kernel))) rfl
theorem mi_X4_leastLimit : Cond.instanceMethod yX4_leastLimit ∈ lw_gd := gd_of (in_t2 (List.mem_of_getElem? (i := 206) (by decide +kernel))) rfl
theorem ms_X4_leastLimit : Cond.selects RX4 yX4_leastLimit yX4_leastLimit ∈ lw_gd := gd_of (in_t2 (List.mem_of_getElem? (i := 207) (by decide +kernel))) rfl
theorem mc_X4_leastLimit : Cond.code yX4_leastLimit cX4_leastLimit 2 (some .int) ∈ lw_gd := gd_of (in_t2 (List.mem_of_getElem? (i := 208) (by decide +kernel))) rfl
theorem ml_X4_201 : Cond.methodLink RX4 201 yX4_turnsBackWith ∈ lw_gd := gd_of (in_t2 (List.mem_of_getElem? (i := 209) (by decide +kernel))) rfl
theorem mi_X4_turnsBackWith : Cond.instanceMethod yX4_turnsBackWith ∈ lw_gd := gd_of (in_t2 (List.mem_of_getElem? (i := 211) (by decide +kernel))) rfl
theorem mc_X4_turnsBackWith : Cond.code yX4_turnsBackWith cX4_turnsBackWith 4 (some .boolean) ∈ lw_gd := gd_of (in_t2 (List.mem_of_getElem? (i := 212) (by decide +kernel))) rfl
theorem ml_X4_204 : Cond.methodLink RX4 204 yX2_lettersTurnedByAll ∈ lw_gd := gd_of (in_t2 (List.mem_of_getElem? (i := 213) (by decide +kernel))) rfl
theorem mi_X2_lettersTurnedByAll : Cond.instanceMethod yX2_lettersTurnedByAll ∈ lw_gd := gd_of (in_t2 (List.mem_of_getElem? (i := 214) (by decide +kernel))) rfl
theorem ms_X2_lettersTurnedByAll : Cond.selects RX2 yX2_lettersTurnedByAll yX2_lettersTurnedByAll ∈ lw_gd := gd_of (in_t2 (List.mem_of_getElem? (i := 215) (by decide +kernel))) rfl
theorem mc_X2_lettersTurnedByAll : Cond.code yX2_lettersTurnedByAll cX2_lettersTurnedByAll 3 (some .int) ∈ lw_gd := gd_of (in_t2 (List.mem_of_getElem? (i := 216) (by decide +kernel))) rfl
theorem ml_L_82 : Cond.methodLink RL 82 yX4_put ∈ lw_gd := gd_of (in_t2 (List.mem_of_getElem? (i := 217) (by decide +kernel))) rfl
theorem mi_X4_put : Cond.instanceMethod yX4_put ∈ lw_gd := gd_of (in_t2 (List.mem_of_getElem? (i := 218) (by decide +kernel))) rfl
theorem ms_X4_put : Cond.selects RX4 yX4_put yX4_put ∈ lw_gd := gd_of (in_t2 (List.mem_of_getElem? (i := 219) (by decide +kernel))) rfl
theorem mc_X4_put : Cond.code yX4_put cX4_put 5 (some .int) ∈ lw_gd := gd_of (in_t2 (List.mem_of_getElem? (i := 220) (by decide +kernel))) rfl
theorem ml_X4_207 : Cond.methodLink RX4 207 yX4_lengthOf ∈ lw_gd := gd_of (in_t2 (List.mem_of_getElem? (i := 221) (by decide +kernel))) rfl
theorem mt_X4_lengthOf : Cond.static yX4_lengthOf ∈ lw_gd := gd_of (in_t2 (List.mem_of_getElem? (i := 222) (by decide +kernel))) rfl
theorem mc_X4_lengthOf : Cond.code yX4_lengthOf cX4_lengthOf 6 (some .int) ∈ lw_gd := gd_of (in_t2 (List.mem_of_getElem? (i := 223) (by decide +kernel))) rfl
theorem lc_X4_211 : Cond.constantLong RX4 211 255 ∈ lw_gd := gd_of (in_t2 (List.mem_of_getElem? (i := 224) (by decide +kernel))) rfl
theorem ml_L_87 : Cond.methodLink RL 87 yX4_wipe ∈ lw_gd := gd_of (in_t2 (List.mem_of_getElem? (i := 225) (by decide +kernel))) rfl
theorem mi_X4_wipe : Cond.instanceMethod yX4_wipe ∈ lw_gd := gd_of (in_t2 (List.mem_of_getElem? (i := 226) (by decide +kernel))) rfl
theorem ms_X4_wipe : Cond.selects RX4 yX4_wipe yX4_wipe ∈ lw_gd := gd_of (in_t2 (List.mem_of_getElem? (i := 227) (by decide +kernel))) rfl
theorem mc_X4_wipe : Cond.code yX4_wipe cX4_wipe 2 (some .int) ∈ lw_gd := gd_of (in_t2 (List.mem_of_getElem? (i := 228) (by decide +kernel))) rfl
theorem ml_L_91 : Cond.methodLink RL 91 yX4_fault ∈ lw_gd := gd_of (in_t2 (List.mem_of_getElem? (i := 229) (by decide +kernel))) rfl
theorem mi_X4_fault : Cond.instanceMethod yX4_fault ∈ lw_gd := gd_of (in_t2 (List.mem_of_getElem? (i := 230) (by decide +kernel))) rfl
theorem ms_X4_fault : Cond.selects RX4 yX4_fault yX4_fault ∈ lw_gd := gd_of (in_t2 (List.mem_of_getElem? (i := 231) (by decide +kernel))) rfl
theorem mc_X4_fault : Cond.code yX4_fault cX4_fault 1 (some .int) ∈ lw_gd := gd_of (in_t2 (List.mem_of_getElem? (i := 232) (by decide +kernel))) rfl
theorem ml_L_95 : Cond.methodLink RL 95 yX4_undo ∈ lw_gd := gd_of (in_t2 (List.mem_of_getElem? (i := 233) (by decide +kernel))) rfl
theorem mi_X4_undo : Cond.instanceMethod yX4_undo ∈ lw_gd := gd_of (in_t2 (List.mem_of_getElem? (i := 234) (by decide +kernel))) rfl
theorem ms_X4_undo : Cond.selects RX4 yX4_undo yX4_undo ∈ lw_gd := gd_of (in_t2 (List.mem_of_getElem? (i := 235) (by decide +kernel))) rfl
theorem mc_X4_undo : Cond.code yX4_undo cX4_undo 1 (some .int) ∈ lw_gd := gd_of (in_t2 (List.mem_of_getElem? (i := 236) (by decide +kernel))) rfl
theorem ml_L_99 : Cond.methodLink RL 99 yX4_save ∈ lw_gd := gd_of (in_t2 (List.mem_of_getElem? (i := 237) (by decide +kernel))) rfl
theorem mi_X4_save : Cond.instanceMethod yX4_save ∈ lw_gd := gd_of (in_t2 (List.mem_of_getElem? (i := 238) (by decide +kernel))) rfl
theorem ms_X4_save : Cond.selects RX4 yX4_save yX4_save ∈ lw_gd := gd_of (in_t2 (List.mem_of_getElem? (i := 239) (by decide +kernel))) rfl
theorem mc_X4_save : Cond.code yX4_save cX4_save 2 (some .int) ∈ lw_gd := gd_of (in_t3 (List.mem_of_getElem? (i := 0) (by decide +kernel))) rfl
theorem ml_L_103 : Cond.methodLink RL 103 yX4_restore ∈ lw_gd := gd_of (in_t3 (List.mem_of_getElem? (i := 1) (by decide +kernel))) rfl
theorem mi_X4_restore : Cond.instanceMethod yX4_restore ∈ lw_gd := gd_of (in_t3 (List.mem_of_getElem? (i := 2) (by decide +kernel))) rfl
theorem ms_X4_restore : Cond.selects RX4 yX4_restore yX4_restore ∈ lw_gd := gd_of (in_t3 (List.mem_of_getElem? (i := 3) (by decide +kernel))) rfl
theorem mc_X4_restore : Cond.code yX4_restore cX4_restore 2 (some .int) ∈ lw_gd := gd_of (in_t3 (List.mem_of_getElem? (i := 4) (by decide +kernel))) rfl
theorem cl_L_10 : Cond.classLink RL 10 RX5 ∈ lw_gd := gd_of (in_t3 (List.mem_of_getElem? (i := 5) (by decide +kernel))) rfl
theorem is_X5 : Cond.instantiable RX5 12 ∈ lw_gd := gd_of (in_t3 (List.mem_of_getElem? (i := 6) (by decide +kernel))) rfl
theorem ml_L_12 : Cond.methodLink RL 12 yX5_init ∈ lw_gd := gd_of (in_t3 (List.mem_of_getElem? (i := 7) (by decide +kernel))) rfl
theorem mi_X5_init : Cond.instanceMethod yX5_init ∈ lw_gd := gd_of (in_t3 (List.mem_of_getElem? (i := 8) (by decide +kernel))) rfl
theorem mc_X5_init : Cond.code yX5_init cX5_init 2 none ∈ lw_gd := gd_of (in_t3 (List.mem_of_getElem? (i := 9) (by decide +kernel))) rfl
theorem ml_X5_1 : Cond.methodLink RX5 1 objectInit ∈ lw_gd := gd_of (in_t3 (List.mem_of_getElem? (i := 10) (by decide +kernel))) rfl
theorem lk_X5_7 : Cond.fieldLink RX5 7 RX5 (TX5 0).2.1 (TX5 0).2.2.1 ∈ lw_gd := gd_of (in_t3 (List.mem_of_getElem? (i := 11) (by decide +kernel))) rfl
theorem lk_X5_13 : Cond.fieldLink RX5 13 RX5 (TX5 1).2.1 (TX5 1).2.2.1 ∈ lw_gd := gd_of (in_t3 (List.mem_of_getElem? (i := 12) (by decide +kernel))) rfl
theorem lk_X5_16 : Cond.fieldLink RX5 16 RX5 (TX5 2).2.1 (TX5 2).2.2.1 ∈ lw_gd := gd_of (in_t3 (List.mem_of_getElem? (i := 13) (by decide +kernel))) rfl
theorem lk_X5_46 : Cond.fieldLink RX5 46 RX5 (TX5 3).2.1 (TX5 3).2.2.1 ∈ lw_gd := gd_of (in_t3 (List.mem_of_getElem? (i := 14) (by decide +kernel))) rfl
theorem lk_X5_19 : Cond.fieldLink RX5 19 RX5 (TX5 4).2.1 (TX5 4).2.2.1 ∈ lw_gd := gd_of (in_t3 (List.mem_of_getElem? (i := 15) (by decide +kernel))) rfl
theorem lk_X5_22 : Cond.fieldLink RX5 22 RX5 (TX5 5).2.1 (TX5 5).2.2.1 ∈ lw_gd := gd_of (in_t3 (List.mem_of_getElem? (i := 16) (by decide +kernel))) rfl
theorem lk_X5_26 : Cond.fieldLink RX5 26 RX5 (TX5 6).2.1 (TX5 6).2.2.1 ∈ lw_gd := gd_of (in_t3 (List.mem_of_getElem? (i := 17) (by decide +kernel))) rfl
theorem lk_X5_136 : Cond.fieldLink RX5 136 RX5 (TX5 7).2.1 (TX5 7).2.2.1 ∈ lw_gd := gd_of (in_t3 (List.mem_of_getElem? (i := 18) (by decide +kernel))) rfl
theorem lk_X5_29 : Cond.fieldLink RX5 29 RX5 (TX5 8).2.1 (TX5 8).2.2.1 ∈ lw_gd := gd_of (in_t3 (List.mem_of_getElem? (i := 19) (by decide +kernel))) rfl
theorem lk_X5_32 : Cond.fieldLink RX5 32 RX5 (TX5 9).2.1 (TX5 9).2.2.1 ∈ lw_gd := gd_of (in_t3 (List.mem_of_getElem? (i := 20) (by decide +kernel))) rfl
theorem lk_X5_35 : Cond.fieldLink RX5 35 RX5 (TX5 10).2.1 (TX5 10).2.2.1 ∈ lw_gd := gd_of (in_t3 (List.mem_of_getElem? (i := 21) (by decide +kernel))) rfl
theorem lk_X5_150 : Cond.fieldLink RX5 150 RX5 (TX5 11).2.1 (TX5 11).2.2.1 ∈ lw_gd := gd_of (in_t3 (List.mem_of_getElem? (i := 22) (by decide +kernel))) rfl
theorem ml_L_17 : Cond.methodLink RL 17 yX5_set ∈ lw_gd := gd_of (in_t3 (List.mem_of_getElem? (i := 48) (by decide +kernel))) rfl
theorem mi_X5_set : Cond.instanceMethod yX5_set ∈ lw_gd := gd_of (in_t3 (List.mem_of_getElem? (i := 49) (by decide +kernel))) rfl
theorem ms_X5_set : Cond.selects RX5 yX5_set yX5_set ∈ lw_gd := gd_of (in_t3 (List.mem_of_getElem? (i := 50) (by decide +kernel))) rfl
theorem mc_X5_set : Cond.code yX5_set cX5_set 4 (some .int) ∈ lw_gd := gd_of (in_t3 (List.mem_of_getElem? (i := 51) (by decide +kernel))) rfl
theorem ml_X5_38 : Cond.methodLink RX5 38 yX5_in ∈ lw_gd := gd_of (in_t3 (List.mem_of_getElem? (i := 52) (by decide +kernel))) rfl
theorem mt_X5_in : Cond.static yX5_in ∈ lw_gd := gd_of (in_t3 (List.mem_of_getElem? (i := 53) (by decide +kernel))) rfl
theorem mc_X5_in : Cond.code yX5_in cX5_in 3 (some .boolean) ∈ lw_gd := gd_of (in_t3 (List.mem_of_getElem? (i := 54) (by decide +kernel))) rfl
theorem ml_X5_91 : Cond.methodLink RX5 91 yX5_lays ∈ lw_gd := gd_of (in_t3 (List.mem_of_getElem? (i := 55) (by decide +kernel))) rfl
theorem mi_X5_lays : Cond.instanceMethod yX5_lays ∈ lw_gd := gd_of (in_t3 (List.mem_of_getElem? (i := 57) (by decide +kernel))) rfl
theorem mc_X5_lays : Cond.code yX5_lays cX5_lays 4 (some .int) ∈ lw_gd := gd_of (in_t3 (List.mem_of_getElem? (i := 58) (by decide +kernel))) rfl
theorem ml_X5_88 : Cond.methodLink RX5 88 yX5_record ∈ lw_gd := gd_of (in_t3 (List.mem_of_getElem? (i := 59) (by decide +kernel))) rfl
theorem mi_X5_record : Cond.instanceMethod yX5_record ∈ lw_gd := gd_of (in_t3 (List.mem_of_getElem? (i := 61) (by decide +kernel))) rfl
theorem mc_X5_record : Cond.code yX5_record cX5_record 2 none ∈ lw_gd := gd_of (in_t3 (List.mem_of_getElem? (i := 62) (by decide +kernel))) rfl
theorem ml_L_21 : Cond.methodLink RL 21 yX5_strike ∈ lw_gd := gd_of (in_t3 (List.mem_of_getElem? (i := 63) (by decide +kernel))) rfl
theorem mi_X5_strike : Cond.instanceMethod yX5_strike ∈ lw_gd := gd_of (in_t3 (List.mem_of_getElem? (i := 64) (by decide +kernel))) rfl
theorem ms_X5_strike : Cond.selects RX5 yX5_strike yX5_strike ∈ lw_gd := gd_of (in_t3 (List.mem_of_getElem? (i := 65) (by decide +kernel))) rfl
theorem mc_X5_strike : Cond.code yX5_strike cX5_strike 4 (some .int) ∈ lw_gd := gd_of (in_t3 (List.mem_of_getElem? (i := 66) (by decide +kernel))) rfl
theorem ml_X5_53 : Cond.methodLink RX5 53 yX5_ofCensor ∈ lw_gd := gd_of (in_t3 (List.mem_of_getElem? (i := 67) (by decide +kernel))) rfl
theorem mt_X5_ofCensor : Cond.static yX5_ofCensor ∈ lw_gd := gd_of (in_t3 (List.mem_of_getElem? (i := 68) (by decide +kernel))) rfl
theorem mc_X5_ofCensor : Cond.code yX5_ofCensor cX5_ofCensor 2 (some .int) ∈ lw_gd := gd_of (in_t3 (List.mem_of_getElem? (i := 69) (by decide +kernel))) rfl
theorem ml_X5_62 : Cond.methodLink RX5 62 yX5_bits ∈ lw_gd := gd_of (in_t3 (List.mem_of_getElem? (i := 70) (by decide +kernel))) rfl
theorem mt_X5_bits : Cond.static yX5_bits ∈ lw_gd := gd_of (in_t3 (List.mem_of_getElem? (i := 71) (by decide +kernel))) rfl
theorem mc_X5_bits : Cond.code yX5_bits cX5_bits 3 (some .int) ∈ lw_gd := gd_of (in_t3 (List.mem_of_getElem? (i := 72) (by decide +kernel))) rfl
theorem ml_L_25 : Cond.methodLink RL 25 yX5_trade ∈ lw_gd := gd_of (in_t3 (List.mem_of_getElem? (i := 73) (by decide +kernel))) rfl
theorem mi_X5_trade : Cond.instanceMethod yX5_trade ∈ lw_gd := gd_of (in_t3 (List.mem_of_getElem? (i := 74) (by decide +kernel))) rfl
theorem ms_X5_trade : Cond.selects RX5 yX5_trade yX5_trade ∈ lw_gd := gd_of (in_t3 (List.mem_of_getElem? (i := 75) (by decide +kernel))) rfl
theorem mc_X5_trade : Cond.code yX5_trade cX5_trade 3 (some .int) ∈ lw_gd := gd_of (in_t3 (List.mem_of_getElem? (i := 76) (by decide +kernel))) rfl
theorem ml_X5_94 : Cond.methodLink RX5 94 yX5_isShift ∈ lw_gd := gd_of (in_t3 (List.mem_of_getElem? (i := 77) (by decide +kernel))) rfl
theorem mt_X5_isShift : Cond.static yX5_isShift ∈ lw_gd := gd_of (in_t3 (List.mem_of_getElem? (i := 78) (by decide +kernel))) rfl
theorem mc_X5_isShift : Cond.code yX5_isShift cX5_isShift 1 (some .boolean) ∈ lw_gd := gd_of (in_t3 (List.mem_of_getElem? (i := 79) (by decide +kernel))) rfl
theorem ml_X5_97 : Cond.methodLink RX5 97 yX5_trades ∈ lw_gd := gd_of (in_t3 (List.mem_of_getElem? (i := 80) (by decide +kernel))) rfl
theorem mi_X5_trades : Cond.instanceMethod yX5_trades ∈ lw_gd := gd_of (in_t3 (List.mem_of_getElem? (i := 82) (by decide +kernel))) rfl
theorem mc_X5_trades : Cond.code yX5_trades cX5_trades 4 none ∈ lw_gd := gd_of (in_t3 (List.mem_of_getElem? (i := 83) (by decide +kernel))) rfl
theorem ml_L_35 : Cond.methodLink RL 35 yX5_burn ∈ lw_gd := gd_of (in_t3 (List.mem_of_getElem? (i := 84) (by decide +kernel))) rfl
theorem mi_X5_burn : Cond.instanceMethod yX5_burn ∈ lw_gd := gd_of (in_t3 (List.mem_of_getElem? (i := 85) (by decide +kernel))) rfl
theorem ms_X5_burn : Cond.selects RX5 yX5_burn yX5_burn ∈ lw_gd := gd_of (in_t3 (List.mem_of_getElem? (i := 86) (by decide +kernel))) rfl
theorem mc_X5_burn : Cond.code yX5_burn cX5_burn 5 (some .int) ∈ lw_gd := gd_of (in_t3 (List.mem_of_getElem? (i := 87) (by decide +kernel))) rfl
theorem ml_X5_100 : Cond.methodLink RX5 100 yX5_isLetter ∈ lw_gd := gd_of (in_t3 (List.mem_of_getElem? (i := 88) (by decide +kernel))) rfl
theorem mi_X5_isLetter : Cond.instanceMethod yX5_isLetter ∈ lw_gd := gd_of (in_t3 (List.mem_of_getElem? (i := 90) (by decide +kernel))) rfl
theorem mc_X5_isLetter : Cond.code yX5_isLetter cX5_isLetter 2 (some .boolean) ∈ lw_gd := gd_of (in_t3 (List.mem_of_getElem? (i := 91) (by decide +kernel))) rfl
theorem ml_X5_50 : Cond.methodLink RX5 50 yX5_of ∈ lw_gd := gd_of (in_t3 (List.mem_of_getElem? (i := 92) (by decide +kernel))) rfl
theorem mi_X5_of : Cond.instanceMethod yX5_of ∈ lw_gd := gd_of (in_t3 (List.mem_of_getElem? (i := 94) (by decide +kernel))) rfl
theorem mc_X5_of : Cond.code yX5_of cX5_of 3 (some .int) ∈ lw_gd := gd_of (in_t3 (List.mem_of_getElem? (i := 95) (by decide +kernel))) rfl
theorem ml_X5_42 : Cond.methodLink RX5 42 yX5_at ∈ lw_gd := gd_of (in_t3 (List.mem_of_getElem? (i := 96) (by decide +kernel))) rfl
theorem mt_X5_at : Cond.static yX5_at ∈ lw_gd := gd_of (in_t3 (List.mem_of_getElem? (i := 97) (by decide +kernel))) rfl
theorem mc_X5_at : Cond.code yX5_at cX5_at 2 (some .int) ∈ lw_gd := gd_of (in_t3 (List.mem_of_getElem? (i := 98) (by decide +kernel))) rfl
theorem ml_X5_103 : Cond.methodLink RX5 103 yX5_placeOf ∈ lw_gd := gd_of (in_t3 (List.mem_of_getElem? (i := 99) (by decide +kernel))) rfl
theorem mi_X5_placeOf : Cond.instanceMethod yX5_placeOf ∈ lw_gd := gd_of (in_t3 (List.mem_of_getElem? (i := 101) (by decide +kernel))) rfl
theorem mc_X5_placeOf : Cond.code yX5_placeOf cX5_placeOf 5 (some .int) ∈ lw_gd := gd_of (in_t3 (List.mem_of_getElem? (i := 102) (by decide +kernel))) rfl
theorem ml_X5_69 : Cond.methodLink RX5 69 yX5_inRow ∈ lw_gd := gd_of (in_t3 (List.mem_of_getElem? (i := 103) (by decide +kernel))) rfl
theorem mt_X5_inRow : Cond.static yX5_inRow ∈ lw_gd := gd_of (in_t3 (List.mem_of_getElem? (i := 104) (by decide +kernel))) rfl
theorem mc_X5_inRow : Cond.code yX5_inRow cX5_inRow 2 (some .int) ∈ lw_gd := gd_of (in_t3 (List.mem_of_getElem? (i := 105) (by decide +kernel))) rfl
theorem ml_L_39 : Cond.methodLink RL 39 yX5_pass ∈ lw_gd := gd_of (in_t3 (List.mem_of_getElem? (i := 106) (by decide +kernel))) rfl
theorem mi_X5_pass : Cond.instanceMethod yX5_pass ∈ lw_gd := gd_of (in_t3 (List.mem_of_getElem? (i := 107) (by decide +kernel))) rfl
theorem ms_X5_pass : Cond.selects RX5 yX5_pass yX5_pass ∈ lw_gd := gd_of (in_t3 (List.mem_of_getElem? (i := 108) (by decide +kernel))) rfl
theorem mc_X5_pass : Cond.code yX5_pass cX5_pass 2 (some .int) ∈ lw_gd := gd_of (in_t3 (List.mem_of_getElem? (i := 109) (by decide +kernel))) rfl
theorem ml_X5_106 : Cond.methodLink RX5 106 yX5_passes ∈ lw_gd := gd_of (in_t3 (List.mem_of_getElem? (i := 110) (by decide +kernel))) rfl
theorem mi_X5_passes : Cond.instanceMethod yX5_passes ∈ lw_gd := gd_of (in_t3 (List.mem_of_getElem? (i := 112) (by decide +kernel))) rfl
theorem mc_X5_passes : Cond.code yX5_passes cX5_passes 4 (some .int) ∈ lw_gd := gd_of (in_t3 (List.mem_of_getElem? (i := 113) (by decide +kernel))) rfl
theorem ml_X5_84 : Cond.methodLink RX5 84 yX5_week ∈ lw_gd := gd_of (in_t3 (List.mem_of_getElem? (i := 114) (by decide +kernel))) rfl
theorem mi_X5_week : Cond.instanceMethod yX5_week ∈ lw_gd := gd_of (in_t3 (List.mem_of_getElem? (i := 116) (by decide +kernel))) rfl
theorem mc_X5_week : Cond.code yX5_week cX5_week 3 (some .int) ∈ lw_gd := gd_of (in_t3 (List.mem_of_getElem? (i := 117) (by decide +kernel))) rfl
theorem ml_X5_80 : Cond.methodLink RX5 80 yX5_goesThrough ∈ lw_gd := gd_of (in_t3 (List.mem_of_getElem? (i := 118) (by decide +kernel))) rfl
theorem mi_X5_goesThrough : Cond.instanceMethod yX5_goesThrough ∈ lw_gd := gd_of (in_t3 (List.mem_of_getElem? (i := 120) (by decide +kernel))) rfl
theorem mc_X5_goesThrough : Cond.code yX5_goesThrough cX5_goesThrough 9 none ∈ lw_gd := gd_of (in_t3 (List.mem_of_getElem? (i := 121) (by decide +kernel))) rfl
theorem ml_X5_66 : Cond.methodLink RX5 66 yX5_shiftNow ∈ lw_gd := gd_of (in_t3 (List.mem_of_getElem? (i := 122) (by decide +kernel))) rfl
theorem mi_X5_shiftNow : Cond.instanceMethod yX5_shiftNow ∈ lw_gd := gd_of (in_t3 (List.mem_of_getElem? (i := 124) (by decide +kernel))) rfl
theorem mc_X5_shiftNow : Cond.code yX5_shiftNow cX5_shiftNow 2 (some .int) ∈ lw_gd := gd_of (in_t3 (List.mem_of_getElem? (i := 125) (by decide +kernel))) rfl
theorem ml_X5_72 : Cond.methodLink RX5 72 yX5_isBarred ∈ lw_gd := gd_of (in_t3 (List.mem_of_getElem? (i := 126) (by decide +kernel))) rfl
theorem mi_X5_isBarred : Cond.instanceMethod yX5_isBarred ∈ lw_gd := gd_of (in_t3 (List.mem_of_getElem? (i := 128) (by decide +kernel))) rfl
theorem mc_X5_isBarred : Cond.code yX5_isBarred cX5_isBarred 4 (some .boolean) ∈ lw_gd := gd_of (in_t3 (List.mem_of_getElem? (i := 129) (by decide +kernel))) rfl
theorem ml_X5_76 : Cond.methodLink RX5 76 yX5_reads ∈ lw_gd := gd_of (in_t3 (List.mem_of_getElem? (i := 130) (by decide +kernel))) rfl
theorem mi_X5_reads : Cond.instanceMethod yX5_reads ∈ lw_gd := gd_of (in_t3 (List.mem_of_getElem? (i := 132) (by decide +kernel))) rfl
theorem mc_X5_reads : Cond.code yX5_reads cX5_reads 4 none ∈ lw_gd := gd_of (in_t3 (List.mem_of_getElem? (i := 133) (by decide +kernel))) rfl
theorem ml_X5_59 : Cond.methodLink RX5 59 yX5_strikes ∈ lw_gd := gd_of (in_t3 (List.mem_of_getElem? (i := 134) (by decide +kernel))) rfl
theorem mi_X5_strikes : Cond.instanceMethod yX5_strikes ∈ lw_gd := gd_of (in_t3 (List.mem_of_getElem? (i := 136) (by decide +kernel))) rfl
theorem mc_X5_strikes : Cond.code yX5_strikes cX5_strikes 5 (some .int) ∈ lw_gd := gd_of (in_t3 (List.mem_of_getElem? (i := 137) (by decide +kernel))) rfl
theorem ml_X5_56 : Cond.methodLink RX5 56 yX5_wordOf ∈ lw_gd := gd_of (in_t3 (List.mem_of_getElem? (i := 138) (by decide +kernel))) rfl
theorem mi_X5_wordOf : Cond.instanceMethod yX5_wordOf ∈ lw_gd := gd_of (in_t3 (List.mem_of_getElem? (i := 140) (by decide +kernel))) rfl
theorem mc_X5_wordOf : Cond.code yX5_wordOf cX5_wordOf 5 (some .int) ∈ lw_gd := gd_of (in_t3 (List.mem_of_getElem? (i := 141) (by decide +kernel))) rfl
theorem ml_L_43 : Cond.methodLink RL 43 yX5_letter ∈ lw_gd := gd_of (in_t3 (List.mem_of_getElem? (i := 142) (by decide +kernel))) rfl
theorem mi_X5_letter : Cond.instanceMethod yX5_letter ∈ lw_gd := gd_of (in_t3 (List.mem_of_getElem? (i := 143) (by decide +kernel))) rfl
theorem ms_X5_letter : Cond.selects RX5 yX5_letter yX5_letter ∈ lw_gd := gd_of (in_t3 (List.mem_of_getElem? (i := 144) (by decide +kernel))) rfl
theorem mc_X5_letter : Cond.code yX5_letter cX5_letter 3 (some .int) ∈ lw_gd := gd_of (in_t3 (List.mem_of_getElem? (i := 145) (by decide +kernel))) rfl
theorem ml_X5_109 : Cond.methodLink RX5 109 yX5_aheadOf ∈ lw_gd := gd_of (in_t3 (List.mem_of_getElem? (i := 146) (by decide +kernel))) rfl
theorem mi_X5_aheadOf : Cond.instanceMethod yX5_aheadOf ∈ lw_gd := gd_of (in_t3 (List.mem_of_getElem? (i := 148) (by decide +kernel))) rfl
theorem mc_X5_aheadOf : Cond.code yX5_aheadOf cX5_aheadOf 4 (some .int) ∈ lw_gd := gd_of (in_t3 (List.mem_of_getElem? (i := 149) (by decide +kernel))) rfl
theorem ml_L_47 : Cond.methodLink RL 47 yX5_word ∈ lw_gd := gd_of (in_t3 (List.mem_of_getElem? (i := 150) (by decide +kernel))) rfl
theorem mi_X5_word : Cond.instanceMethod yX5_word ∈ lw_gd := gd_of (in_t3 (List.mem_of_getElem? (i := 151) (by decide +kernel))) rfl
theorem ms_X5_word : Cond.selects RX5 yX5_word yX5_word ∈ lw_gd := gd_of (in_t3 (List.mem_of_getElem? (i := 152) (by decide +kernel))) rfl
theorem mc_X5_word : Cond.code yX5_word cX5_word 3 (some .int) ∈ lw_gd := gd_of (in_t3 (List.mem_of_getElem? (i := 153) (by decide +kernel))) rfl
theorem ml_L_51 : Cond.methodLink RL 51 yX5_why ∈ lw_gd := gd_of (in_t3 (List.mem_of_getElem? (i := 154) (by decide +kernel))) rfl
theorem mi_X5_why : Cond.instanceMethod yX5_why ∈ lw_gd := gd_of (in_t3 (List.mem_of_getElem? (i := 155) (by decide +kernel))) rfl
theorem ms_X5_why : Cond.selects RX5 yX5_why yX5_why ∈ lw_gd := gd_of (in_t3 (List.mem_of_getElem? (i := 156) (by decide +kernel))) rfl
theorem mc_X5_why : Cond.code yX5_why cX5_why 5 (some .int) ∈ lw_gd := gd_of (in_t3 (List.mem_of_getElem? (i := 157) (by decide +kernel))) rfl
theorem ml_X5_112 : Cond.methodLink RX5 112 yX5_putAside ∈ lw_gd := gd_of (in_t3 (List.mem_of_getElem? (i := 158) (by decide +kernel))) rfl
theorem mi_X5_putAside : Cond.instanceMethod yX5_putAside ∈ lw_gd := gd_of (in_t3 (List.mem_of_getElem? (i := 160) (by decide +kernel))) rfl
theorem mc_X5_putAside : Cond.code yX5_putAside cX5_putAside 2 none ∈ lw_gd := gd_of (in_t3 (List.mem_of_getElem? (i := 161) (by decide +kernel))) rfl
theorem ml_X5_115 : Cond.methodLink RX5 115 yX5_putBack ∈ lw_gd := gd_of (in_t3 (List.mem_of_getElem? (i := 162) (by decide +kernel))) rfl
theorem mi_X5_putBack : Cond.instanceMethod yX5_putBack ∈ lw_gd := gd_of (in_t3 (List.mem_of_getElem? (i := 164) (by decide +kernel))) rfl
theorem mc_X5_putBack : Cond.code yX5_putBack cX5_putBack 2 none ∈ lw_gd := gd_of (in_t3 (List.mem_of_getElem? (i := 165) (by decide +kernel))) rfl
theorem ml_L_55 : Cond.methodLink RL 55 yX5_censor ∈ lw_gd := gd_of (in_t3 (List.mem_of_getElem? (i := 166) (by decide +kernel))) rfl
theorem mi_X5_censor : Cond.instanceMethod yX5_censor ∈ lw_gd := gd_of (in_t3 (List.mem_of_getElem? (i := 167) (by decide +kernel))) rfl
theorem ms_X5_censor : Cond.selects RX5 yX5_censor yX5_censor ∈ lw_gd := gd_of (in_t3 (List.mem_of_getElem? (i := 168) (by decide +kernel))) rfl
theorem mc_X5_censor : Cond.code yX5_censor cX5_censor 3 (some .int) ∈ lw_gd := gd_of (in_t3 (List.mem_of_getElem? (i := 169) (by decide +kernel))) rfl
theorem ml_X5_118 : Cond.methodLink RX5 118 yX5_shiftsOf ∈ lw_gd := gd_of (in_t3 (List.mem_of_getElem? (i := 170) (by decide +kernel))) rfl
theorem mi_X5_shiftsOf : Cond.instanceMethod yX5_shiftsOf ∈ lw_gd := gd_of (in_t3 (List.mem_of_getElem? (i := 172) (by decide +kernel))) rfl
theorem mc_X5_shiftsOf : Cond.code yX5_shiftsOf cX5_shiftsOf 4 (some .int) ∈ lw_gd := gd_of (in_t3 (List.mem_of_getElem? (i := 173) (by decide +kernel))) rfl
theorem ml_L_59 : Cond.methodLink RL 59 yX5_onShift ∈ lw_gd := gd_of (in_t3 (List.mem_of_getElem? (i := 174) (by decide +kernel))) rfl
theorem mi_X5_onShift : Cond.instanceMethod yX5_onShift ∈ lw_gd := gd_of (in_t3 (List.mem_of_getElem? (i := 175) (by decide +kernel))) rfl
theorem ms_X5_onShift : Cond.selects RX5 yX5_onShift yX5_onShift ∈ lw_gd := gd_of (in_t3 (List.mem_of_getElem? (i := 176) (by decide +kernel))) rfl
theorem mc_X5_onShift : Cond.code yX5_onShift cX5_onShift 3 (some .int) ∈ lw_gd := gd_of (in_t3 (List.mem_of_getElem? (i := 177) (by decide +kernel))) rfl
theorem ml_L_63 : Cond.methodLink RL 63 yX5_count ∈ lw_gd := gd_of (in_t3 (List.mem_of_getElem? (i := 178) (by decide +kernel))) rfl
theorem mi_X5_count : Cond.instanceMethod yX5_count ∈ lw_gd := gd_of (in_t3 (List.mem_of_getElem? (i := 179) (by decide +kernel))) rfl
theorem ms_X5_count : Cond.selects RX5 yX5_count yX5_count ∈ lw_gd := gd_of (in_t3 (List.mem_of_getElem? (i := 180) (by decide +kernel))) rfl
theorem mc_X5_count : Cond.code yX5_count cX5_count 2 (some .int) ∈ lw_gd := gd_of (in_t3 (List.mem_of_getElem? (i := 181) (by decide +kernel))) rfl
theorem ml_X5_121 : Cond.methodLink RX5 121 yX5_many ∈ lw_gd := gd_of (in_t3 (List.mem_of_getElem? (i := 182) (by decide +kernel))) rfl
theorem mi_X5_many : Cond.instanceMethod yX5_many ∈ lw_gd := gd_of (in_t3 (List.mem_of_getElem? (i := 184) (by decide +kernel))) rfl
theorem mc_X5_many : Cond.code yX5_many cX5_many 4 (some .int) ∈ lw_gd := gd_of (in_t3 (List.mem_of_getElem? (i := 185) (by decide +kernel))) rfl
theorem ml_X5_124 : Cond.methodLink RX5 124 yX5_delays ∈ lw_gd := gd_of (in_t3 (List.mem_of_getElem? (i := 186) (by decide +kernel))) rfl
theorem mi_X5_delays : Cond.instanceMethod yX5_delays ∈ lw_gd := gd_of (in_t3 (List.mem_of_getElem? (i := 188) (by decide +kernel))) rfl
theorem mc_X5_delays : Cond.code yX5_delays cX5_delays 3 (some .int) ∈ lw_gd := gd_of (in_t3 (List.mem_of_getElem? (i := 189) (by decide +kernel))) rfl
theorem ml_X5_127 : Cond.methodLink RX5 127 yX5_longest ∈ lw_gd := gd_of (in_t3 (List.mem_of_getElem? (i := 190) (by decide +kernel))) rfl
theorem mi_X5_longest : Cond.instanceMethod yX5_longest ∈ lw_gd := gd_of (in_t3 (List.mem_of_getElem? (i := 192) (by decide +kernel))) rfl
theorem mc_X5_longest : Cond.code yX5_longest cX5_longest 3 (some .int) ∈ lw_gd := gd_of (in_t3 (List.mem_of_getElem? (i := 193) (by decide +kernel))) rfl
theorem ml_X5_130 : Cond.methodLink RX5 130 yX5_struckWords ∈ lw_gd := gd_of (in_t3 (List.mem_of_getElem? (i := 194) (by decide +kernel))) rfl
theorem mi_X5_struckWords : Cond.instanceMethod yX5_struckWords ∈ lw_gd := gd_of (in_t3 (List.mem_of_getElem? (i := 196) (by decide +kernel))) rfl
theorem mc_X5_struckWords : Cond.code yX5_struckWords cX5_struckWords 3 (some .int) ∈ lw_gd := gd_of (in_t3 (List.mem_of_getElem? (i := 197) (by decide +kernel))) rfl
theorem ml_X5_133 : Cond.methodLink RX5 133 yX5_waitingThreads ∈ lw_gd := gd_of (in_t3 (List.mem_of_getElem? (i := 198) (by decide +kernel))) rfl
theorem mi_X5_waitingThreads : Cond.instanceMethod yX5_waitingThreads ∈ lw_gd := gd_of (in_t3 (List.mem_of_getElem? (i := 200) (by decide +kernel))) rfl
theorem mc_X5_waitingThreads : Cond.code yX5_waitingThreads cX5_waitingThreads 3 (some .int) ∈ lw_gd := gd_of (in_t3 (List.mem_of_getElem? (i := 201) (by decide +kernel))) rfl
theorem ml_L_67 : Cond.methodLink RL 67 yX5_untilCome ∈ lw_gd := gd_of (in_t3 (List.mem_of_getElem? (i := 202) (by decide +kernel))) rfl
theorem mi_X5_untilCome : Cond.instanceMethod yX5_untilCome ∈ lw_gd := gd_of (in_t3 (List.mem_of_getElem? (i := 203) (by decide +kernel))) rfl
theorem ms_X5_untilCome : Cond.selects RX5 yX5_untilCome yX5_untilCome ∈ lw_gd := gd_of (in_t3 (List.mem_of_getElem? (i := 204) (by decide +kernel))) rfl
theorem mc_X5_untilCome : Cond.code yX5_untilCome cX5_untilCome 4 (some .int) ∈ lw_gd := gd_of (in_t3 (List.mem_of_getElem? (i := 205) (by decide +kernel))) rfl
theorem ml_L_71 : Cond.methodLink RL 71 yX5_ifPassed ∈ lw_gd := gd_of (in_t3 (List.mem_of_getElem? (i := 206) (by decide +kernel))) rfl
theorem mi_X5_ifPassed : Cond.instanceMethod yX5_ifPassed ∈ lw_gd := gd_of (in_t3 (List.mem_of_getElem? (i := 207) (by decide +kernel))) rfl
theorem ms_X5_ifPassed : Cond.selects RX5 yX5_ifPassed yX5_ifPassed ∈ lw_gd := gd_of (in_t3 (List.mem_of_getElem? (i := 208) (by decide +kernel))) rfl
theorem mc_X5_ifPassed : Cond.code yX5_ifPassed cX5_ifPassed 6 (some .int) ∈ lw_gd := gd_of (in_t3 (List.mem_of_getElem? (i := 209) (by decide +kernel))) rfl
theorem ml_L_75 : Cond.methodLink RL 75 yX5_bestTrade ∈ lw_gd := gd_of (in_t3 (List.mem_of_getElem? (i := 210) (by decide +kernel))) rfl
theorem mi_X5_bestTrade : Cond.instanceMethod yX5_bestTrade ∈ lw_gd := gd_of (in_t3 (List.mem_of_getElem? (i := 211) (by decide +kernel))) rfl
theorem ms_X5_bestTrade : Cond.selects RX5 yX5_bestTrade yX5_bestTrade ∈ lw_gd := gd_of (in_t3 (List.mem_of_getElem? (i := 212) (by decide +kernel))) rfl
theorem mc_X5_bestTrade : Cond.code yX5_bestTrade cX5_bestTrade 6 (some .int) ∈ lw_gd := gd_of (in_t3 (List.mem_of_getElem? (i := 213) (by decide +kernel))) rfl
theorem ml_L_79 : Cond.methodLink RL 79 yX5_leastLimit ∈ lw_gd := gd_of (in_t3 (List.mem_of_getElem? (i := 214) (by decide +kernel))) rfl
theorem mi_X5_leastLimit : Cond.instanceMethod yX5_leastLimit ∈ lw_gd := gd_of (in_t3 (List.mem_of_getElem? (i := 215) (by decide +kernel))) rfl
theorem ms_X5_leastLimit : Cond.selects RX5 yX5_leastLimit yX5_leastLimit ∈ lw_gd := gd_of (in_t3 (List.mem_of_getElem? (i := 216) (by decide +kernel))) rfl
theorem mc_X5_leastLimit : Cond.code yX5_leastLimit cX5_leastLimit 5 (some .int) ∈ lw_gd := gd_of (in_t3 (List.mem_of_getElem? (i := 217) (by decide +kernel))) rfl
theorem ml_X5_139 : Cond.methodLink RX5 139 yX5_turnedBack ∈ lw_gd := gd_of (in_t3 (List.mem_of_getElem? (i := 218) (by decide +kernel))) rfl
theorem mi_X5_turnedBack : Cond.instanceMethod yX5_turnedBack ∈ lw_gd := gd_of (in_t3 (List.mem_of_getElem? (i := 220) (by decide +kernel))) rfl
theorem mc_X5_turnedBack : Cond.code yX5_turnedBack cX5_turnedBack 1 (some .int) ∈ lw_gd := gd_of (in_t3 (List.mem_of_getElem? (i := 221) (by decide +kernel))) rfl
theorem ml_L_86 : Cond.methodLink RL 86 yX5_put ∈ lw_gd := gd_of (in_t3 (List.mem_of_getElem? (i := 222) (by decide +kernel))) rfl
theorem mi_X5_put : Cond.instanceMethod yX5_put ∈ lw_gd := gd_of (in_t3 (List.mem_of_getElem? (i := 223) (by decide +kernel))) rfl
theorem ms_X5_put : Cond.selects RX5 yX5_put yX5_put ∈ lw_gd := gd_of (in_t3 (List.mem_of_getElem? (i := 224) (by decide +kernel))) rfl
theorem mc_X5_put : Cond.code yX5_put cX5_put 8 (some .int) ∈ lw_gd := gd_of (in_t3 (List.mem_of_getElem? (i := 225) (by decide +kernel))) rfl
theorem lc_X5_142 : Cond.constantLong RX5 142 255 ∈ lw_gd := gd_of (in_t3 (List.mem_of_getElem? (i := 226) (by decide +kernel))) rfl
theorem ml_L_90 : Cond.methodLink RL 90 yX5_wipe ∈ lw_gd := gd_of (in_t3 (List.mem_of_getElem? (i := 227) (by decide +kernel))) rfl
theorem mi_X5_wipe : Cond.instanceMethod yX5_wipe ∈ lw_gd := gd_of (in_t3 (List.mem_of_getElem? (i := 228) (by decide +kernel))) rfl
theorem ms_X5_wipe : Cond.selects RX5 yX5_wipe yX5_wipe ∈ lw_gd := gd_of (in_t3 (List.mem_of_getElem? (i := 229) (by decide +kernel))) rfl
theorem mc_X5_wipe : Cond.code yX5_wipe cX5_wipe 2 (some .int) ∈ lw_gd := gd_of (in_t3 (List.mem_of_getElem? (i := 230) (by decide +kernel))) rfl
theorem ml_L_94 : Cond.methodLink RL 94 yX5_fault ∈ lw_gd := gd_of (in_t3 (List.mem_of_getElem? (i := 231) (by decide +kernel))) rfl
theorem mi_X5_fault : Cond.instanceMethod yX5_fault ∈ lw_gd := gd_of (in_t3 (List.mem_of_getElem? (i := 232) (by decide +kernel))) rfl
theorem ms_X5_fault : Cond.selects RX5 yX5_fault yX5_fault ∈ lw_gd := gd_of (in_t3 (List.mem_of_getElem? (i := 233) (by decide +kernel))) rfl
theorem mc_X5_fault : Cond.code yX5_fault cX5_fault 1 (some .int) ∈ lw_gd := gd_of (in_t3 (List.mem_of_getElem? (i := 234) (by decide +kernel))) rfl
theorem ml_X5_156 : Cond.methodLink RX5 156 yX5_wrong ∈ lw_gd := gd_of (in_t3 (List.mem_of_getElem? (i := 235) (by decide +kernel))) rfl
theorem mi_X5_wrong : Cond.instanceMethod yX5_wrong ∈ lw_gd := gd_of (in_t3 (List.mem_of_getElem? (i := 237) (by decide +kernel))) rfl
theorem mc_X5_wrong : Cond.code yX5_wrong cX5_wrong 4 (some .int) ∈ lw_gd := gd_of (in_t3 (List.mem_of_getElem? (i := 238) (by decide +kernel))) rfl
theorem ml_X5_153 : Cond.methodLink RX5 153 yX5_right ∈ lw_gd := gd_of (in_t3 (List.mem_of_getElem? (i := 239) (by decide +kernel))) rfl
theorem mi_X5_right : Cond.instanceMethod yX5_right ∈ lw_gd := gd_of (in_t4 (List.mem_of_getElem? (i := 1) (by decide +kernel))) rfl
theorem mc_X5_right : Cond.code yX5_right cX5_right 3 (some .int) ∈ lw_gd := gd_of (in_t4 (List.mem_of_getElem? (i := 2) (by decide +kernel))) rfl
theorem ml_X5_144 : Cond.methodLink RX5 144 yX5_next ∈ lw_gd := gd_of (in_t4 (List.mem_of_getElem? (i := 3) (by decide +kernel))) rfl
theorem mi_X5_next : Cond.instanceMethod yX5_next ∈ lw_gd := gd_of (in_t4 (List.mem_of_getElem? (i := 5) (by decide +kernel))) rfl
theorem mc_X5_next : Cond.code yX5_next cX5_next 2 (some .int) ∈ lw_gd := gd_of (in_t4 (List.mem_of_getElem? (i := 6) (by decide +kernel))) rfl
theorem ml_X5_147 : Cond.methodLink RX5 147 yX5_isWordAt ∈ lw_gd := gd_of (in_t4 (List.mem_of_getElem? (i := 7) (by decide +kernel))) rfl
theorem mi_X5_isWordAt : Cond.instanceMethod yX5_isWordAt ∈ lw_gd := gd_of (in_t4 (List.mem_of_getElem? (i := 9) (by decide +kernel))) rfl
theorem mc_X5_isWordAt : Cond.code yX5_isWordAt cX5_isWordAt 2 (some .boolean) ∈ lw_gd := gd_of (in_t4 (List.mem_of_getElem? (i := 10) (by decide +kernel))) rfl
theorem ml_L_30 : Cond.methodLink RL 30 yX5_read ∈ lw_gd := gd_of (in_t4 (List.mem_of_getElem? (i := 11) (by decide +kernel))) rfl
theorem mi_X5_read : Cond.instanceMethod yX5_read ∈ lw_gd := gd_of (in_t4 (List.mem_of_getElem? (i := 12) (by decide +kernel))) rfl
theorem ms_X5_read : Cond.selects RX5 yX5_read yX5_read ∈ lw_gd := gd_of (in_t4 (List.mem_of_getElem? (i := 13) (by decide +kernel))) rfl
theorem mc_X5_read : Cond.code yX5_read cX5_read 3 (some .int) ∈ lw_gd := gd_of (in_t4 (List.mem_of_getElem? (i := 14) (by decide +kernel))) rfl
theorem ml_X5_159 : Cond.methodLink RX5 159 yX5_writes ∈ lw_gd := gd_of (in_t4 (List.mem_of_getElem? (i := 15) (by decide +kernel))) rfl
theorem mi_X5_writes : Cond.instanceMethod yX5_writes ∈ lw_gd := gd_of (in_t4 (List.mem_of_getElem? (i := 17) (by decide +kernel))) rfl
theorem mc_X5_writes : Cond.code yX5_writes cX5_writes 7 none ∈ lw_gd := gd_of (in_t4 (List.mem_of_getElem? (i := 18) (by decide +kernel))) rfl
theorem ml_L_98 : Cond.methodLink RL 98 yX5_undo ∈ lw_gd := gd_of (in_t4 (List.mem_of_getElem? (i := 19) (by decide +kernel))) rfl
theorem mi_X5_undo : Cond.instanceMethod yX5_undo ∈ lw_gd := gd_of (in_t4 (List.mem_of_getElem? (i := 20) (by decide +kernel))) rfl
theorem ms_X5_undo : Cond.selects RX5 yX5_undo yX5_undo ∈ lw_gd := gd_of (in_t4 (List.mem_of_getElem? (i := 21) (by decide +kernel))) rfl
theorem mc_X5_undo : Cond.code yX5_undo cX5_undo 2 (some .int) ∈ lw_gd := gd_of (in_t4 (List.mem_of_getElem? (i := 22) (by decide +kernel))) rfl
theorem ml_L_102 : Cond.methodLink RL 102 yX5_save ∈ lw_gd := gd_of (in_t4 (List.mem_of_getElem? (i := 23) (by decide +kernel))) rfl
theorem mi_X5_save : Cond.instanceMethod yX5_save ∈ lw_gd := gd_of (in_t4 (List.mem_of_getElem? (i := 24) (by decide +kernel))) rfl
theorem ms_X5_save : Cond.selects RX5 yX5_save yX5_save ∈ lw_gd := gd_of (in_t4 (List.mem_of_getElem? (i := 25) (by decide +kernel))) rfl
theorem mc_X5_save : Cond.code yX5_save cX5_save 3 (some .int) ∈ lw_gd := gd_of (in_t4 (List.mem_of_getElem? (i := 26) (by decide +kernel))) rfl
theorem ml_L_106 : Cond.methodLink RL 106 yX5_restore ∈ lw_gd := gd_of (in_t4 (List.mem_of_getElem? (i := 27) (by decide +kernel))) rfl
theorem mi_X5_restore : Cond.instanceMethod yX5_restore ∈ lw_gd := gd_of (in_t4 (List.mem_of_getElem? (i := 28) (by decide +kernel))) rfl
theorem ms_X5_restore : Cond.selects RX5 yX5_restore yX5_restore ∈ lw_gd := gd_of (in_t4 (List.mem_of_getElem? (i := 29) (by decide +kernel))) rfl
theorem mc_X5_restore : Cond.code yX5_restore cX5_restore 3 (some .int) ∈ lw_gd := gd_of (in_t4 (List.mem_of_getElem? (i := 30) (by decide +kernel))) rfl
theorem lc_L_80 : Cond.constantLong RL 80 4294967295 ∈ lw_gd := gd_of (in_t4 (List.mem_of_getElem? (i := 31) (by decide +kernel))) rfl
theorem ms_X4_remember : Cond.selects RX4 yX4_remember yX4_remember ∈ lw_gd := gd_of (List.mem_append_left _ (List.mem_of_getElem? (i := 0) (by decide +kernel))) rfl
theorem ms_X4_faultOfPad : Cond.selects RX4 yX4_faultOfPad yX4_faultOfPad ∈ lw_gd := gd_of (List.mem_append_left _ (List.mem_of_getElem? (i := 1) (by decide +kernel))) rfl
theorem ms_X4_lettersOfPad : Cond.selects RX4 yX4_lettersOfPad yX4_lettersOfPad ∈ lw_gd := gd_of (List.mem_append_left _ (List.mem_of_getElem? (i := 2) (by decide +kernel))) rfl
theorem ms_X4_writeLettersOfPad : Cond.selects RX4 yX4_writeLettersOfPad yX4_writeLettersOfPad ∈ lw_gd := gd_of (List.mem_append_left _ (List.mem_of_getElem? (i := 3) (by decide +kernel))) rfl
theorem ms_X4_turnsBackWith : Cond.selects RX4 yX4_turnsBackWith yX4_turnsBackWith ∈ lw_gd := gd_of (List.mem_append_left _ (List.mem_of_getElem? (i := 4) (by decide +kernel))) rfl
theorem ms_X5_lays : Cond.selects RX5 yX5_lays yX5_lays ∈ lw_gd := gd_of (List.mem_append_left _ (List.mem_of_getElem? (i := 5) (by decide +kernel))) rfl
theorem ms_X5_record : Cond.selects RX5 yX5_record yX5_record ∈ lw_gd := gd_of (List.mem_append_left _ (List.mem_of_getElem? (i := 6) (by decide +kernel))) rfl
theorem ms_X5_trades : Cond.selects RX5 yX5_trades yX5_trades ∈ lw_gd := gd_of (List.mem_append_left _ (List.mem_of_getElem? (i := 7) (by decide +kernel))) rfl
theorem ms_X5_isLetter : Cond.selects RX5 yX5_isLetter yX5_isLetter ∈ lw_gd := gd_of (List.mem_append_left _ (List.mem_of_getElem? (i := 8) (by decide +kernel))) rfl
theorem ms_X5_of : Cond.selects RX5 yX5_of yX5_of ∈ lw_gd := gd_of (List.mem_append_left _ (List.mem_of_getElem? (i := 9) (by decide +kernel))) rfl
theorem ms_X5_placeOf : Cond.selects RX5 yX5_placeOf yX5_placeOf ∈ lw_gd := gd_of (List.mem_append_left _ (List.mem_of_getElem? (i := 10) (by decide +kernel))) rfl
theorem ms_X5_passes : Cond.selects RX5 yX5_passes yX5_passes ∈ lw_gd := gd_of (List.mem_append_left _ (List.mem_of_getElem? (i := 11) (by decide +kernel))) rfl
theorem ms_X5_week : Cond.selects RX5 yX5_week yX5_week ∈ lw_gd := gd_of (List.mem_append_left _ (List.mem_of_getElem? (i := 12) (by decide +kernel))) rfl
theorem ms_X5_goesThrough : Cond.selects RX5 yX5_goesThrough yX5_goesThrough ∈ lw_gd := gd_of (List.mem_append_left _ (List.mem_of_getElem? (i := 13) (by decide +kernel))) rfl
theorem ms_X5_shiftNow : Cond.selects RX5 yX5_shiftNow yX5_shiftNow ∈ lw_gd := gd_of (List.mem_append_left _ (List.mem_of_getElem? (i := 14) (by decide +kernel))) rfl
theorem ms_X5_isBarred : Cond.selects RX5 yX5_isBarred yX5_isBarred ∈ lw_gd := gd_of (List.mem_append_left _ (List.mem_of_getElem? (i := 15) (by decide +kernel))) rfl
theorem ms_X5_reads : Cond.selects RX5 yX5_reads yX5_reads ∈ lw_gd := gd_of (List.mem_append_left _ (List.mem_of_getElem? (i := 16) (by decide +kernel))) rfl
theorem ms_X5_strikes : Cond.selects RX5 yX5_strikes yX5_strikes ∈ lw_gd := gd_of (List.mem_append_left _ (List.mem_of_getElem? (i := 17) (by decide +kernel))) rfl
theorem ms_X5_wordOf : Cond.selects RX5 yX5_wordOf yX5_wordOf ∈ lw_gd := gd_of (List.mem_append_left _ (List.mem_of_getElem? (i := 18) (by decide +kernel))) rfl
theorem ms_X5_aheadOf : Cond.selects RX5 yX5_aheadOf yX5_aheadOf ∈ lw_gd := gd_of (List.mem_append_left _ (List.mem_of_getElem? (i := 19) (by decide +kernel))) rfl
theorem ms_X5_putAside : Cond.selects RX5 yX5_putAside yX5_putAside ∈ lw_gd := gd_of (List.mem_append_left _ (List.mem_of_getElem? (i := 20) (by decide +kernel))) rfl
theorem ms_X5_putBack : Cond.selects RX5 yX5_putBack yX5_putBack ∈ lw_gd := gd_of (List.mem_append_left _ (List.mem_of_getElem? (i := 21) (by decide +kernel))) rfl
theorem ms_X5_shiftsOf : Cond.selects RX5 yX5_shiftsOf yX5_shiftsOf ∈ lw_gd := gd_of (List.mem_append_left _ (List.mem_of_getElem? (i := 22) (by decide +kernel))) rfl
theorem ms_X5_many : Cond.selects RX5 yX5_many yX5_many ∈ lw_gd := gd_of (List.mem_append_left _ (List.mem_of_getElem? (i := 23) (by decide +kernel))) rfl
theorem ms_X5_delays : Cond.selects RX5 yX5_delays yX5_delays ∈ lw_gd := gd_of (List.mem_append_left _ (List.mem_of_getElem? (i := 24) (by decide +kernel))) rfl
theorem ms_X5_longest : Cond.selects RX5 yX5_longest yX5_longest ∈ lw_gd := gd_of (List.mem_append_left _ (List.mem_of_getElem? (i := 25) (by decide +kernel))) rfl
theorem ms_X5_struckWords : Cond.selects RX5 yX5_struckWords yX5_struckWords ∈ lw_gd := gd_of (List.mem_append_left _ (List.mem_of_getElem? (i := 26) (by decide +kernel))) rfl
theorem ms_X5_waitingThreads : Cond.selects RX5 yX5_waitingThreads yX5_waitingThreads ∈ lw_gd := gd_of (List.mem_append_left _ (List.mem_of_getElem? (i := 27) (by decide +kernel))) rfl
theorem ms_X5_turnedBack : Cond.selects RX5 yX5_turnedBack yX5_turnedBack ∈ lw_gd := gd_of (List.mem_append_left _ (List.mem_of_getElem? (i := 28) (by decide +kernel))) rfl
theorem ms_X5_wrong : Cond.selects RX5 yX5_wrong yX5_wrong ∈ lw_gd := gd_of (List.mem_append_left _ (List.mem_of_getElem? (i := 29) (by decide +kernel))) rfl
theorem ms_X5_right : Cond.selects RX5 yX5_right yX5_right ∈ lw_gd := gd_of (List.mem_append_left _ (List.mem_of_getElem? (i := 30) (by decide +kernel))) rfl
theorem ms_X5_next : Cond.selects RX5 yX5_next yX5_next ∈ lw_gd := gd_of (List.mem_append_left _ (List.mem_of_getElem? (i := 31) (by decide +kernel))) rfl
theorem ms_X5_isWordAt : Cond.selects RX5 yX5_isWordAt yX5_isWordAt ∈ lw_gd := gd_of (List.mem_append_left _ (List.mem_of_getElem? (i := 32) (by decide +kernel))) rfl
theorem ms_X5_writes : Cond.selects RX5 yX5_writes yX5_writes ∈ lw_gd := gd_of (List.mem_append_left _ (List.mem_of_getElem? (i := 33) (by decide +kernel))) rfl
theorem inX0 : ∀ w ∈ u_ws RX0 TX0 4, w ∈ lw_gd := by decide +kernel
theorem inX1 : ∀ w ∈ u_ws RX1 TX1 11, w ∈ lw_gd := by decide +kernel
theorem inX2 : ∀ w ∈ u_ws RX2 TX2 9, w ∈ lw_gd := by decide +kernel
theorem inX3 : ∀ w ∈ u_ws RX3 TX3 2, w ∈ lw_gd := by decide +kernel
theorem inX4 : ∀ w ∈ u_ws RX4 TX4 8, w ∈ lw_gd := by decide +kernel
theorem inX5 : ∀ w ∈ u_ws RX5 TX5 12, w ∈ lw_gd := by decide +kernel
end
section
/-! the memory: ints by cell and place, longs by cell, the four pasts -/
abbrev cz_M : Type := (Nat → Nat → Int32) × (Nat → Int64) × (Nat → Nat)
def cz_mI (M : cz_M) (a k : Nat) (v : Int32) : cz_M := (fun x y => if x = a ∧ y = k then v else M.1 x y, M.2)
def cz_mL (M : cz_M) (a : Nat) (v : Int64) : cz_M := (M.1, (fun x => if x = a then v else M.2.1 x), M.2.2)
def cz_mP (M : cz_M) (k v : Nat) : cz_M := (M.1, M.2.1, (fun x => if x = k then v else M.2.2 x))
def cz_mA (M : cz_M) (a : Nat) (f : Nat → Int32) : cz_M := (fun x y => if x = a then f y else M.1 x y, M.2)
def cz_ib (i : Int32) (n : Nat) : Bool := decide (¬ i < 0) && decide (i.toNatClampNeg < n)
def cz_cb (sp dp n : Int32) (n0 n1 : Nat) : Bool := decide (¬ sp < 0) && (decide (¬ dp < 0) && (decide (¬ n < 0) && (decide (sp.toNatClampNeg + n.toNatClampNeg ≤ n0) && decide (dp.toNatClampNeg + n.toNatClampNeg ≤ n1))))
def cz_zb (x : Int32) : Bool := decide (x = 0 ∨ x = 1)
def cz_hb (x : Int32) : Bool := decide (narrow .char (.int x) = .int x ∧ fits .char (.int x) = true)
def cz_gd {α : Type} (c : Bool) (k : Option α) : Option α := match c with
  | true => k
  | false => none
def cz_lt {α β : Type} (v : β) (k : β → Option α) : Option α := k v
theorem cz_gd_t {α : Type} {c : Bool} {k : Option α} {r : α} (h : cz_gd c k = some r) : c = true ∧ k = some r := by
  cases c with
  | true => exact ⟨rfl, h⟩
  | false => cases h
theorem cz_bd_t {α β : Type} {o : Option β} {k : β → Option α} {r : α} (h : o.bind k = some r) : ∃ v, o = some v ∧ k v = some r := by
  cases o with
  | none => cases h
  | some v => exact ⟨v, rfl, h⟩
theorem cz_ite_t {α : Type} {c : Prop} [Decidable c] {a b : Option α} {r : Option α} (hc : c) (h : (if c then a else b) = r) : a = r := by rw [if_pos hc] at h; exact h
theorem cz_ite_f {α : Type} {c : Prop} [Decidable c] {a b : Option α} {r : Option α} (hc : ¬ c) (h : (if c then a else b) = r) : b = r := by rw [if_neg hc] at h; exact h
theorem cz_ib_in {i : Int32} {n : Nat} (h : cz_ib i n = true) : vp_in i n := by
  simp only [cz_ib, Bool.and_eq_true, decide_eq_true_eq] at h
  intro q
  rcases q with q | q
  · exact h.1 q
  · omega
theorem cz_ib_lt {i : Int32} {n : Nat} (h : cz_ib i n = true) : i.toNatClampNeg < n := by
  simp only [cz_ib, Bool.and_eq_true, decide_eq_true_eq] at h
  exact h.2
/-! the cells, by their place behind the base -/
def cz_pk (o : Nat) : Nat := if o = 0 then 2 else if o = 1 then 103 else if o = 2 then 10 else if o = 3 then 108 else if o = 4 then 11 else if o = 5 then 12 else if o = 6 then 3 else if o = 7 then 140 else if o = 8 then 105 else if o < 13 then 0 else if o < 53 then 1 else if o = 53 then 3 else if o = 54 then 140 else if o = 55 then 3 else 140
def cz_kd (o : Nat) : Nat := if o = 0 then 4 else if o < 115 then cz_pk ((o - 1) % 57) else if o = 115 then 13 else if o = 116 then 14 else if o = 117 then 5002 else if o = 118 then 7 else if o < 461 then cz_pk ((o - 119) % 57) else if o = 461 then 5 else if o < 464 then 651 else if o = 464 then 2304 else if o = 465 then 1202 else if o = 466 then 5002 else if o = 467 then 160 else if o = 470 then 140 else 5040
def cz_fs (ci a : Nat) (M : cz_M) : List Value := match ci with
  | 0 => [.int (M.1 a 0), .int (M.1 a 1), .int (M.1 a 2), .int (M.1 a 3)]
  | 1 => [.int (M.1 a 0), .int (M.1 a 1), .long (M.2.1 a), .int (M.1 a 3), .int (M.1 a 4), .int (M.1 a 5), .int (M.1 a 6), .int (M.1 a 7), .int (M.1 a 8), .int (M.1 a 9), .int (M.1 a 10)]
  | 2 => [.ref (a + 1), .ref (a + 2), .ref (a + 3), .ref (a + 4), .ref (a + 5), .ref (a + 6), .ref (a + 8), .int (M.1 a 7), .int (M.1 a 8)]
  | 3 => [.ref (a + 1), .int (M.1 a 1)]
  | 4 => [.ref (a + 1), .ref (a + 58), .ref (a + 115), .ref (a + 116), .ref (a + 117), .ref (a + 118), .int (M.1 a 6), .int (M.1 a 7)]
  | 5 => [.ref (a + 1), .ref (a + 2), .ref (a + 3), .int (M.1 a 3), .ref (a + 4), .ref (a + 5), .ref (a + 6), .int (M.1 a 7), .ref (a + 7), .ref (a + 8), .ref (a + 9), .int (M.1 a 11)]
  | _ => []
def cz_cel (y : Nat → ClassId) (a kd : Nat) (M : cz_M) : va_E :=
  if kd < 6 then .inr (kd, cz_fs kd a M)
  else if kd = 7 then .inl (y 1, 60, .inl (M.1 a))
  else if kd = 10 then .inl (y 3, 4, .inr (.inr (.inr (.inr (fun j => some (a + 7 + j))))))
  else if kd = 11 then .inl (y 4, 40, .inr (.inr (.inr (.inr (fun j => some (a + 9 + j))))))
  else if kd = 12 then .inl (y 5, 2, .inr (.inr (.inr (.inr (fun j => some (a + 48 + 2 * j))))))
  else if kd = 13 then .inl (y 6, 4, .inr (.inr (.inr (.inr (fun j => some (M.2.2 j))))))
  else if kd = 14 then .inl (y 6, 2, .inr (.inr (.inr (.inr (fun j => some (a + 231 + 57 * j))))))
  else if kd < 5000 then .inl (y 0, kd - 100, .inl (M.1 a))
  else .inl (y 2, kd - 5000, .inl (M.1 a))
def cz_wl (y : Nat → ClassId) (b : Nat) (M : cz_M) : va_W := (List.range 471).map (fun o => (b + o, cz_cel y (b + o) (cz_kd o) M))
def cz_tys (y : Nat → ClassId) : List (ClassId × FieldType) := [(y 0, .int), (y 1, .char), (y 2, .boolean), (y 3, .object RX0), (y 4, .object RX1), (y 5, .object RX3), (y 6, .object RX2)]
def cz_K (b a k : Nat) : Prop := b ≤ a ∧ a < b + 471 ∧ cz_kd (a - b) = k
theorem cz_K_ch {b a k δ kc : Nat} (h : cz_K b a k) (hd : ∀ o, o < 471 → cz_kd o = k → o + δ < 471 ∧ cz_kd (o + δ) = kc) : cz_K b (a + δ) kc := by
  obtain ⟨h1, h2, h3⟩ := h
  obtain ⟨h4, h5⟩ := hd (a - b) (by omega) h3
  refine ⟨by omega, by omega, ?_⟩
  rw [show a + δ - b = a - b + δ by omega]
  exact h5
theorem cz_wl_len (y : Nat → ClassId) (b : Nat) (M : cz_M) : (cz_wl y b M).length = 471 := by simp [cz_wl]
theorem cz_wl_at (y : Nat → ClassId) (b : Nat) (M : cz_M) {i : Nat} (h : i < 471) : (cz_wl y b M)[i]? = some (b + i, cz_cel y (b + i) (cz_kd i) M) := by
  rw [cz_wl, List.getElem?_map, List.getElem?_range h]
  rfl
theorem cz_wl_get {y : Nat → ClassId} {b a k : Nat} {M : cz_M} (h : cz_K b a k) : (cz_wl y b M)[a - b]? = some (a, cz_cel y a k M) := by
  obtain ⟨h1, h2, h3⟩ := h
  rw [cz_wl_at y b M (by omega), show b + (a - b) = a by omega, h3]
theorem cz_wl_set {y : Nat → ClassId} {b a k : Nat} {M M' : cz_M} {e : va_E} (h : cz_K b a k) (he : e = cz_cel y a k M') (ho : ∀ x kd, x ≠ a → cz_cel y x kd M' = cz_cel y x kd M) : (cz_wl y b M).set (a - b) (a, e) = cz_wl y b M' := by
  subst he
  obtain ⟨h1, h2, h3⟩ := h
  apply List.ext_getElem?
  intro i
  by_cases hi : i < 471
  · by_cases hia : i = a - b
    · subst hia
      rw [List.getElem?_set_self (by rw [cz_wl_len]; exact hi), cz_wl_at y b M' hi, show b + (a - b) = a by omega, h3]
    · rw [List.getElem?_set_ne (Ne.symm hia), cz_wl_at y b M hi, cz_wl_at y b M' hi, ho (b + i) (cz_kd i) (by omega)]
  · rw [List.getElem?_eq_none (by rw [List.length_set, cz_wl_len]; omega), List.getElem?_eq_none (by rw [cz_wl_len]; omega)]
theorem cz_wl_D (y : Nat → ClassId) (b : Nat) (M : cz_M) : va_D (fun q => b ≤ q) (cz_wl y b M) := by
  have key : ∀ (k : Nat) (q : Nat × va_E), (cz_wl y b M)[k]? = some q → q.1 = b + k := by
    intro k q hk
    have hl := (List.getElem?_eq_some_iff.mp hk).1
    rw [cz_wl_len] at hl
    rw [cz_wl_at y b M hl] at hk
    cases hk
    rfl
  refine ⟨fun i j p q hi hj hpq => ?_, fun k q hk => ?_⟩
  · have h1 := key i p hi
    have h2 := key j q hj
    omega
  · show b ≤ q.1
    rw [key k q hk]
    exact Nat.le_add_right _ _
abbrev cz_G : Type := (Nat → ClassId) × va_G
/-- the two tables of numbers that the class reads -/
def cz_ST (b : Nat) (U : State) (H : Heap) : Prop := (∃ t : Nat, va_Z RX4 "LEAST_VALUES" "[I" (.ref t) (fun q => b ≤ q) U H ∧ va_T .int t 3 (fun j => .int (if j = 0 then 1 else if j = 1 then 0 else 1)) (fun q => b ≤ q) U H) ∧ ∃ t : Nat, va_Z RX4 "MOST_VALUES" "[I" (.ref t) (fun q => b ≤ q) U H ∧ va_T .int t 3 (fun j => .int (if j = 0 then 9 else if j = 1 then 8 else 5)) (fun q => b ≤ q) U H
theorem cz_ST.go {b : Nat} {u U : State} {H H1 : Heap} (h : cz_ST b u H) (hvm : u.vm.Alike U.vm) (hq : ∀ a : Nat, a < H.size → ¬ (fun q => b ≤ q) a → H1[a]? = H[a]?) : cz_ST b U H1 := by
  obtain ⟨⟨t, h1, h2⟩, t2, h3, h4⟩ := h
  exact ⟨⟨t, va_Z.kept (va_Z.moved hvm h1) hq, va_T.kept (va_T.moved hvm h2) hq⟩, t2, va_Z.kept (va_Z.moved hvm h3) hq, va_T.kept (va_T.moved hvm h4) hq⟩
/-- the world in a state; in a walk -/
def cz_WW (g : cz_G) (b : Nat) (M : cz_M) (U : State) : Prop := va_K g.2 vwCl (cz_tys g.1) U ∧ va_P g.2 vwCl (cz_wl g.1 b M) U.heap ∧ (∀ j, j < 4 → cz_K b (M.2.2 j) 2) ∧ cz_ST b U U.heap
def cz_WS (g : cz_G) (b : Nat) (M : cz_M) (s : State) (H : Heap) (locs : List Loc) : Prop := va_P g.2 vwCl (cz_wl g.1 b M) H ∧ (∀ j, j < 4 → cz_K b (M.2.2 j) 2) ∧ va_S (fun q => b ≤ q) s.heap H locs
def cz_Q (g : cz_G) (b : Nat) (v : Option Value) (M : cz_M) : Array Value → State → Outcome → State → Prop := fun _ st oc t => (oc = .returned v ∧ cz_WW g b M t) ∧ va_F (fun q => b ≤ q) st t
def cz_C (l : Launch) (y : MethodName) (cc : ByteArray) (maxL : Nat) (ret : Option FieldType) (F N : Nat) (g : cz_G) (b : Nat) (av : List Value) (M : cz_M) (v : Option Value) (M' : cz_M) : Prop :=
  Met l y (Cond.code y cc maxL ret :: lw_gd) { frames := F, cells := 0, slots := 0, locals := N } (va_Pc av (fun U => cz_WW g b M U)) (cz_Q g b v M') 0 0 (fun q => b ≤ q)
def cz_X (p : Program) (s : State) (m : MethodId) (args : Array Value) (meth : Method) (c : Code) (cc : ByteArray) (nL : Nat) (own : String) (g : cz_G) (b : Nat) (rt : Option FieldType) : Prop :=
  p.tables.exec = Jvm.exec ∧ c.code = cc ∧ c.maxLocals = nL ∧ s.vm.findClass own = some m.cls ∧ (∀ w ∈ lw_gd, w.before args s = true) ∧ va_K g.2 vwCl (cz_tys g.1) s ∧ cz_ST b s s.heap ∧ meth.sig.returnType = rt ∧ meth.locks = false
theorem cz_start {l : Launch} {y : MethodName} {cc : ByteArray} {maxL : Nat} {ret : Option FieldType} {F N : Nat} {g : cz_G} {b : Nat} {av : List Value} {M M' : cz_M} {v : Option Value} (hy : plainName y.cls = true) (hlen : (lg_sl av).length ≤ maxL)
    (body : ∀ (p : Program) (e : Env) (s : State) (m : MethodId) (args : Array Value) (below : List Frame) (meth : Method) (c : Code), cz_X p s m args meth c cc maxL y.cls g b ret → ∀ (H : Heap) (ls : Array Slot), cz_WS g b M s H [] → lv_has ls maxL (lv_args 0 av) →
      W p l e { frames := F, cells := 0, slots := 0, locals := N } s m args below meth c H [] 0 0 (MQ below (cz_Q g b v M') args s 0 0 (fun q => b ≤ q)) (F0 m 0 ls [])) : cz_C l y cc maxL ret F N g b av M v M' := by
  refine Met.ofW (cc := cc) (maxL := maxL) (ret := ret) hy rfl ?_
  intro p e s m args below meth c s₁ B hml hv
  obtain ⟨rfl, hK, hP, hp, hst⟩ := hv
  rw [lg_entry_eq]
  have hts := atoms_spec (ws := Cond.code y cc maxL ret :: lw_gd) B.pre
  exact body p e s m _ below meth c ⟨B.exec, B.bytes, hml, findClass_of_methodNamed B.named, fun w h => hts w (List.mem_cons_of_mem _ h), hK, hst, B.returns, B.notSynchronized⟩ _ _ ⟨hP, hp, va_S.rf⟩ (lv_entry av hlen)
/-! what is said of a field, once a field -/
def cz_fI (ci k : Nat) (C : String) (T : u_T) (N : Nat) : Prop := vwCl[ci]? = some (C, T, N) ∧ ci < 6 ∧ k < N ∧ (∀ w ∈ u_ws C T N, w ∈ lw_gd) ∧ (T k).1 = C ∧ (T k).2.2.2 = false ∧ parseFieldDescriptor (T k).2.2.1 = some .int ∧ (∀ a M, (cz_fs ci a M)[k]? = some (.int (M.1 a k))) ∧ (∀ a M v, cz_fs ci a (cz_mI M a k v) = (cz_fs ci a M).set k (.int v)) ∧ (∀ a M, k < (cz_fs ci a M).length) ∧ (∃ ty0 : Nat → FieldType, ∀ j, j < N → parseFieldDescriptor (T j).2.2.1 = some (ty0 j)) ∧ ∀ a, a < N → ∀ b, b < N → a ≠ b → (T a).2.1 ≠ (T b).2.1
def cz_fL (C : String) (T : u_T) (N : Nat) : Prop := vwCl[1]? = some (C, T, N) ∧ 2 < N ∧ (∀ w ∈ u_ws C T N, w ∈ lw_gd) ∧ (T 2).1 = C ∧ (T 2).2.2.2 = false ∧ parseFieldDescriptor (T 2).2.2.1 = some .long ∧ (∃ ty0 : Nat → FieldType, ∀ j, j < N → parseFieldDescriptor (T j).2.2.1 = some (ty0 j)) ∧ ∀ a, a < N → ∀ b, b < N → a ≠ b → (T a).2.1 ≠ (T b).2.1
def cz_fR (ci k δ kc : Nat) (C : String) (T : u_T) (N : Nat) : Prop := vwCl[ci]? = some (C, T, N) ∧ ci < 6 ∧ k < N ∧ (∀ w ∈ u_ws C T N, w ∈ lw_gd) ∧ (T k).1 = C ∧ (∀ a M, (cz_fs ci a M)[k]? = some (.ref (a + δ))) ∧ ∀ o, o < 471 → cz_kd o = ci → o + δ < 471 ∧ cz_kd (o + δ) = kc
theorem cz_cel_obj {y : Nat → ClassId} {a ci : Nat} {M : cz_M} (h : ci < 6) : cz_cel y a ci M = .inr (ci, cz_fs ci a M) := by rw [cz_cel, if_pos h]
theorem cz_cel_int {y : Nat → ClassId} {a n : Nat} {M : cz_M} (h : n < 4900) : cz_cel y a (n + 100) M = .inl (y 0, n, .inl (M.1 a)) := by
  rw [cz_cel, if_neg (by omega), if_neg (by omega), if_neg (by omega), if_neg (by omega), if_neg (by omega), if_neg (by omega), if_neg (by omega), if_pos (by omega), Nat.add_sub_cancel]
theorem cz_cel_zb {y : Nat → ClassId} {a n : Nat} {M : cz_M} : cz_cel y a (n + 5000) M = .inl (y 2, n, .inl (M.1 a)) := by
  rw [cz_cel, if_neg (by omega), if_neg (by omega), if_neg (by omega), if_neg (by omega), if_neg (by omega), if_neg (by omega), if_neg (by omega), if_neg (by omega), Nat.add_sub_cancel]
theorem cz_fs_I {ci x a k : Nat} {v : Int32} {M : cz_M} (h : x ≠ a) : cz_fs ci x (cz_mI M a k v) = cz_fs ci x M := by
  have e : ∀ j, (cz_mI M a k v).1 x j = M.1 x j := fun j => by simp [cz_mI, h]
  have e2 : (cz_mI M a k v).2.1 x = M.2.1 x := rfl
  unfold cz_fs
  split <;> simp only [e, e2]
theorem cz_fs_A {ci x a : Nat} {f : Nat → Int32} {M : cz_M} (h : x ≠ a) : cz_fs ci x (cz_mA M a f) = cz_fs ci x M := by
  have e : ∀ j, (cz_mA M a f).1 x j = M.1 x j := fun j => by simp [cz_mA, h]
  have e2 : (cz_mA M a f).2.1 x = M.2.1 x := rfl
  unfold cz_fs
  split <;> simp only [e, e2]
theorem cz_fs_L {ci x a : Nat} {v : Int64} {M : cz_M} (h : x ≠ a) : cz_fs ci x (cz_mL M a v) = cz_fs ci x M := by
  have e2 : (cz_mL M a v).2.1 x = M.2.1 x := by simp [cz_mL, h]
  have e : ∀ j, (cz_mL M a v).1 x j = M.1 x j := fun j => rfl
  unfold cz_fs
  split <;> simp only [e, e2]
theorem cz_fs_P {ci x k v : Nat} {M : cz_M} : cz_fs ci x (cz_mP M k v) = cz_fs ci x M := by
  unfold cz_fs
  split <;> rfl
theorem cz_cel_I {y : Nat → ClassId} {x a k kd : Nat} {v : Int32} {M : cz_M} (h : x ≠ a) : cz_cel y x kd (cz_mI M a k v) = cz_cel y x kd M := by
  have e : (cz_mI M a k v).1 x = M.1 x := by funext j; simp [cz_mI, h]
  have e3 : (cz_mI M a k v).2.2 = M.2.2 := rfl
  unfold cz_cel
  rw [cz_fs_I h, e, e3]
theorem cz_cel_A {y : Nat → ClassId} {x a kd : Nat} {f : Nat → Int32} {M : cz_M} (h : x ≠ a) : cz_cel y x kd (cz_mA M a f) = cz_cel y x kd M := by
  have e : (cz_mA M a f).1 x = M.1 x := by funext j; simp [cz_mA, h]
  have e3 : (cz_mA M a f).2.2 = M.2.2 := rfl
  unfold cz_cel
  rw [cz_fs_A h, e, e3]
theorem cz_cel_L {y : Nat → ClassId} {x a kd : Nat} {v : Int64} {M : cz_M} (h : x ≠ a) : cz_cel y x kd (cz_mL M a v) = cz_cel y x kd M := by
  have e : (cz_mL M a v).1 = M.1 := rfl
  have e3 : (cz_mL M a v).2.2 = M.2.2 := rfl
  unfold cz_cel
  rw [cz_fs_L h, e, e3]
theorem cz_cel_P {y : Nat → ClassId} {x k w kd : Nat} {M : cz_M} (h : kd ≠ 13) : cz_cel y x kd (cz_mP M k w) = cz_cel y x kd M := by
  have e : (cz_mP M k w).1 = M.1 := rfl
  unfold cz_cel
  rw [cz_fs_P, e, if_neg h, if_neg h]
section CZ
variable {p : Program} {l : Launch} {e : Env} {R : Room} {s : State} {m : MethodId} {args : Array Value} {below : List Frame} {meth : Method} {c : Code} {H : Heap} {locs : List Loc} {Q : State → Prop}
variable {cc : ByteArray} {pc nL : Nat} {ls : Array Slot} {rest : List Value} {g : cz_G} {b a : Nat} {own : String} {rt : Option FieldType} {M : cz_M} {α : Type} {res : α}
theorem cz_getI (X : cz_X p s m args meth c cc nL own g b rt) (hM : cz_WS g b M s H locs) {ci k N idx : Nat} {C : String} {T : u_T} (hF : cz_fI ci k C T N) (hk : cz_K b a ci) (hl : Cond.fieldLink own idx C (T k).2.1 (T k).2.2.1 ∈ lw_gd) (hd : decode cc pc = .ok (.getfield idx, 3))
    (kk : W p l e R s m args below meth c H locs 0 0 Q (F0 m (pc + 3) ls (.int (M.1 a k) :: rest))) : W p l e R s m args below meth c H locs 0 0 Q (F0 m pc ls (.ref a :: rest)) := by
  obtain ⟨h1, h2, h3, h4, h5, -, -, h8, -⟩ := hF
  obtain ⟨hx, hb, -, ho, ht, hK, -⟩ := X
  exact va_get hx hb ht h4 ho hK hM.1 (a - b) (by rw [cz_wl_get hk, cz_cel_obj h2]) h1 k h3 (ht _ hl) (fun _ h9 => by rw [h5] at h9; exact h9) (h8 a M) hd kk
theorem cz_getL (X : cz_X p s m args meth c cc nL own g b rt) (hM : cz_WS g b M s H locs) {N idx : Nat} {C : String} {T : u_T} (hF : cz_fL C T N) (hk : cz_K b a 1) (hl : Cond.fieldLink own idx C (T 2).2.1 (T 2).2.2.1 ∈ lw_gd) (hd : decode cc pc = .ok (.getfield idx, 3))
    (kk : W p l e R s m args below meth c H locs 0 0 Q (F0 m (pc + 3) ls (.long (M.2.1 a) :: rest))) : W p l e R s m args below meth c H locs 0 0 Q (F0 m pc ls (.ref a :: rest)) := by
  obtain ⟨h1, h3, h4, h5, -⟩ := hF
  obtain ⟨hx, hb, -, ho, ht, hK, -⟩ := X
  exact va_get hx hb ht h4 ho hK hM.1 (a - b) (by rw [cz_wl_get hk, cz_cel_obj (by decide)]) h1 2 h3 (ht _ hl) (fun _ h9 => by rw [h5] at h9; exact h9) rfl hd kk
theorem cz_getR (X : cz_X p s m args meth c cc nL own g b rt) (hM : cz_WS g b M s H locs) {ci k δ kc N idx : Nat} {C : String} {T : u_T} (hF : cz_fR ci k δ kc C T N) (hk : cz_K b a ci) (hl : Cond.fieldLink own idx C (T k).2.1 (T k).2.2.1 ∈ lw_gd) (hd : decode cc pc = .ok (.getfield idx, 3))
    (kk : cz_K b (a + δ) kc → W p l e R s m args below meth c H locs 0 0 Q (F0 m (pc + 3) ls (.ref (a + δ) :: rest))) : W p l e R s m args below meth c H locs 0 0 Q (F0 m pc ls (.ref a :: rest)) := by
  obtain ⟨h1, h2, h3, h4, h5, h6, h7⟩ := hF
  obtain ⟨hx, hb, -, ho, ht, hK, -⟩ := X
  exact va_get hx hb ht h4 ho hK hM.1 (a - b) (by rw [cz_wl_get hk, cz_cel_obj h2]) h1 k h3 (ht _ hl) (fun _ h9 => by rw [h5] at h9; exact h9) (h6 a M) hd (kk (cz_K_ch hk h7))
theorem cz_putI (X : cz_X p s m args meth c cc nL own g b rt) (hM : cz_WS g b M s H locs) {ci k N idx : Nat} {C : String} {T : u_T} {v : Int32} {K : cz_M → Option α} (h : cz_lt (cz_mI M a k v) K = some res) (hF : cz_fI ci k C T N) (hk : cz_K b a ci) (hl : Cond.fieldLink own idx C (T k).2.1 (T k).2.2.1 ∈ lw_gd) (hd : decode cc pc = .ok (.putfield idx, 3))
    (kk : ∀ (M : cz_M) (H : Heap) (locs : List Loc), K M = some res → cz_WS g b M s H locs → W p l e R s m args below meth c H locs 0 0 Q (F0 m (pc + 3) ls rest)) : W p l e R s m args below meth c H locs 0 0 Q (F0 m pc ls (.int v :: .ref a :: rest)) := by
  obtain ⟨h1, h2, h3, h4, h5, h6, h7, h8, h9, h10, ⟨ty0, h11⟩, h12⟩ := hF
  obtain ⟨hx, hb, -, ho, ht, hK, -⟩ := X
  refine va_put hx hb ht h4 ty0 h11 h12 ho hK hM.1 (cz_wl_D g.1 b M) hM.2.2 (a - b) (by rw [cz_wl_get hk, cz_cel_obj h2]) h1 k h3 (ht _ hl) (fun _ h9 => by rw [h5] at h9; exact h9) h6 h7 rfl rfl (h10 a M) hd (fun H1 locs1 q1 q2 q3 => ?_)
  refine kk _ H1 locs1 h ⟨?_, hM.2.1, q3⟩
  rw [cz_wl_set hk (M' := cz_mI M a k v) (by rw [cz_cel_obj h2, h9]) (fun x kd hx => cz_cel_I hx)] at q1
  exact q1
theorem cz_putL (X : cz_X p s m args meth c cc nL own g b rt) (hM : cz_WS g b M s H locs) {N idx : Nat} {C : String} {T : u_T} {v : Int64} {K : cz_M → Option α} (h : cz_lt (cz_mL M a v) K = some res) (hF : cz_fL C T N) (hk : cz_K b a 1) (hl : Cond.fieldLink own idx C (T 2).2.1 (T 2).2.2.1 ∈ lw_gd) (hd : decode cc pc = .ok (.putfield idx, 3))
    (kk : ∀ (M : cz_M) (H : Heap) (locs : List Loc), K M = some res → cz_WS g b M s H locs → W p l e R s m args below meth c H locs 0 0 Q (F0 m (pc + 3) ls rest)) : W p l e R s m args below meth c H locs 0 0 Q (F0 m pc ls (.long v :: .ref a :: rest)) := by
  obtain ⟨h1, h3, h4, h5, h6, h7, ⟨ty0, h11⟩, h12⟩ := hF
  obtain ⟨hx, hb, -, ho, ht, hK, -⟩ := X
  refine va_put hx hb ht h4 ty0 h11 h12 ho hK hM.1 (cz_wl_D g.1 b M) hM.2.2 (a - b) (by rw [cz_wl_get hk, cz_cel_obj (by decide)]) h1 2 h3 (ht _ hl) (fun _ h9 => by rw [h5] at h9; exact h9) h6 h7 rfl rfl (by simp [cz_fs]) hd (fun H1 locs1 q1 q2 q3 => ?_)
  refine kk _ H1 locs1 h ⟨?_, hM.2.1, q3⟩
  rw [cz_wl_set hk (M' := cz_mL M a v) (by rw [cz_cel_obj (by decide)]; simp [cz_fs, cz_mL]) (fun x kd hx => cz_cel_L hx)] at q1
  exact q1
theorem cz_iald {n : Nat} (X : cz_X p s m args meth c cc nL own g b rt) (hM : cz_WS g b M s H locs) {i : Int32} {K : Option α} (h : cz_gd (cz_ib i n) K = some res) (hk : cz_K b a (n + 100)) (hn : n < 4900) (hd : decode cc pc = .ok (.iaload, 1))
    (kk : K = some res → W p l e R s m args below meth c H locs 0 0 Q (F0 m (pc + 1) ls (.int (M.1 a i.toNatClampNeg) :: rest))) : W p l e R s m args below meth c H locs 0 0 Q (F0 m pc ls (.int i :: .ref a :: rest)) := by
  obtain ⟨hi, hK⟩ := cz_gd_t h
  obtain ⟨hx, hb, -, ho, ht, hKK, -⟩ := X
  exact va_iald hx hb hKK hM.1 (a - b) 0 (by rw [cz_wl_get hk, cz_cel_int hn]) rfl (cz_ib_in hi) hd (kk hK)
theorem cz_zald {n : Nat} (X : cz_X p s m args meth c cc nL own g b rt) (hM : cz_WS g b M s H locs) {i : Int32} {K : Option α} (h : cz_gd (cz_ib i n) K = some res) (hk : cz_K b a (n + 5000)) (hd : decode cc pc = .ok (.baload, 1))
    (kk : K = some res → W p l e R s m args below meth c H locs 0 0 Q (F0 m (pc + 1) ls (.int (M.1 a i.toNatClampNeg) :: rest))) : W p l e R s m args below meth c H locs 0 0 Q (F0 m pc ls (.int i :: .ref a :: rest)) := by
  obtain ⟨hi, hK⟩ := cz_gd_t h
  obtain ⟨hx, hb, -, ho, ht, hKK, -⟩ := X
  exact va_zald hx hb hKK hM.1 (a - b) 2 (by rw [cz_wl_get hk, cz_cel_zb]) rfl (cz_ib_in hi) hd (kk hK)
theorem cz_cald (X : cz_X p s m args meth c cc nL own g b rt) (hM : cz_WS g b M s H locs) {i : Int32} {K : Option α} (h : cz_gd (cz_ib i 60) K = some res) (hk : cz_K b a 7) (hd : decode cc pc = .ok (.caload, 1))
    (kk : K = some res → W p l e R s m args below meth c H locs 0 0 Q (F0 m (pc + 1) ls (.int (M.1 a i.toNatClampNeg) :: rest))) : W p l e R s m args below meth c H locs 0 0 Q (F0 m pc ls (.int i :: .ref a :: rest)) := by
  obtain ⟨hi, hK⟩ := cz_gd_t h
  obtain ⟨hx, hb, -, ho, ht, hKK, -⟩ := X
  exact va_cald hx hb hKK hM.1 (a - b) 1 (by rw [cz_wl_get hk]; rfl) rfl (cz_ib_in hi) hd (kk hK)
theorem cz_iast {n : Nat} (X : cz_X p s m args meth c cc nL own g b rt) (hM : cz_WS g b M s H locs) {i v : Int32} {K : cz_M → Option α} (h : cz_gd (cz_ib i n) (cz_lt (cz_mI M a i.toNatClampNeg v) K) = some res) (hk : cz_K b a (n + 100)) (hn : n < 4900) (hd : decode cc pc = .ok (.iastore, 1))
    (kk : ∀ (M : cz_M) (H : Heap) (locs : List Loc), K M = some res → cz_WS g b M s H locs → W p l e R s m args below meth c H locs 0 0 Q (F0 m (pc + 1) ls rest)) : W p l e R s m args below meth c H locs 0 0 Q (F0 m pc ls (.int v :: .int i :: .ref a :: rest)) := by
  obtain ⟨hi, hK⟩ := cz_gd_t h
  obtain ⟨hx, hb, -, ho, ht, hKK, -⟩ := X
  refine va_iast hx hb hKK hM.1 (cz_wl_D g.1 b M) hM.2.2 (a - b) 0 (by rw [cz_wl_get hk, cz_cel_int hn]) rfl (cz_ib_in hi) hd (fun H1 locs1 q1 q2 q3 => ?_)
  refine kk _ H1 locs1 hK ⟨?_, hM.2.1, q3⟩
  rw [cz_wl_set hk (M' := cz_mI M a i.toNatClampNeg v) (by
    rw [cz_cel_int hn]
    refine congrArg (fun z => Sum.inl (g.1 0, n, Sum.inl z)) ?_
    funext j
    simp [cz_mI, upd]) (fun x kd hx => cz_cel_I hx)] at q1
  exact q1
theorem cz_zast {n : Nat} (X : cz_X p s m args meth c cc nL own g b rt) (hM : cz_WS g b M s H locs) {i v : Int32} {K : cz_M → Option α} (h : cz_gd (cz_ib i n) (cz_gd (cz_zb v) (cz_lt (cz_mI M a i.toNatClampNeg v) K)) = some res) (hk : cz_K b a (n + 5000)) (hd : decode cc pc = .ok (.bastore, 1))
    (kk : ∀ (M : cz_M) (H : Heap) (locs : List Loc), K M = some res → cz_WS g b M s H locs → W p l e R s m args below meth c H locs 0 0 Q (F0 m (pc + 1) ls rest)) : W p l e R s m args below meth c H locs 0 0 Q (F0 m pc ls (.int v :: .int i :: .ref a :: rest)) := by
  obtain ⟨hi, hK⟩ := cz_gd_t h
  obtain ⟨hz, hK⟩ := cz_gd_t hK
  have hv : vp_nar .boolean v = v := by
    simp only [cz_zb, decide_eq_true_eq] at hz
    rcases hz with rfl | rfl <;> rfl
  obtain ⟨hx, hb, -, ho, ht, hKK, -⟩ := X
  refine va_zast hx hb hKK hM.1 (cz_wl_D g.1 b M) hM.2.2 (a - b) 2 (by rw [cz_wl_get hk, cz_cel_zb]) rfl (cz_ib_in hi) hd (fun H1 locs1 q1 q2 q3 => ?_)
  refine kk _ H1 locs1 hK ⟨?_, hM.2.1, q3⟩
  rw [hv] at q1
  rw [cz_wl_set hk (M' := cz_mI M a i.toNatClampNeg v) (by
    rw [cz_cel_zb]
    refine congrArg (fun z => Sum.inl (g.1 2, n, Sum.inl z)) ?_
    funext j
    simp [cz_mI, upd]) (fun x kd hx => cz_cel_I hx)] at q1
  exact q1
theorem cz_cast (X : cz_X p s m args meth c cc nL own g b rt) (hM : cz_WS g b M s H locs) {i v : Int32} {K : cz_M → Option α} (h : cz_gd (cz_ib i 60) (cz_gd (cz_hb v) (cz_lt (cz_mI M a i.toNatClampNeg v) K)) = some res) (hk : cz_K b a 7) (hd : decode cc pc = .ok (.castore, 1))
    (kk : ∀ (M : cz_M) (H : Heap) (locs : List Loc), K M = some res → cz_WS g b M s H locs → W p l e R s m args below meth c H locs 0 0 Q (F0 m (pc + 1) ls rest)) : W p l e R s m args below meth c H locs 0 0 Q (F0 m pc ls (.int v :: .int i :: .ref a :: rest)) := by
  obtain ⟨hi, hK⟩ := cz_gd_t h
  obtain ⟨hz, hK⟩ := cz_gd_t hK
  have hv : vp_nar .char v = v := by
    simp only [cz_hb, decide_eq_true_eq] at hz
    show (match narrow .char (.int v) with | .int y => y | _ => 0) = v
    rw [hz.1]
  obtain ⟨hx, hb, -, ho, ht, hKK, -⟩ := X
  refine va_cast hx hb hKK hM.1 (cz_wl_D g.1 b M) hM.2.2 (a - b) 1 (by rw [cz_wl_get hk]; rfl) rfl (cz_ib_in hi) hd (fun H1 locs1 q1 q2 q3 => ?_)
  refine kk _ H1 locs1 hK ⟨?_, hM.2.1, q3⟩
  rw [hv] at q1
  rw [cz_wl_set hk (M' := cz_mI M a i.toNatClampNeg v) (by
    show _ = Sum.inl (g.1 1, 60, Sum.inl _)
    refine congrArg (fun z => Sum.inl (g.1 1, 60, Sum.inl z)) ?_
    funext j
    simp [cz_mI, upd]) (fun x kd hx => cz_cel_I hx)] at q1
  exact q1
theorem cz_in_nat {i : Int32} {n : Nat} (h : cz_ib i n = true) : i.toNatClampNeg < n := cz_ib_lt h
theorem cz_aald {kd n t0 kc : Nat} {cN : String} {δ : Nat → Nat} (X : cz_X p s m args meth c cc nL own g b rt) (hM : cz_WS g b M s H locs) {i : Int32} {K : Option α} (h : cz_gd (cz_ib i n) K = some res) (hk : cz_K b a kd) (he : cz_cel g.1 a kd M = .inl (g.1 t0, n, .inr (.inr (.inr (.inr (fun j => some (a + δ j))))))) (ht0 : (cz_tys g.1)[t0]? = some (g.1 t0, .object cN)) (hch : ∀ o, o < 471 → cz_kd o = kd → ∀ j, j < n → o + δ j < 471 ∧ cz_kd (o + δ j) = kc) (hd : decode cc pc = .ok (.aaload, 1))
    (kk : K = some res → cz_K b (a + δ i.toNatClampNeg) kc → W p l e R s m args below meth c H locs 0 0 Q (F0 m (pc + 1) ls (.ref (a + δ i.toNatClampNeg) :: rest))) : W p l e R s m args below meth c H locs 0 0 Q (F0 m pc ls (.int i :: .ref a :: rest)) := by
  obtain ⟨hi, hK⟩ := cz_gd_t h
  obtain ⟨hx, hb, -, ho, ht, hKK, -⟩ := X
  exact va_aldq (f := fun j => some (a + δ j)) hx hb hKK hM.1 (a - b) t0 (by rw [cz_wl_get hk, he]) ht0 (cz_ib_in hi) hd (kk hK (cz_K_ch hk (fun o h1 h2 => hch o h1 h2 _ (cz_ib_lt hi))))
theorem cz_ch0 : ∀ o, o < 471 → cz_kd o = 10 → ∀ j, j < 4 → o + (7 + j) < 471 ∧ cz_kd (o + (7 + j)) = 0 := by decide +kernel
theorem cz_ch1 : ∀ o, o < 471 → cz_kd o = 11 → ∀ j, j < 40 → o + (9 + j) < 471 ∧ cz_kd (o + (9 + j)) = 1 := by decide +kernel
theorem cz_ch2 : ∀ o, o < 471 → cz_kd o = 12 → ∀ j, j < 2 → o + (48 + 2 * j) < 471 ∧ cz_kd (o + (48 + 2 * j)) = 3 := by decide +kernel
theorem cz_ch4 : ∀ o, o < 471 → cz_kd o = 14 → ∀ j, j < 2 → o + (231 + 57 * j) < 471 ∧ cz_kd (o + (231 + 57 * j)) = 2 := by decide +kernel
theorem cz_aald0 (X : cz_X p s m args meth c cc nL own g b rt) (hM : cz_WS g b M s H locs) {i : Int32} {K : Option α} (h : cz_gd (cz_ib i 4) K = some res) (hk : cz_K b a 10) (hd : decode cc pc = .ok (.aaload, 1))
    (kk : K = some res → cz_K b (a + (7 + i.toNatClampNeg)) 0 → W p l e R s m args below meth c H locs 0 0 Q (F0 m (pc + 1) ls (.ref (a + (7 + i.toNatClampNeg)) :: rest))) : W p l e R s m args below meth c H locs 0 0 Q (F0 m pc ls (.int i :: .ref a :: rest)) :=
  cz_aald (δ := fun j => 7 + j) (t0 := 3) (cN := RX0) X hM h hk (by simp only [cz_cel]; simp [Nat.add_assoc]) rfl cz_ch0 hd kk
theorem cz_aald1 (X : cz_X p s m args meth c cc nL own g b rt) (hM : cz_WS g b M s H locs) {i : Int32} {K : Option α} (h : cz_gd (cz_ib i 40) K = some res) (hk : cz_K b a 11) (hd : decode cc pc = .ok (.aaload, 1))
    (kk : K = some res → cz_K b (a + (9 + i.toNatClampNeg)) 1 → W p l e R s m args below meth c H locs 0 0 Q (F0 m (pc + 1) ls (.ref (a + (9 + i.toNatClampNeg)) :: rest))) : W p l e R s m args below meth c H locs 0 0 Q (F0 m pc ls (.int i :: .ref a :: rest)) :=
  cz_aald (δ := fun j => 9 + j) (t0 := 4) (cN := RX1) X hM h hk (by simp only [cz_cel]; simp [Nat.add_assoc]) rfl cz_ch1 hd kk
theorem cz_aald2 (X : cz_X p s m args meth c cc nL own g b rt) (hM : cz_WS g b M s H locs) {i : Int32} {K : Option α} (h : cz_gd (cz_ib i 2) K = some res) (hk : cz_K b a 12) (hd : decode cc pc = .ok (.aaload, 1))
    (kk : K = some res → cz_K b (a + (48 + 2 * i.toNatClampNeg)) 3 → W p l e R s m args below meth c H locs 0 0 Q (F0 m (pc + 1) ls (.ref (a + (48 + 2 * i.toNatClampNeg)) :: rest))) : W p l e R s m args below meth c H locs 0 0 Q (F0 m pc ls (.int i :: .ref a :: rest)) :=
  cz_aald (δ := fun j => 48 + 2 * j) (t0 := 5) (cN := RX3) X hM h hk (by simp only [cz_cel]; simp [Nat.add_assoc]) rfl cz_ch2 hd kk
theorem cz_aald4 (X : cz_X p s m args meth c cc nL own g b rt) (hM : cz_WS g b M s H locs) {i : Int32} {K : Option α} (h : cz_gd (cz_ib i 2) K = some res) (hk : cz_K b a 14) (hd : decode cc pc = .ok (.aaload, 1))
    (kk : K = some res → cz_K b (a + (231 + 57 * i.toNatClampNeg)) 2 → W p l e R s m args below meth c H locs 0 0 Q (F0 m (pc + 1) ls (.ref (a + (231 + 57 * i.toNatClampNeg)) :: rest))) : W p l e R s m args below meth c H locs 0 0 Q (F0 m pc ls (.int i :: .ref a :: rest)) :=
  cz_aald (δ := fun j => 231 + 57 * j) (t0 := 6) (cN := RX2) X hM h hk (by simp only [cz_cel]; simp [Nat.add_assoc]) rfl cz_ch4 hd kk
theorem cz_aald3 (X : cz_X p s m args meth c cc nL own g b rt) (hM : cz_WS g b M s H locs) {i : Int32} {K : Option α} (h : cz_gd (cz_ib i 4) K = some res) (hk : cz_K b a 13) (hd : decode cc pc = .ok (.aaload, 1))
    (kk : K = some res → cz_K b (M.2.2 i.toNatClampNeg) 2 → W p l e R s m args below meth c H locs 0 0 Q (F0 m (pc + 1) ls (.ref (M.2.2 i.toNatClampNeg) :: rest))) : W p l e R s m args below meth c H locs 0 0 Q (F0 m pc ls (.int i :: .ref a :: rest)) := by
  obtain ⟨hi, hK⟩ := cz_gd_t h
  obtain ⟨hx, hb, -, ho, ht, hKK, -⟩ := X
  exact va_aldq (f := fun j => some (M.2.2 j)) (C := RX2) hx hb hKK hM.1 (a - b) 6 (by rw [cz_wl_get hk]; rfl) rfl (cz_ib_in hi) hd (kk hK (hM.2.1 _ (cz_ib_lt hi)))
/-- the one cell of kind 13 -/
theorem cz_one13 : ∀ o, o < 471 → cz_kd o = 13 → o = 115 := by decide +kernel
theorem cz_wl_setP {y : Nat → ClassId} {b a : Nat} {M M' : cz_M} {e : va_E} (h : cz_K b a 13) (he : e = cz_cel y a 13 M') (ho : ∀ x kd, kd ≠ 13 → cz_cel y x kd M' = cz_cel y x kd M) : (cz_wl y b M).set (a - b) (a, e) = cz_wl y b M' := by
  subst he
  obtain ⟨h1, h2, h3⟩ := h
  have h4 := cz_one13 (a - b) (by omega) h3
  apply List.ext_getElem?
  intro i
  by_cases hi : i < 471
  · by_cases hia : i = a - b
    · subst hia
      rw [List.getElem?_set_self (by rw [cz_wl_len]; exact hi), cz_wl_at y b M' hi, show b + (a - b) = a by omega, h3]
    · rw [List.getElem?_set_ne (Ne.symm hia), cz_wl_at y b M hi, cz_wl_at y b M' hi, ho (b + i) (cz_kd i) (fun q => hia (by rw [h4]; exact cz_one13 i hi q))]
  · rw [List.getElem?_eq_none (by rw [List.length_set, cz_wl_len]; omega), List.getElem?_eq_none (by rw [cz_wl_len]; omega)]
theorem cz_aast {w : Nat} (X : cz_X p s m args meth c cc nL own g b rt) (hM : cz_WS g b M s H locs) {i : Int32} {K : cz_M → Option α} (h : cz_gd (cz_ib i 4) (cz_lt (cz_mP M i.toNatClampNeg w) K) = some res) (hk : cz_K b a 13) (hw : cz_K b w 2) (hd : decode cc pc = .ok (.aastore, 1))
    (kk : ∀ (M : cz_M) (H : Heap) (locs : List Loc), K M = some res → cz_WS g b M s H locs → W p l e R s m args below meth c H locs 0 0 Q (F0 m (pc + 1) ls rest)) : W p l e R s m args below meth c H locs 0 0 Q (F0 m pc ls (.ref w :: .int i :: .ref a :: rest)) := by
  obtain ⟨hi, hK⟩ := cz_gd_t h
  obtain ⟨hx, hb, -, ho, ht, hKK, -⟩ := X
  refine va_astq (r := (RX2, TX2, 9)) hx hb hKK hM.1 (cz_wl_D g.1 b M) hM.2.2 (a - b) 6 (w - b) 2 (n := 4) (f := fun j => some (M.2.2 j)) (by rw [cz_wl_get hk]; rfl) rfl (by rw [cz_wl_get hw, cz_cel_obj (by decide)]) rfl (cz_ib_in hi) hd (fun H1 locs1 q1 q2 q3 => ?_)
  refine kk _ H1 locs1 hK ⟨?_, ?_, q3⟩
  · rw [cz_wl_setP hk (M' := cz_mP M i.toNatClampNeg w) (by
      show _ = Sum.inl (g.1 6, 4, Sum.inr (Sum.inr (Sum.inr (Sum.inr _))))
      refine congrArg (fun z => Sum.inl (g.1 6, 4, Sum.inr (Sum.inr (Sum.inr (Sum.inr z))))) ?_
      funext j
      by_cases hj : j = i.toNatClampNeg <;> simp [cz_mP, va_up, hj]) (fun x kd hx => cz_cel_P hx)] at q1
    exact q1
  · intro j hj
    by_cases hji : j = i.toNatClampNeg
    · show cz_K b (if j = i.toNatClampNeg then w else M.2.2 j) 2
      rw [if_pos hji]; exact hw
    · show cz_K b (if j = i.toNatClampNeg then w else M.2.2 j) 2
      rw [if_neg hji]; exact hM.2.1 j hj
theorem cz_alen {n : Nat} {v : Int32} (X : cz_X p s m args meth c cc nL own g b rt) (hM : cz_WS g b M s H locs) (hk : cz_K b a (n + 100)) (hn : n < 4900) (hv : Int32.ofNat n = v) (hd : decode cc pc = .ok (.arraylength, 1))
    (kk : W p l e R s m args below meth c H locs 0 0 Q (F0 m (pc + 1) ls (.int v :: rest))) : W p l e R s m args below meth c H locs 0 0 Q (F0 m pc ls (.ref a :: rest)) := by
  obtain ⟨hx, hb, -, ho, ht, hKK, -⟩ := X
  exact va_alen hx hb hKK hM.1 (a - b) 0 (x := (n, .inl (M.1 a))) (by rw [cz_wl_get hk, cz_cel_int hn]) (ty := .int) rfl hv hd kk
theorem cz_copy {n0 n1 a0 idx : Nat} {sp dp n : Int32} (X : cz_X p s m args meth c cc nL own g b rt) (hM : cz_WS g b M s H locs) (hls : ls.size = nL) {K : cz_M → Option α} (h : cz_gd (cz_cb sp dp n n0 n1) (cz_lt (cz_mA M a (va_cpy (M.1 a0) (M.1 a) sp.toNatClampNeg dp.toNatClampNeg n.toNatClampNeg)) K) = some res) (hk0 : cz_K b a0 (n0 + 100)) (hk1 : cz_K b a (n1 + 100)) (hn0 : n0 < 4900) (hn1 : n1 < 4900)
    (hl : Cond.methodLink own idx arraycopyName ∈ lw_gd) (hfr : 1 ≤ R.frames) (hlo : (rest.map fun v => v.category).sum + (nativeFrameWords "java/lang/System" "arraycopy" 5 + 11) ≤ R.locals) (hd : decode cc pc = .ok (.invokestatic idx, 3))
    (kk : ∀ (M : cz_M) (H : Heap) (locs : List Loc), K M = some res → cz_WS g b M s H locs → W p l e R s m args below meth c H locs 0 0 Q (F0 m (pc + 3) ls rest)) : W p l e R s m args below meth c H locs 0 0 Q (F0 m pc ls (.int n :: .int dp :: .ref a :: .int sp :: .ref a0 :: rest)) := by
  obtain ⟨hi, hK⟩ := cz_gd_t h
  simp only [cz_cb, Bool.and_eq_true, decide_eq_true_eq] at hi
  obtain ⟨i1, i2, i3, i4, i5⟩ := hi
  obtain ⟨hx, hb, hml, ho, ht, hKK, -⟩ := X
  refine va_copyi hx hb (hml.trans hls.symm) ho (ht _ hl) (ht _ mn_acopy) (ht _ mt_acopy) (ht _ ini_J10) hKK hM.1 (cz_wl_D g.1 b M) hM.2.2 (a0 - b) (a - b) 0 0 (by rw [cz_wl_get hk0, cz_cel_int hn0]) (by rw [cz_wl_get hk1, cz_cel_int hn1]) rfl rfl rfl i1 i2 i3 i4 i5 (fun _ _ => rfl) hfr hlo hd (fun H1 locs1 q1 q2 q3 => ?_)
  refine kk _ H1 locs1 hK ⟨?_, hM.2.1, q3⟩
  rw [cz_wl_set hk1 (M' := cz_mA M a (va_cpy (M.1 a0) (M.1 a) sp.toNatClampNeg dp.toNatClampNeg n.toNatClampNeg)) (by
    rw [cz_cel_int hn1]
    refine congrArg (fun z => Sum.inl (g.1 0, n1, Sum.inl z)) ?_
    funext j
    simp [cz_mA]) (fun x kd hx => cz_cel_A hx)] at q1
  exact q1
theorem cz_max {idx : Nat} {x y : Int32} (X : cz_X p s m args meth c cc nL own g b rt) (hls : ls.size = nL) (hl : Cond.methodLink own idx Lib.Math.max.name ∈ lw_gd) (hfr : 1 ≤ R.frames) (hlo : (rest.map fun v => v.category).sum + 13 ≤ R.locals) (hd : decode cc pc = .ok (.invokestatic idx, 3))
    (kk : W p l e R s m args below meth c H locs 0 0 Q (F0 m (pc + 3) ls (.int (if x < y then y else x) :: rest))) : W p l e R s m args below meth c H locs 0 0 Q (F0 m pc ls (.int y :: .int x :: rest)) := by
  obtain ⟨hx, hb, hml, ho, ht, -⟩ := X
  exact va_mmax hx hb (hml.trans hls.symm) ho (ht _ hl) (ht _ mt_max) (ht _ ini_J9) (ht _ mc_max) hfr hlo (Nat.zero_le _) (Nat.zero_le _) hd kk
theorem cz_stL {idx : Nat} (X : cz_X p s m args meth c cc nL own g b rt) (hM : cz_WS g b M s H locs) (hl : Cond.fieldLink own idx RX4 "LEAST_VALUES" "[I" ∈ lw_gd) (hd : decode cc pc = .ok (.getstatic idx, 3))
    (kk : ∀ t : Nat, va_T .int t 3 (fun j => .int (if j = 0 then 1 else if j = 1 then 0 else 1)) (fun q => b ≤ q) s s.heap → W p l e R s m args below meth c H locs 0 0 Q (F0 m (pc + 3) ls (.ref t :: rest))) : W p l e R s m args below meth c H locs 0 0 Q (F0 m pc ls rest) := by
  obtain ⟨hx, hb, hml, ho, ht, hKK, ⟨⟨t, h1, h2⟩, -⟩, -⟩ := X
  exact va_gets hx hb h1 hM.2.2 ho (ht _ hl) (fun _ h9 => h9) hd (kk t h2)
theorem cz_stM {idx : Nat} (X : cz_X p s m args meth c cc nL own g b rt) (hM : cz_WS g b M s H locs) (hl : Cond.fieldLink own idx RX4 "MOST_VALUES" "[I" ∈ lw_gd) (hd : decode cc pc = .ok (.getstatic idx, 3))
    (kk : ∀ t : Nat, va_T .int t 3 (fun j => .int (if j = 0 then 9 else if j = 1 then 8 else 5)) (fun q => b ≤ q) s s.heap → W p l e R s m args below meth c H locs 0 0 Q (F0 m (pc + 3) ls (.ref t :: rest))) : W p l e R s m args below meth c H locs 0 0 Q (F0 m pc ls rest) := by
  obtain ⟨hx, hb, hml, ho, ht, hKK, ⟨-, ⟨t, h1, h2⟩⟩, -⟩ := X
  exact va_gets hx hb h1 hM.2.2 ho (ht _ hl) (fun _ h9 => h9) hd (kk t h2)
theorem cz_stld {t : Nat} {f : Nat → Int32} (X : cz_X p s m args meth c cc nL own g b rt) (hM : cz_WS g b M s H locs) (hT : va_T .int t 3 (fun j => .int (f j)) (fun q => b ≤ q) s s.heap) {i : Int32} {K : Option α} (h : cz_gd (cz_ib i 3) K = some res) (hd : decode cc pc = .ok (.iaload, 1))
    (kk : K = some res → W p l e R s m args below meth c H locs 0 0 Q (F0 m (pc + 1) ls (.int (f i.toNatClampNeg) :: rest))) : W p l e R s m args below meth c H locs 0 0 Q (F0 m pc ls (.int i :: .ref t :: rest)) := by
  obtain ⟨hi, hK⟩ := cz_gd_t h
  obtain ⟨hx, hb, -⟩ := X
  exact va_ti hx hb hT hM.2.2 (cz_ib_in hi) (v := .int (f i.toNatClampNeg)) rfl hd (kk hK)
theorem cz_nmi {v : Int32} {K : Int32 → Option α} (h : cz_lt v K = some res) (kk : ∀ v : Int32, K v = some res → W p l e R s m args below meth c H locs 0 0 Q (F0 m pc ls (.int v :: rest))) : W p l e R s m args below meth c H locs 0 0 Q (F0 m pc ls (.int v :: rest)) := kk v h
theorem cz_nml {v : Int64} {K : Int64 → Option α} (h : cz_lt v K = some res) (kk : ∀ v : Int64, K v = some res → W p l e R s m args below meth c H locs 0 0 Q (F0 m pc ls (.long v :: rest))) : W p l e R s m args below meth c H locs 0 0 Q (F0 m pc ls (.long v :: rest)) := kk v h
theorem cz_nmr {v kc : Nat} {K : Nat → Option α} (h : cz_lt v K = some res) (hk : cz_K b v kc) (kk : ∀ v : Nat, K v = some res → cz_K b v kc → W p l e R s m args below meth c H locs 0 0 Q (F0 m pc ls (.ref v :: rest))) : W p l e R s m args below meth c H locs 0 0 Q (F0 m pc ls (.ref v :: rest)) := kk v h hk
/-! returns -/
theorem cz_reti {v r0 : Int32} {M0 : cz_M} {ty : FieldType} (X : cz_X p s m args meth c cc nL own g b (some ty)) (hM : cz_WS g b M s H locs) (h : some (v, M) = some (r0, M0)) (hn : narrow ty (.int v) = .int v) (hd : decode cc pc = .ok (.ireturn, 1)) : W p l e R s m args below meth c H locs 0 0 (MQ below (cz_Q g b (some (.int r0)) M0) args s 0 0 (fun q => b ≤ q)) (F0 m pc ls [.int v]) := by
  cases h
  obtain ⟨hx, hb, hml, ho, ht, hKK, hst, hr, hlk⟩ := X
  exact W.zret hx hb hr hn (fun t ht hW => ⟨⟨rfl, va_K.moved hW.alike hKK, by rw [ht]; exact hM.1, hM.2.1, hst.go hW.alike (by rw [ht]; exact hM.2.2.2.1)⟩, hM.2.2.F ht⟩) hM.2.2.2.2 hd hlk
theorem cz_retp {v r0 : Int32} {ty : FieldType} (X : cz_X p s m args meth c cc nL own g b (some ty)) (hM : cz_WS g b M s H locs) (h : some v = some r0) (hn : narrow ty (.int v) = .int v) (hd : decode cc pc = .ok (.ireturn, 1)) : W p l e R s m args below meth c H locs 0 0 (MQ below (cz_Q g b (some (.int r0)) M) args s 0 0 (fun q => b ≤ q)) (F0 m pc ls [.int v]) := by
  cases h
  exact cz_reti X hM rfl hn hd
theorem cz_zbn {v : Int32} (h : cz_zb v = true) : narrow .boolean (.int v) = .int v := by
  simp only [cz_zb, decide_eq_true_eq] at h
  rcases h with rfl | rfl <;> rfl
theorem cz_retz {v r0 : Int32} (X : cz_X p s m args meth c cc nL own g b (some .boolean)) (hM : cz_WS g b M s H locs) (h : cz_gd (cz_zb v) (some v) = some r0) (hd : decode cc pc = .ok (.ireturn, 1)) : W p l e R s m args below meth c H locs 0 0 (MQ below (cz_Q g b (some (.int r0)) M) args s 0 0 (fun q => b ≤ q)) (F0 m pc ls [.int v]) := by
  obtain ⟨h1, h2⟩ := cz_gd_t h
  exact cz_retp X hM h2 (cz_zbn h1) hd
theorem cz_retzM {v r0 : Int32} {M0 : cz_M} (X : cz_X p s m args meth c cc nL own g b (some .boolean)) (hM : cz_WS g b M s H locs) (h : cz_gd (cz_zb v) (some (v, M)) = some (r0, M0)) (hd : decode cc pc = .ok (.ireturn, 1)) : W p l e R s m args below meth c H locs 0 0 (MQ below (cz_Q g b (some (.int r0)) M0) args s 0 0 (fun q => b ≤ q)) (F0 m pc ls [.int v]) := by
  obtain ⟨h1, h2⟩ := cz_gd_t h
  exact cz_reti X hM h2 (cz_zbn h1) hd
theorem cz_retv {M0 : cz_M} (X : cz_X p s m args meth c cc nL own g b none) (hM : cz_WS g b M s H locs) (h : some M = some M0) (hd : decode cc pc = .ok (.return_, 1)) : W p l e R s m args below meth c H locs 0 0 (MQ below (cz_Q g b none M0) args s 0 0 (fun q => b ≤ q)) (F0 m pc ls []) := by
  cases h
  obtain ⟨hx, hb, hml, ho, ht, hKK, hst, hr, hlk⟩ := X
  exact W.vret hx hb hr (fun t ht hW => ⟨⟨rfl, va_K.moved hW.alike hKK, by rw [ht]; exact hM.1, hM.2.1, hst.go hW.alike (by rw [ht]; exact hM.2.2.2.1)⟩, hM.2.2.F ht⟩) hM.2.2.2.2 hd hlk
/-- a reference, or null, is the answer -/
theorem cz_retq {v r0 : Option Nat} {M0 : cz_M} {cN : String} (X : cz_X p s m args meth c cc nL own g b (some (.object cN))) (hM : cz_WS g b M s H locs) (h : some (v, M) = some (r0, M0)) (hd : decode cc pc = .ok (.areturn, 1)) : W p l e R s m args below meth c H locs 0 0 (MQ below (cz_Q g b (some (va_rf r0)) M0) args s 0 0 (fun q => b ≤ q)) (F0 m pc ls [va_rf v]) := by
  cases h
  obtain ⟨hx, hb, hml, ho, ht, hKK, hst, hr, hlk⟩ := X
  exact W.aret hx hb hr (Or.inl ⟨_, rfl⟩) (va_rf_or _) (fun t ht hW => ⟨⟨rfl, va_K.moved hW.alike hKK, by rw [ht]; exact hM.1, hM.2.1, hst.go hW.alike (by rw [ht]; exact hM.2.2.2.1)⟩, hM.2.2.F ht⟩) hM.2.2.2.2 hd hlk
/-! calls -/
theorem cz_blind {av : List Value} : FrameBlind (va_Pc av (fun U => cz_WW g b M U)) := fun a U gg mk q => ⟨q.1, va_K.moved (u := U) (U := U.calling gg mk a) (Vm.Alike.refl U.vm) q.2.1, q.2.2.1, q.2.2.2.1, cz_ST.go q.2.2.2.2 (Vm.Alike.refl U.vm) (fun _ _ _ => rfl)⟩
theorem cz_pre (X : cz_X p s m args meth c cc nL own g b rt) (hM : cz_WS g b M s H locs) (U : State) (hU : U.heap = H) (hW : s.WarmedH U.vm) : cz_WW g b M U := by
  obtain ⟨hx, hb, hml, ho, ht, hKK, hst, hr, hlk⟩ := X
  exact ⟨va_K.moved hW.alike hKK, by rw [hU]; exact hM.1, hM.2.1, hst.go hW.alike (by rw [hU]; exact hM.2.2.2.1)⟩
theorem cz_back {v : Option Value} {M1 : cz_M} {st0 : List Value} {a0 : Array Value} (hr : va_Run p l e R s m args below meth c H locs 0 0 0 0 (F0 m pc ls st0) rest (cz_Q g b v M1 a0) (fun q => b ≤ q)) (hM : cz_WS g b M s H locs)
    (kk : ∀ (H1 : Heap) (locs1 : List Loc), cz_WS g b M1 s H1 locs1 → W p l e R s m args below meth c H1 locs1 0 0 Q (F0 m (pc + 3) ls (v.toList ++ rest))) : W p l e R s m args below meth c H locs 0 0 Q (F0 m pc ls st0) := by
  intro T hT X
  obtain ⟨v', st₀, t, T', L, h0, X', hL, e1, e2, ⟨⟨hv, hK1, hP1, hp1, -⟩, hz, hk⟩, st⟩ := hr T hT X
  cases hv
  rw [h0] at hz hk
  obtain ⟨hS1, hS2, hS3⟩ := hM.2.2
  obtain ⟨t2, a1, b1⟩ := kk T'.heap (locs ++ L) ⟨by rw [e1]; exact hP1, hp1, Nat.le_trans hS1 (by rw [e1]; exact hz), fun q h1 h2 => by rw [e1, hk q (Nat.lt_of_lt_of_le h1 hS1) h2]; exact hS2 q h1 h2, fun q hq => by
      rcases List.mem_append.mp hq with h | h
      · exact hS3 q h
      · exact hL q h⟩ T' rfl X'
  exact ⟨t2, st t2 a1, b1⟩
def cz_MV (y : MethodName) (cc : ByteArray) (maxL : Nat) (ret : Option FieldType) (C : String) (n : Nat) : Prop := Cond.instanceMethod y ∈ lw_gd ∧ Cond.selects C y y ∈ lw_gd ∧ Cond.code y cc maxL ret ∈ lw_gd ∧ Cond.initialized C ∈ lw_gd ∧ (y.cls = C ∧ y.cls ≠ "java/lang/invoke/MethodHandle" ∧ y.cls ≠ "java/lang/invoke/VarHandle" ∧ (parseMethodDescriptor y.desc).map (fun d => d.parameters.length) = some n)
def cz_MS (y : MethodName) (cc : ByteArray) (maxL : Nat) (ret : Option FieldType) (n : Nat) : Prop := Cond.static y ∈ lw_gd ∧ Cond.code y cc maxL ret ∈ lw_gd ∧ Cond.initialized y.cls ∈ lw_gd ∧ (y.cls ≠ "java/lang/invoke/MethodHandle" ∧ y.cls ≠ "java/lang/invoke/VarHandle" ∧ (parseMethodDescriptor y.desc).map (fun d => d.parameters.length) = some n)
theorem cz_inV {y : MethodName} {cc' : ByteArray} {maxL n idx : Nat} {ret : Option FieldType} {C : String} (hy : cz_MV y cc' maxL ret C n) (hl : Cond.methodLink own idx y ∈ lw_gd) : GoodIn lw_gd (wsV own idx C y (Cond.code y cc' maxL ret :: lw_gd)) := by
  obtain ⟨h1, h2, h3, h4, -⟩ := hy
  intro w hw
  have hw : w ∈ lw_gd := by
    simp only [wsV, List.cons_append, List.nil_append, List.mem_cons] at hw
    rcases hw with rfl | rfl | rfl | rfl | rfl | hw
    · exact hl
    · exact h1
    · exact h2
    · exact h4
    · exact h3
    · exact hw
  exact ⟨hw, good_of_word (gd_good hw)⟩
theorem cz_inS {y : MethodName} {cc' : ByteArray} {maxL n idx : Nat} {ret : Option FieldType} (hy : cz_MS y cc' maxL ret n) (hl : Cond.methodLink own idx y ∈ lw_gd) : GoodIn lw_gd (va_wsS own idx y (Cond.code y cc' maxL ret :: lw_gd)) := by
  obtain ⟨h1, h2, h3, -⟩ := hy
  intro w hw
  have hw : w ∈ lw_gd := by
    simp only [va_wsS, List.cons_append, List.nil_append, List.mem_cons] at hw
    rcases hw with rfl | rfl | rfl | rfl | hw
    · exact hl
    · exact h1
    · exact h3
    · exact h2
    · exact hw
  exact ⟨hw, good_of_word (gd_good hw)⟩
/-- a virtual call: whatever the answer -/
theorem cz_runV {y : MethodName} {cc' : ByteArray} {maxL n idx F N ci : Nat} {ret : Option FieldType} {C : String} {T : u_T} {N0 : Nat} {v : Option Value} {M1 : cz_M} {As st0 : List Value} (X : cz_X p s m args meth c cc nL own g b rt) (hM : cz_WS g b M s H locs) (hls : ls.size = nL) (hC : cz_C l y cc' maxL ret F N g b (.ref a :: As) M v M1) (hy : cz_MV y cc' maxL ret C n) (hci : vwCl[ci]? = some (C, T, N0)) (hc6 : ci < 6) (hk : cz_K b a ci) (hl : Cond.methodLink own idx y ∈ lw_gd)
    (hR : F + 1 ≤ R.frames ∧ 8 + (maxL + 11) + N ≤ R.locals) (hn : As.length = n) (hst : st0 = As.reverse ++ .ref a :: rest) (hro : (rest.map fun v => v.category).sum ≤ 8) (hd : decode cc pc = .ok (.invokevirtual idx, 3))
    (kk : ∀ (H1 : Heap) (locs1 : List Loc), cz_WS g b M1 s H1 locs1 → W p l e R s m args below meth c H1 locs1 0 0 Q (F0 m (pc + 3) ls (v.toList ++ rest))) : W p l e R s m args below meth c H locs 0 0 Q (F0 m pc ls st0) := by
  have X0 := X
  obtain ⟨hx, hb, hml, ho, ht, hKK, -⟩ := X
  exact cz_back (va_runV (As := As) (rest := rest) ⟨hx, hb, hml, ho, ht⟩ hC (cwV n ht (cz_inV hy hl) rfl rfl rfl hy.2.2.2.2 hR) ⟨cz_blind, va_recv hKK hM.1 hci (q0 := a - b) (by rw [cz_wl_get hk, cz_cel_obj hc6]), fun U hU hW => ⟨rfl, cz_pre X0 hM U hU hW⟩⟩ rfl hn hls hst (lv_room hro) hd ⟨Nat.zero_le _, Nat.zero_le _⟩) hM kk
theorem cz_runS {y : MethodName} {cc' : ByteArray} {maxL n idx F N : Nat} {ret : Option FieldType} {v : Option Value} {M1 : cz_M} {As st0 : List Value} (X : cz_X p s m args meth c cc nL own g b rt) (hM : cz_WS g b M s H locs) (hls : ls.size = nL) (hC : cz_C l y cc' maxL ret F N g b As M v M1) (hy : cz_MS y cc' maxL ret n) (hl : Cond.methodLink own idx y ∈ lw_gd)
    (hR : F + 1 ≤ R.frames ∧ 8 + (maxL + 11) + N ≤ R.locals) (hn : As.length = n) (hst : st0 = As.reverse ++ rest) (hro : (rest.map fun v => v.category).sum ≤ 8) (hd : decode cc pc = .ok (.invokestatic idx, 3))
    (kk : ∀ (H1 : Heap) (locs1 : List Loc), cz_WS g b M1 s H1 locs1 → W p l e R s m args below meth c H1 locs1 0 0 Q (F0 m (pc + 3) ls (v.toList ++ rest))) : W p l e R s m args below meth c H locs 0 0 Q (F0 m pc ls st0) := by
  have X0 := X
  obtain ⟨hx, hb, hml, ho, ht, hKK, -⟩ := X
  exact cz_back (va_runS (As := As) (rest := rest) ⟨hx, hb, hml, ho, ht⟩ hC (va_cwS n ht (cz_inS hy hl) rfl rfl rfl hy.2.2.2 hR) ⟨cz_blind, fun U hU hW => ⟨rfl, cz_pre X0 hM U hU hW⟩⟩ rfl hn hls hst (lv_room hro) hd ⟨Nat.zero_le _, Nat.zero_le _⟩) hM kk
theorem cz_astq {r : Option Nat} {k : Fin 4} {i : Nat} {lv lv' : List (Nat × Value)} (hexec : p.tables.exec = Jvm.exec) (hb : c.code = cc) (hdg : decode cc pc = .ok (.astore_n k, 1)) (hi : (k : Nat) = i) (h : lv_has ls nL lv) (hn : i < nL) (hl : (i, va_rf r) :: lv.filter (fun q => !(q.1 == i) && !(q.1 + 1 == i && q.2.category == 2)) = lv')
    (kk : ∀ ls' : Array Slot, lv_has ls' nL lv' → W p l e R s m args below meth c H locs 0 0 Q (F0 m (pc + 1) ls' rest)) : W p l e R s m args below meth c H locs 0 0 Q (F0 m pc ls (va_rf r :: rest)) := by
  cases r with
  | none => exact lv_astore_nN hexec hb hdg hi h hn hl kk
  | some x => exact lv_astore_n hexec hb hdg hi h hn hl kk
end CZ
theorem cz_nmL {α : Type} {res : α} {P : Prop} {v : Int32} {K : Int32 → Option α} (h : cz_lt v K = some res) (kk : ∀ y : Int32, y = v → K y = some res → P) : P := kk v rfl h
def cz_b2 {α β γ : Type} (o : Option (β × γ)) (k : β → γ → Option α) : Option α := o.bind fun z => k z.1 z.2
theorem cz_b2_t {α β γ : Type} {o : Option (β × γ)} {k : β → γ → Option α} {r : α} (h : cz_b2 o k = some r) : ∃ x y, o = some (x, y) ∧ k x y = some r := by
  cases o with
  | none => cases h
  | some v => exact ⟨v.1, v.2, rfl, h⟩
abbrev cz_on {α : Type} (o : Option Nat) (x : Option α) (f : Nat → Option α) : Option α := match o with
  | none => x
  | some q => f q
def cz_kb (b a k : Nat) : Bool := decide (b ≤ a) && (decide (a < b + 471) && decide (cz_kd (a - b) = k))
theorem cz_kb_t {b a x k : Nat} (hb : b = a) (h : cz_kb a x k = true) : cz_K b x k := by
  subst hb
  simpa [cz_kb, cz_K] using h
theorem cz_one4 : ∀ o, o < 471 → cz_kd o = 4 → o = 0 := by decide +kernel
theorem cz_base {b a : Nat} (h : cz_K b a 4) : b = a := by
  obtain ⟨h1, h2, h3⟩ := h
  have := cz_one4 (a - b) (by omega) h3
  omega
def cz_us (x y : Int32) : Int32 := (x.toUInt32 >>> (y.toUInt32 &&& Int32.toUInt32 31)).toInt32
def cz_usl (x : Int64) (y : Int32) : Int64 := (x.toUInt64 >>> (y.toInt64.toUInt64 &&& Int64.toUInt64 63)).toInt64
def cz_sl (x : Int64) (y : Int32) : Int64 := x <<< (y.toInt64 &&& 63)
def cz_chr (x : Int32) : Int32 := (x.toUInt32 % 65536).toInt32
def cz_tL (j : Nat) : Int32 := if j = 0 then 1 else if j = 1 then 0 else 1
def cz_tM (j : Nat) : Int32 := if j = 0 then 9 else if j = 1 then 8 else 5
def cz_it1 {A R : Type} (F : (A → Option R) → A → Option R) : Nat → A → Option R
  | 0 => fun _ => none
  | n + 1 => F (cz_it1 F n)
def cz_it2 {A B R : Type} (F : (A → B → Option R) → A → B → Option R) : Nat → A → B → Option R
  | 0 => fun _ _ => none
  | n + 1 => F (cz_it2 F n)
def cz_it3 {A B C R : Type} (F : (A → B → C → Option R) → A → B → C → Option R) : Nat → A → B → C → Option R
  | 0 => fun _ _ _ => none
  | n + 1 => F (cz_it3 F n)
def cz_it4 {A B C D R : Type} (F : (A → B → C → D → Option R) → A → B → C → D → Option R) : Nat → A → B → C → D → Option R
  | 0 => fun _ _ _ _ => none
  | n + 1 => F (cz_it4 F n)
def cz_it5 {A B C D E R : Type} (F : (A → B → C → D → E → Option R) → A → B → C → D → E → Option R) : Nat → A → B → C → D → E → Option R
  | 0 => fun _ _ _ _ _ => none
  | n + 1 => F (cz_it5 F n)
end
section
theorem ff_X0_0 : cz_fI 0 0 RX0 TX0 4 := ⟨rfl, by decide, by decide, inX0, rfl, rfl, by decide +kernel, fun _ _ => rfl, fun a M v => by simp [cz_fs, cz_mI], fun _ _ => by decide, ⟨tyX0, tyX0_ok⟩, nmX0⟩
theorem ff_X0_1 : cz_fI 0 1 RX0 TX0 4 := ⟨rfl, by decide, by decide, inX0, rfl, rfl, by decide +kernel, fun _ _ => rfl, fun a M v => by simp [cz_fs, cz_mI], fun _ _ => by decide, ⟨tyX0, tyX0_ok⟩, nmX0⟩
theorem ff_X0_2 : cz_fI 0 2 RX0 TX0 4 := ⟨rfl, by decide, by decide, inX0, rfl, rfl, by decide +kernel, fun _ _ => rfl, fun a M v => by simp [cz_fs, cz_mI], fun _ _ => by decide, ⟨tyX0, tyX0_ok⟩, nmX0⟩
theorem ff_X0_3 : cz_fI 0 3 RX0 TX0 4 := ⟨rfl, by decide, by decide, inX0, rfl, rfl, by decide +kernel, fun _ _ => rfl, fun a M v => by simp [cz_fs, cz_mI], fun _ _ => by decide, ⟨tyX0, tyX0_ok⟩, nmX0⟩
theorem ff_X1_0 : cz_fI 1 0 RX1 TX1 11 := ⟨rfl, by decide, by decide, inX1, rfl, rfl, by decide +kernel, fun _ _ => rfl, fun a M v => by simp [cz_fs, cz_mI], fun _ _ => by decide, ⟨tyX1, tyX1_ok⟩, nmX1⟩
theorem ff_X1_1 : cz_fI 1 1 RX1 TX1 11 := ⟨rfl, by decide, by decide, inX1, rfl, rfl, by decide +kernel, fun _ _ => rfl, fun a M v => by simp [cz_fs, cz_mI], fun _ _ => by decide, ⟨tyX1, tyX1_ok⟩, nmX1⟩
theorem ff_X1_2 : cz_fL RX1 TX1 11 := ⟨rfl, by decide, inX1, rfl, rfl, by decide +kernel, ⟨tyX1, tyX1_ok⟩, nmX1⟩
theorem ff_X1_3 : cz_fI 1 3 RX1 TX1 11 := ⟨rfl, by decide, by decide, inX1, rfl, rfl, by decide +kernel, fun _ _ => rfl, fun a M v => by simp [cz_fs, cz_mI], fun _ _ => by decide, ⟨tyX1, tyX1_ok⟩, nmX1⟩
theorem ff_X1_4 : cz_fI 1 4 RX1 TX1 11 := ⟨rfl, by decide, by decide, inX1, rfl, rfl, by decide +kernel, fun _ _ => rfl, fun a M v => by simp [cz_fs, cz_mI], fun _ _ => by decide, ⟨tyX1, tyX1_ok⟩, nmX1⟩
theorem ff_X1_5 : cz_fI 1 5 RX1 TX1 11 := ⟨rfl, by decide, by decide, inX1, rfl, rfl, by decide +kernel, fun _ _ => rfl, fun a M v => by simp [cz_fs, cz_mI], fun _ _ => by decide, ⟨tyX1, tyX1_ok⟩, nmX1⟩
theorem ff_X1_6 : cz_fI 1 6 RX1 TX1 11 := ⟨rfl, by decide, by decide, inX1, rfl, rfl, by decide +kernel, fun _ _ => rfl, fun a M v => by simp [cz_fs, cz_mI], fun _ _ => by decide, ⟨tyX1, tyX1_ok⟩, nmX1⟩
theorem ff_X1_7 : cz_fI 1 7 RX1 TX1 11 := ⟨rfl, by decide, by decide, inX1, rfl, rfl, by decide +kernel, fun _ _ => rfl, fun a M v => by simp [cz_fs, cz_mI], fun _ _ => by decide, ⟨tyX1, tyX1_ok⟩, nmX1⟩
theorem ff_X1_8 : cz_fI 1 8 RX1 TX1 11 := ⟨rfl, by decide, by decide, inX1, rfl, rfl, by decide +kernel, fun _ _ => rfl, fun a M v => by simp [cz_fs, cz_mI], fun _ _ => by decide, ⟨tyX1, tyX1_ok⟩, nmX1⟩
theorem ff_X1_9 : cz_fI 1 9 RX1 TX1 11 := ⟨rfl, by decide, by decide, inX1, rfl, rfl, by decide +kernel, fun _ _ => rfl, fun a M v => by simp [cz_fs, cz_mI], fun _ _ => by decide, ⟨tyX1, tyX1_ok⟩, nmX1⟩
theorem ff_X1_10 : cz_fI 1 10 RX1 TX1 11 := ⟨rfl, by decide, by decide, inX1, rfl, rfl, by decide +kernel, fun _ _ => rfl, fun a M v => by simp [cz_fs, cz_mI], fun _ _ => by decide, ⟨tyX1, tyX1_ok⟩, nmX1⟩
theorem ff_X2_0 : cz_fR 2 0 1 103 RX2 TX2 9 := ⟨rfl, by decide, by decide, inX2, rfl, fun _ _ => rfl, by decide +kernel⟩
theorem ff_X2_1 : cz_fR 2 1 2 10 RX2 TX2 9 := ⟨rfl, by decide, by decide, inX2, rfl, fun _ _ => rfl, by decide +kernel⟩
theorem ff_X2_2 : cz_fR 2 2 3 108 RX2 TX2 9 := ⟨rfl, by decide, by decide, inX2, rfl, fun _ _ => rfl, by decide +kernel⟩
theorem ff_X2_3 : cz_fR 2 3 4 11 RX2 TX2 9 := ⟨rfl, by decide, by decide, inX2, rfl, fun _ _ => rfl, by decide +kernel⟩
theorem ff_X2_4 : cz_fR 2 4 5 12 RX2 TX2 9 := ⟨rfl, by decide, by decide, inX2, rfl, fun _ _ => rfl, by decide +kernel⟩
theorem ff_X2_5 : cz_fR 2 5 6 3 RX2 TX2 9 := ⟨rfl, by decide, by decide, inX2, rfl, fun _ _ => rfl, by decide +kernel⟩
theorem ff_X2_6 : cz_fR 2 6 8 105 RX2 TX2 9 := ⟨rfl, by decide, by decide, inX2, rfl, fun _ _ => rfl, by decide +kernel⟩
theorem ff_X2_7 : cz_fI 2 7 RX2 TX2 9 := ⟨rfl, by decide, by decide, inX2, rfl, rfl, by decide +kernel, fun _ _ => rfl, fun a M v => by simp [cz_fs, cz_mI], fun _ _ => by decide, ⟨tyX2, tyX2_ok⟩, nmX2⟩
theorem ff_X2_8 : cz_fI 2 8 RX2 TX2 9 := ⟨rfl, by decide, by decide, inX2, rfl, rfl, by decide +kernel, fun _ _ => rfl, fun a M v => by simp [cz_fs, cz_mI], fun _ _ => by decide, ⟨tyX2, tyX2_ok⟩, nmX2⟩
theorem ff_X3_0 : cz_fR 3 0 1 140 RX3 TX3 2 := ⟨rfl, by decide, by decide, inX3, rfl, fun _ _ => rfl, by decide +kernel⟩
theorem ff_X3_1 : cz_fI 3 1 RX3 TX3 2 := ⟨rfl, by decide, by decide, inX3, rfl, rfl, by decide +kernel, fun _ _ => rfl, fun a M v => by simp [cz_fs, cz_mI], fun _ _ => by decide, ⟨tyX3, tyX3_ok⟩, nmX3⟩
theorem ff_X4_0 : cz_fR 4 0 1 2 RX4 TX4 8 := ⟨rfl, by decide, by decide, inX4, rfl, fun _ _ => rfl, by decide +kernel⟩
theorem ff_X4_1 : cz_fR 4 1 58 2 RX4 TX4 8 := ⟨rfl, by decide, by decide, inX4, rfl, fun _ _ => rfl, by decide +kernel⟩
theorem ff_X4_2 : cz_fR 4 2 115 13 RX4 TX4 8 := ⟨rfl, by decide, by decide, inX4, rfl, fun _ _ => rfl, by decide +kernel⟩
theorem ff_X4_3 : cz_fR 4 3 116 14 RX4 TX4 8 := ⟨rfl, by decide, by decide, inX4, rfl, fun _ _ => rfl, by decide +kernel⟩
theorem ff_X4_4 : cz_fR 4 4 117 5002 RX4 TX4 8 := ⟨rfl, by decide, by decide, inX4, rfl, fun _ _ => rfl, by decide +kernel⟩
theorem ff_X4_5 : cz_fR 4 5 118 7 RX4 TX4 8 := ⟨rfl, by decide, by decide, inX4, rfl, fun _ _ => rfl, by decide +kernel⟩
theorem ff_X4_6 : cz_fI 4 6 RX4 TX4 8 := ⟨rfl, by decide, by decide, inX4, rfl, rfl, by decide +kernel, fun _ _ => rfl, fun a M v => by simp [cz_fs, cz_mI], fun _ _ => by decide, ⟨tyX4, tyX4_ok⟩, nmX4⟩
theorem ff_X4_7 : cz_fI 4 7 RX4 TX4 8 := ⟨rfl, by decide, by decide, inX4, rfl, rfl, by decide +kernel, fun _ _ => rfl, fun a M v => by simp [cz_fs, cz_mI], fun _ _ => by decide, ⟨tyX4, tyX4_ok⟩, nmX4⟩
theorem ff_X5_0 : cz_fR 5 0 1 651 RX5 TX5 12 := ⟨rfl, by decide, by decide, inX5, rfl, fun _ _ => rfl, by decide +kernel⟩
theorem ff_X5_1 : cz_fR 5 1 2 651 RX5 TX5 12 := ⟨rfl, by decide, by decide, inX5, rfl, fun _ _ => rfl, by decide +kernel⟩
theorem ff_X5_2 : cz_fR 5 2 3 2304 RX5 TX5 12 := ⟨rfl, by decide, by decide, inX5, rfl, fun _ _ => rfl, by decide +kernel⟩
theorem ff_X5_3 : cz_fI 5 3 RX5 TX5 12 := ⟨rfl, by decide, by decide, inX5, rfl, rfl, by decide +kernel, fun _ _ => rfl, fun a M v => by simp [cz_fs, cz_mI], fun _ _ => by decide, ⟨tyX5, tyX5_ok⟩, nmX5⟩
theorem ff_X5_4 : cz_fR 5 4 4 1202 RX5 TX5 12 := ⟨rfl, by decide, by decide, inX5, rfl, fun _ _ => rfl, by decide +kernel⟩
theorem ff_X5_5 : cz_fR 5 5 5 5002 RX5 TX5 12 := ⟨rfl, by decide, by decide, inX5, rfl, fun _ _ => rfl, by decide +kernel⟩
theorem ff_X5_6 : cz_fR 5 6 6 160 RX5 TX5 12 := ⟨rfl, by decide, by decide, inX5, rfl, fun _ _ => rfl, by decide +kernel⟩
theorem ff_X5_7 : cz_fI 5 7 RX5 TX5 12 := ⟨rfl, by decide, by decide, inX5, rfl, rfl, by decide +kernel, fun _ _ => rfl, fun a M v => by simp [cz_fs, cz_mI], fun _ _ => by decide, ⟨tyX5, tyX5_ok⟩, nmX5⟩
theorem ff_X5_8 : cz_fR 5 8 7 5040 RX5 TX5 12 := ⟨rfl, by decide, by decide, inX5, rfl, fun _ _ => rfl, by decide +kernel⟩
theorem ff_X5_9 : cz_fR 5 9 8 5040 RX5 TX5 12 := ⟨rfl, by decide, by decide, inX5, rfl, fun _ _ => rfl, by decide +kernel⟩
theorem ff_X5_10 : cz_fR 5 10 9 140 RX5 TX5 12 := ⟨rfl, by decide, by decide, inX5, rfl, fun _ _ => rfl, by decide +kernel⟩
theorem ff_X5_11 : cz_fI 5 11 RX5 TX5 12 := ⟨rfl, by decide, by decide, inX5, rfl, rfl, by decide +kernel, fun _ _ => rfl, fun a M v => by simp [cz_fs, cz_mI], fun _ _ => by decide, ⟨tyX5, tyX5_ok⟩, nmX5⟩
def f_X0_copyFrom (M : cz_M) (a : Nat) (a1 : Nat) : Option (cz_M) :=
  cz_lt (cz_mI M a 0 (M.1 a1 0)) fun M1 => cz_lt (cz_mI M1 a 1 (M1.1 a1 1)) fun M2 => cz_lt (cz_mI M2 a 2 (M2.1 a1 2)) fun M3 => cz_lt (cz_mI M3 a 3 (M3.1 a1 3)) fun M4 => some M4
def f_X1_begin (M : cz_M) (a : Nat) (x1 : Int32) (x2 : Int32) : Option (cz_M) :=
  cz_lt (cz_mI M a 0 x1) fun M1 => cz_lt (cz_mI M1 a 1 (0 : Int32)) fun M2 => cz_lt (cz_mL M2 a (0 : Int64)) fun M3 => cz_lt (cz_mI M3 a 3 (0 : Int32)) fun M4 => cz_lt (cz_mI M4 a 4 x2) fun M5 => cz_lt (cz_mI M5 a 5 (0 : Int32)) fun M6 => cz_lt (cz_mI M6 a 6 (0 : Int32)) fun M7 => cz_lt (cz_mI M7 a 7 (0 : Int32)) fun M8 => cz_lt (cz_mI M8 a 8 (0 : Int32)) fun M9 => cz_lt (cz_mI M9 a 9 (-6 : Int32)) fun M10 => some M10
def f_X1_copyFrom (M : cz_M) (a : Nat) (a1 : Nat) : Option (cz_M) :=
  cz_lt (cz_mI M a 0 (M.1 a1 0)) fun M1 => cz_lt (cz_mI M1 a 1 (M1.1 a1 1)) fun M2 => cz_lt (cz_mL M2 a (M2.2.1 a1)) fun M3 => cz_lt (cz_mI M3 a 3 (M3.1 a1 3)) fun M4 => cz_lt (cz_mI M4 a 4 (M4.1 a1 4)) fun M5 => cz_lt (cz_mI M5 a 5 (M5.1 a1 5)) fun M6 => cz_lt (cz_mI M6 a 6 (M6.1 a1 6)) fun M7 => cz_lt (cz_mI M7 a 7 (M7.1 a1 7)) fun M8 => cz_lt (cz_mI M8 a 8 (M8.1 a1 8)) fun M9 => cz_lt (cz_mI M9 a 9 (M9.1 a1 9)) fun M10 => some M10
def f_X1_addWord (M : cz_M) (a : Nat) (x1 : Int32) : Option (cz_M) :=
  if (8 : Int32) ≤ (M.1 a 3) then (some M) else (cz_lt (cz_mL M a ((M.2.1 a) ||| (cz_sl (Int32.toInt64 x1) ((8 : Int32) * (M.1 a 3))))) fun M2 => cz_lt (cz_mI M2 a 3 ((M2.1 a 3) + (1 : Int32))) fun M3 => some M3)
def f_X1_codeAt (M : cz_M) (a : Nat) (x1 : Int32) : Option (Int32) :=
  some ((Int64.toInt32 (cz_usl (M.2.1 a) ((8 : Int32) * x1))) &&& (255 : Int32))
def f_X1_isStruckAt (M : cz_M) (a : Nat) (x1 : Int32) : Option (Int32) :=
  if ((cz_us (M.1 a 8) x1) &&& (1 : Int32)) = 0 then (some (0 : Int32)) else (some (1 : Int32))
def f_J6_bitCount_0f7a4 (x0 : Int32) : Option (Int32) :=
  cz_lt (x0 - ((cz_us x0 (1 : Int32)) &&& (1431655765 : Int32))) fun v1 => cz_lt ((v1 &&& (858993459 : Int32)) + ((cz_us v1 (2 : Int32)) &&& (858993459 : Int32))) fun v2 => cz_lt ((v2 + (cz_us v2 (4 : Int32))) &&& (252645135 : Int32)) fun v3 => cz_lt (v3 + (cz_us v3 (8 : Int32))) fun v4 => cz_lt (v4 + (cz_us v4 (16 : Int32))) fun v5 => some (v5 &&& (63 : Int32))
def f_X1_struckCount (M : cz_M) (a : Nat) : Option (Int32) :=
  (f_J6_bitCount_0f7a4 (M.1 a 8)).bind fun v1 => some v1
def f_X1_placesOf_L10 (a0 : Nat) (x1 : Int32) (M : cz_M) (K : Int32 → Int64 → Int32 → Option (Int32)) (rec : Int32 → Int64 → Int32 → Option (Int32)) (x2 : Int32) (x3 : Int64) (x5 : Int32) : Option (Int32) :=
  if (M.1 a0 3) ≤ x5 then (K x2 x3 x5) else (cz_lt ((Int64.toInt32 (x3 &&& (255 : Int64))) - (97 : Int32)) fun v3 => if ((cz_us x1 v3) &&& (1 : Int32)) = 0 then (cz_lt (cz_usl x3 (8 : Int32)) fun v5 => cz_lt (x5 + 1) fun v6 => rec x2 v5 v6) else (cz_lt (x2 ||| ((1 : Int32) <<< (x5 &&& 31))) fun v8 => cz_lt (cz_usl x3 (8 : Int32)) fun v9 => cz_lt (x5 + 1) fun v10 => rec v8 v9 v10))
def f_X1_placesOf (M : cz_M) (a : Nat) (x1 : Int32) : Option (Int32) :=
  cz_lt (M.2.1 a) fun v1 => cz_it3 (f_X1_placesOf_L10 a x1 M (fun x12 x13 x14 => some x12)) 4096 (0 : Int32) v1 (0 : Int32)
def f_X3_copyFrom (M : cz_M) (a : Nat) (a1 : Nat) : Option (cz_M) :=
  cz_lt (cz_mI M a 1 (M.1 a1 1)) fun M1 => cz_gd (cz_cb (0 : Int32) (0 : Int32) (M1.1 a 1) 40 40) (cz_lt (cz_mA M1 (a + 1) (va_cpy (M1.1 (a1 + 1)) (M1.1 (a + 1)) (Int32.toNatClampNeg (0 : Int32)) (Int32.toNatClampNeg (0 : Int32)) (Int32.toNatClampNeg (M1.1 a 1)))) fun M4 => some M4)
def f_X2_copyFrom_L31 (a0 : Nat) (a1 : Nat) (K : Int32 → cz_M → Option (cz_M)) (rec : Int32 → cz_M → Option (cz_M)) (x2 : Int32) (M : cz_M) : Option (cz_M) :=
  if (4 : Int32) ≤ x2 then (K x2 M) else (cz_gd (cz_ib x2 4) (cz_gd (cz_ib x2 4) ((f_X0_copyFrom M ((a0 + 2) + (7 + Int32.toNatClampNeg x2)) ((a1 + 2) + (7 + Int32.toNatClampNeg x2))).bind fun M12 => cz_lt (x2 + 1) fun v13 => rec v13 M12)))
def f_X2_copyFrom_L59 (a0 : Nat) (a1 : Nat) (K : Int32 → cz_M → Option (cz_M)) (rec : Int32 → cz_M → Option (cz_M)) (x2 : Int32) (M : cz_M) : Option (cz_M) :=
  if (M.1 a1 7) ≤ x2 then (K x2 M) else (cz_gd (cz_ib x2 40) (cz_gd (cz_ib x2 40) ((f_X1_copyFrom M ((a0 + 4) + (9 + Int32.toNatClampNeg x2)) ((a1 + 4) + (9 + Int32.toNatClampNeg x2))).bind fun M22 => cz_lt (x2 + 1) fun v23 => rec v23 M22)))
def f_X2_copyFrom_L90 (a0 : Nat) (a1 : Nat) (K : Int32 → cz_M → Option (cz_M)) (rec : Int32 → cz_M → Option (cz_M)) (x2 : Int32) (M : cz_M) : Option (cz_M) :=
  if (2 : Int32) ≤ x2 then (K x2 M) else (cz_gd (cz_ib x2 2) (cz_gd (cz_ib x2 2) ((f_X3_copyFrom M ((a0 + 5) + (48 + 2 * Int32.toNatClampNeg x2)) ((a1 + 5) + (48 + 2 * Int32.toNatClampNeg x2))).bind fun M32 => cz_lt (x2 + 1) fun v33 => rec v33 M32)))
def f_X2_copyFrom (M : cz_M) (a : Nat) (a1 : Nat) : Option (cz_M) :=
  cz_gd (cz_cb (0 : Int32) (0 : Int32) (3 : Int32) 3 3) (cz_lt (cz_mA M (a + 1) (va_cpy (M.1 (a1 + 1)) (M.1 (a + 1)) (Int32.toNatClampNeg (0 : Int32)) (Int32.toNatClampNeg (0 : Int32)) (Int32.toNatClampNeg (3 : Int32)))) fun M3 => cz_gd (cz_cb (0 : Int32) (0 : Int32) (8 : Int32) 8 8) (cz_lt (cz_mA M3 (a + 3) (va_cpy (M3.1 (a1 + 3)) (M3.1 (a + 3)) (Int32.toNatClampNeg (0 : Int32)) (Int32.toNatClampNeg (0 : Int32)) (Int32.toNatClampNeg (8 : Int32)))) fun M6 => cz_it2 (f_X2_copyFrom_L31 a a1 (fun x15 M16 => cz_it2 (f_X2_copyFrom_L59 a a1 (fun x25 M26 => cz_it2 (f_X2_copyFrom_L90 a a1 (fun x35 M36 => cz_lt (cz_mI M36 a 7 (M36.1 a1 7)) fun M37 => cz_lt (cz_mI M37 a 8 (M37.1 a1 8)) fun M38 => some M38)) 4096 (0 : Int32) M26)) 4096 (0 : Int32) M16)) 4096 (0 : Int32) M6))
def f_X2_hasLetter (M : cz_M) (a : Nat) (x1 : Int32) : Option (Int32) :=
  if x1 < 0 then (some (0 : Int32)) else (if (M.1 a 7) ≤ x1 then (some (0 : Int32)) else (some (1 : Int32)))
def f_X2_beginLetter (M : cz_M) (a : Nat) (x1 : Int32) : Option (Option Nat × cz_M) :=
  if (M.1 a 7) < (40 : Int32) then (cz_gd (cz_ib (M.1 a 7) 40) (cz_lt ((a + 4) + (9 + Int32.toNatClampNeg (M.1 a 7))) fun r4 => (f_X1_begin M r4 x1 (M.1 a 8)).bind fun M6 => cz_lt (cz_mI M6 a 7 ((M6.1 a 7) + (1 : Int32))) fun M7 => some ((some r4), M7))) else (some (none, M))
def f_X3_append (M : cz_M) (a : Nat) (x1 : Int32) : Option (cz_M) :=
  if (40 : Int32) ≤ (M.1 a 1) then (some M) else (cz_gd (cz_ib (M.1 a 1) 40) (cz_lt (cz_mI M (a + 1) (Int32.toNatClampNeg (M.1 a 1)) x1) fun M4 => cz_lt (cz_mI M4 a 1 ((M4.1 a 1) + (1 : Int32))) fun M5 => some M5))
def f_X2_sendNewest (M : cz_M) (a : Nat) (x1 : Int32) : Option (cz_M) :=
  if (M.1 a 7) ≤ 0 then (some M) else (cz_gd (cz_ib ((M.1 a 7) - (1 : Int32)) 40) (cz_lt (cz_mI M ((a + 4) + (9 + Int32.toNatClampNeg ((M.1 a 7) - (1 : Int32)))) 1 x1) fun M4 => cz_gd (cz_ib x1 2) ((f_X3_append M4 ((a + 5) + (48 + 2 * Int32.toNatClampNeg x1)) ((M4.1 a 7) - (1 : Int32))).bind fun M7 => some M7)))
def f_X3_takeOut_L4 (a0 : Nat) (x1 : Int32) (K : Int32 → Int32 → cz_M → Option (cz_M)) (rec : Int32 → Int32 → cz_M → Option (cz_M)) (x2 : Int32) (x3 : Int32) (M : cz_M) : Option (cz_M) :=
  if (M.1 a0 1) ≤ x3 then (K x2 x3 M) else (cz_gd (cz_ib x3 40) (if (M.1 (a0 + 1) (Int32.toNatClampNeg x3)) = x1 then (cz_lt (x3 + 1) fun v4 => rec x2 v4 M) else (cz_gd (cz_ib x3 40) (cz_gd (cz_ib x2 40) (cz_lt (cz_mI M (a0 + 1) (Int32.toNatClampNeg x2) (M.1 (a0 + 1) (Int32.toNatClampNeg x3))) fun M8 => cz_lt (x2 + 1) fun v9 => cz_lt (x3 + 1) fun v11 => rec v9 v11 M8)))))
def f_X3_takeOut (M : cz_M) (a : Nat) (x1 : Int32) : Option (cz_M) :=
  cz_it3 (f_X3_takeOut_L4 a x1 (fun x13 x14 M15 => cz_lt (cz_mI M15 a 1 x13) fun M16 => some M16)) 4096 (0 : Int32) (0 : Int32) M
def f_X2_burnWaiting (M : cz_M) (a : Nat) (x1 : Int32) : Option (cz_M) :=
  cz_gd (cz_ib x1 40) (cz_lt (cz_mI M ((a + 4) + (9 + Int32.toNatClampNeg x1)) 5 (2 : Int32)) fun M3 => cz_gd (cz_ib x1 40) (cz_gd (cz_ib (M3.1 ((a + 4) + (9 + Int32.toNatClampNeg x1)) 1) 2) ((f_X3_takeOut M3 ((a + 5) + (48 + 2 * Int32.toNatClampNeg (M3.1 ((a + 4) + (9 + Int32.toNatClampNeg x1)) 1))) x1).bind fun M8 => some M8)))
def f_X2_tradeShifts (M : cz_M) (a : Nat) (x1 : Int32) (x2 : Int32) : Option (cz_M) :=
  cz_gd (cz_ib x1 8) (cz_lt (M.1 (a + 3) (Int32.toNatClampNeg x1)) fun v2 => cz_gd (cz_ib x2 8) (cz_gd (cz_ib x1 8) (cz_lt (cz_mI M (a + 3) (Int32.toNatClampNeg x1) (M.1 (a + 3) (Int32.toNatClampNeg x2))) fun M5 => cz_gd (cz_ib x2 8) (cz_lt (cz_mI M5 (a + 3) (Int32.toNatClampNeg x2) v2) fun M7 => some M7))))
def f_X2_censorNumber (M : cz_M) (a : Nat) (x1 : Int32) (x2 : Int32) : Option (Int32) :=
  cz_gd (cz_ib (((2 : Int32) * (x1 - x1 / (4 : Int32) * (4 : Int32))) + x2) 8) (some (M.1 (a + 3) (Int32.toNatClampNeg (((2 : Int32) * (x1 - x1 / (4 : Int32) * (4 : Int32))) + x2))))
def f_X2_shiftsOf_L4 (a0 : Nat) (x1 : Int32) (M : cz_M) (K : Int32 → Int32 → Option (Int32)) (rec : Int32 → Int32 → Option (Int32)) (x2 : Int32) (x3 : Int32) : Option (Int32) :=
  if (8 : Int32) ≤ x3 then (K x2 x3) else (cz_gd (cz_ib x3 8) (if (M.1 (a0 + 3) (Int32.toNatClampNeg x3)) = x1 then (cz_lt (x2 + 1) fun v6 => cz_lt (x3 + 1) fun v8 => rec v6 v8) else (cz_lt (x3 + 1) fun v4 => rec x2 v4)))
def f_X2_shiftsOf (M : cz_M) (a : Nat) (x1 : Int32) : Option (Int32) :=
  cz_it2 (f_X2_shiftsOf_L4 a x1 M (fun x10 x11 => some x10)) 4096 (0 : Int32) (0 : Int32)
def f_X2_aheadOf_L4 (a0 : Nat) (x1 : Int32) (M : cz_M) (K : Int32 → Option (Int32)) (rec : Int32 → Option (Int32)) (x2 : Int32) : Option (Int32) :=
  if x2 < 0 then (K x2) else (cz_gd (cz_ib x2 40) (cz_gd (cz_ib x1 40) (if (M.1 ((a0 + 4) + (9 + Int32.toNatClampNeg x2)) 0) = (M.1 ((a0 + 4) + (9 + Int32.toNatClampNeg x1)) 0) then (some x2) else (cz_lt (x2 + (-1)) fun v8 => rec v8))))
def f_X2_aheadOf (M : cz_M) (a : Nat) (x1 : Int32) : Option (Int32) :=
  cz_lt (x1 - (1 : Int32)) fun v1 => cz_it1 (f_X2_aheadOf_L4 a x1 M (fun x10 => some (-6 : Int32))) 4096 v1
def f_X2_lettersThatAre_L4 (a0 : Nat) (x1 : Int32) (M : cz_M) (K : Int32 → Int32 → Option (Int32)) (rec : Int32 → Int32 → Option (Int32)) (x2 : Int32) (x3 : Int32) : Option (Int32) :=
  if (M.1 a0 7) ≤ x3 then (K x2 x3) else (cz_gd (cz_ib x3 40) (if (M.1 ((a0 + 4) + (9 + Int32.toNatClampNeg x3)) 5) = x1 then (cz_lt (x2 + 1) fun v7 => cz_lt (x3 + 1) fun v9 => rec v7 v9) else (cz_lt (x3 + 1) fun v5 => rec x2 v5)))
def f_X2_lettersThatAre (M : cz_M) (a : Nat) (x1 : Int32) : Option (Int32) :=
  cz_it2 (f_X2_lettersThatAre_L4 a x1 M (fun x11 x12 => some x11)) 4096 (0 : Int32) (0 : Int32)
def f_X2_allDelays_L4 (a0 : Nat) (M : cz_M) (K : Int32 → Int32 → Option (Int32)) (rec : Int32 → Int32 → Option (Int32)) (x1 : Int32) (x2 : Int32) : Option (Int32) :=
  if (M.1 a0 7) ≤ x2 then (K x1 x2) else (cz_gd (cz_ib x2 40) (if (M.1 ((a0 + 4) + (9 + Int32.toNatClampNeg x2)) 5) = (1 : Int32) then (cz_gd (cz_ib x2 40) (cz_lt (x1 + (M.1 ((a0 + 4) + (9 + Int32.toNatClampNeg x2)) 6)) fun v9 => cz_lt (x2 + 1) fun v10 => rec v9 v10)) else (cz_lt (x2 + 1) fun v5 => rec x1 v5)))
def f_X2_allDelays (M : cz_M) (a : Nat) : Option (Int32) :=
  cz_it2 (f_X2_allDelays_L4 a M (fun x12 x13 => some x12)) 4096 (0 : Int32) (0 : Int32)
def f_X2_longestDelay_L4 (a0 : Nat) (M : cz_M) (K : Int32 → Int32 → Option (Int32)) (rec : Int32 → Int32 → Option (Int32)) (x1 : Int32) (x2 : Int32) : Option (Int32) :=
  if (M.1 a0 7) ≤ x2 then (K x1 x2) else (cz_gd (cz_ib x2 40) (if (M.1 ((a0 + 4) + (9 + Int32.toNatClampNeg x2)) 5) = (1 : Int32) then (cz_gd (cz_ib x2 40) (cz_lt (if x1 < (M.1 ((a0 + 4) + (9 + Int32.toNatClampNeg x2)) 6) then (M.1 ((a0 + 4) + (9 + Int32.toNatClampNeg x2)) 6) else x1) fun v9 => cz_lt (x2 + 1) fun v10 => rec v9 v10)) else (cz_lt (x2 + 1) fun v5 => rec x1 v5)))
def f_X2_longestDelay (M : cz_M) (a : Nat) : Option (Int32) :=
  cz_it2 (f_X2_longestDelay_L4 a M (fun x12 x13 => some x12)) 4096 (0 : Int32) (0 : Int32)
def f_X2_wordsStruckInLetters_L4 (a0 : Nat) (M : cz_M) (K : Int32 → Int32 → Option (Int32)) (rec : Int32 → Int32 → Option (Int32)) (x1 : Int32) (x2 : Int32) : Option (Int32) :=
  if (M.1 a0 7) ≤ x2 then (K x1 x2) else (cz_gd (cz_ib x2 40) (if (M.1 ((a0 + 4) + (9 + Int32.toNatClampNeg x2)) 5) = (1 : Int32) then (cz_gd (cz_ib x2 40) ((f_X1_struckCount M ((a0 + 4) + (9 + Int32.toNatClampNeg x2))).bind fun v9 => cz_lt (x1 + v9) fun v10 => cz_lt (x2 + 1) fun v11 => rec v10 v11)) else (cz_lt (x2 + 1) fun v5 => rec x1 v5)))
def f_X2_wordsStruckInLetters (M : cz_M) (a : Nat) : Option (Int32) :=
  cz_it2 (f_X2_wordsStruckInLetters_L4 a M (fun x13 x14 => some x13)) 4096 (0 : Int32) (0 : Int32)
def f_X2_findHeadsIn_L2 (a0 : Nat) (a1 : Nat) (K : Int32 → cz_M → Option (cz_M)) (rec : Int32 → cz_M → Option (cz_M)) (x2 : Int32) (M : cz_M) : Option (cz_M) :=
  if (M.1 a1 1) ≤ x2 then (K x2 M) else (cz_gd (cz_ib x2 40) (cz_lt (M.1 (a1 + 1) (Int32.toNatClampNeg x2)) fun v3 => cz_gd (cz_ib v3 40) (cz_lt (M.1 ((a0 + 4) + (9 + Int32.toNatClampNeg v3)) 0) fun v6 => cz_gd (cz_ib v6 5) (if (M.1 (a0 + 8) (Int32.toNatClampNeg v6)) = (-6 : Int32) then (cz_gd (cz_ib v6 5) (cz_lt (cz_mI M (a0 + 8) (Int32.toNatClampNeg v6) v3) fun M10 => cz_lt (x2 + 1) fun v11 => rec v11 M10)) else (cz_gd (cz_ib v6 5) (if (M.1 (a0 + 8) (Int32.toNatClampNeg v6)) ≤ v3 then (cz_lt (x2 + 1) fun v15 => rec v15 M) else (cz_gd (cz_ib v6 5) (cz_lt (cz_mI M (a0 + 8) (Int32.toNatClampNeg v6) v3) fun M18 => cz_lt (x2 + 1) fun v19 => rec v19 M18))))))))
def f_X2_findHeadsIn (M : cz_M) (a : Nat) (a1 : Nat) : Option (cz_M) :=
  cz_it2 (f_X2_findHeadsIn_L2 a a1 (fun x21 M22 => some M22)) 4096 (0 : Int32) M
def f_X2_findHeads_L2 (a0 : Nat) (K : Int32 → cz_M → Option (cz_M)) (rec : Int32 → cz_M → Option (cz_M)) (x1 : Int32) (M : cz_M) : Option (cz_M) :=
  if (5 : Int32) ≤ x1 then (K x1 M) else (cz_gd (cz_ib x1 5) (cz_lt (cz_mI M (a0 + 8) (Int32.toNatClampNeg x1) (-6 : Int32)) fun M3 => cz_lt (x1 + 1) fun v4 => rec v4 M3))
def f_X2_findHeads_L23 (a0 : Nat) (K : Int32 → cz_M → Option (cz_M)) (rec : Int32 → cz_M → Option (cz_M)) (x1 : Int32) (M : cz_M) : Option (cz_M) :=
  if (2 : Int32) ≤ x1 then (K x1 M) else (cz_gd (cz_ib x1 2) ((f_X2_findHeadsIn M a0 ((a0 + 5) + (48 + 2 * Int32.toNatClampNeg x1))).bind fun M11 => cz_lt (x1 + 1) fun v12 => rec v12 M11))
def f_X2_findHeads (M : cz_M) (a : Nat) : Option (cz_M) :=
  cz_it2 (f_X2_findHeads_L2 a (fun x6 M7 => cz_it2 (f_X2_findHeads_L23 a (fun x14 M15 => some M15)) 4096 (0 : Int32) M7)) 4096 (0 : Int32) M
def f_X2_threadsThatWait_L8 (a0 : Nat) (M : cz_M) (K : Int32 → Int32 → Option (Int32 × cz_M)) (rec : Int32 → Int32 → Option (Int32 × cz_M)) (x1 : Int32) (x2 : Int32) : Option (Int32 × cz_M) :=
  if (5 : Int32) ≤ x2 then (K x1 x2) else (cz_gd (cz_ib x2 5) (if (M.1 (a0 + 8) (Int32.toNatClampNeg x2)) = (-6 : Int32) then (cz_lt (x2 + 1) fun v5 => rec x1 v5) else (cz_lt (x1 + 1) fun v7 => cz_lt (x2 + 1) fun v9 => rec v7 v9)))
def f_X2_threadsThatWait (M : cz_M) (a : Nat) : Option (Int32 × cz_M) :=
  (f_X2_findHeads M a).bind fun M1 => cz_it2 (f_X2_threadsThatWait_L8 a M1 (fun x11 x12 => some (x11, M1))) 4096 (0 : Int32) (0 : Int32)
def f_X2_lettersTurnedByAll_L4 (a0 : Nat) (M : cz_M) (K : Int32 → Int32 → Option (Int32)) (rec : Int32 → Int32 → Option (Int32)) (x1 : Int32) (x2 : Int32) : Option (Int32) :=
  if (4 : Int32) ≤ x2 then (K x1 x2) else (cz_gd (cz_ib x2 4) (cz_lt (x1 + (M.1 ((a0 + 2) + (7 + Int32.toNatClampNeg x2)) 3)) fun v4 => cz_lt (x2 + 1) fun v5 => rec v4 v5))
def f_X2_lettersTurnedByAll (M : cz_M) (a : Nat) : Option (Int32) :=
  cz_it2 (f_X2_lettersTurnedByAll_L4 a M (fun x7 x8 => some x7)) 4096 (0 : Int32) (0 : Int32)
def f_X2_fateIfRead (M : cz_M) (a : Nat) (a1 : Nat) (x2 : Int32) : Option (Int32) :=
  (f_X1_placesOf M a1 x2).bind fun v1 => (f_J6_bitCount_0f7a4 v1).bind fun v2 => cz_gd (cz_ib (1 : Int32) 3) (if (M.1 (a + 1) (Int32.toNatClampNeg (1 : Int32))) < v2 then (cz_gd (cz_ib (2 : Int32) 3) (if ((M.1 a1 7) + (1 : Int32)) < (M.1 (a + 1) (Int32.toNatClampNeg (2 : Int32))) then (some (4 : Int32)) else (some (5 : Int32)))) else (some (0 : Int32)))
def f_X2_judgeRow_L31 (a0 : Nat) (a2 : Nat) (x3 : Int32) (K : Int32 → Int32 → cz_M → Option (cz_M)) (rec : Int32 → Int32 → cz_M → Option (cz_M)) (x4 : Int32) (x5 : Int32) (M : cz_M) : Option (cz_M) :=
  if (M.1 a2 1) ≤ x5 then (K x4 x5 M) else (cz_gd (cz_ib x5 40) (cz_lt (M.1 (a2 + 1) (Int32.toNatClampNeg x5)) fun v11 => cz_gd (cz_ib v11 40) (cz_lt ((a0 + 4) + (9 + Int32.toNatClampNeg v11)) fun r14 => cz_gd (cz_ib (M.1 r14 0) 5) (if (M.1 (a0 + 8) (Int32.toNatClampNeg (M.1 r14 0))) = v11 then (cz_gd (cz_ib (0 : Int32) 3) (if x4 < (M.1 (a0 + 1) (Int32.toNatClampNeg (0 : Int32))) then ((f_X2_fateIfRead M a0 r14 x3).bind fun v20 => cz_lt (cz_mI M r14 10 v20) fun M21 => cz_lt (x4 + 1) fun v22 => cz_lt (x5 + 1) fun v24 => rec v22 v24 M21) else (cz_lt (cz_mI M r14 10 (3 : Int32)) fun M26 => cz_lt (x5 + 1) fun v27 => rec x4 v27 M26))) else (cz_lt (cz_mI M r14 10 (2 : Int32)) fun M29 => cz_lt (x5 + 1) fun v30 => rec x4 v30 M29)))))
def f_X2_judgeRow (M : cz_M) (a : Nat) (x1 : Int32) : Option (cz_M) :=
  cz_gd (cz_ib x1 2) (cz_lt ((a + 5) + (48 + 2 * Int32.toNatClampNeg x1)) fun r3 => (f_X2_censorNumber M a (M.1 a 8) x1).bind fun v6 => cz_gd (cz_ib v6 4) (cz_lt (M.1 ((a + 2) + (7 + Int32.toNatClampNeg v6)) 0) fun v8 => cz_it3 (f_X2_judgeRow_L31 a r3 v8 (fun x32 x33 M34 => some M34)) 4096 (0 : Int32) (0 : Int32) M))
def f_X2_judgeWeek_L6 (a0 : Nat) (K : Int32 → cz_M → Option (cz_M)) (rec : Int32 → cz_M → Option (cz_M)) (x1 : Int32) (M : cz_M) : Option (cz_M) :=
  if (2 : Int32) ≤ x1 then (K x1 M) else ((f_X2_judgeRow M a0 x1).bind fun M3 => cz_lt (x1 + 1) fun v4 => rec v4 M3)
def f_X2_judgeWeek (M : cz_M) (a : Nat) : Option (cz_M) :=
  (f_X2_findHeads M a).bind fun M1 => cz_it2 (f_X2_judgeWeek_L6 a (fun x6 M7 => some M7)) 4096 (0 : Int32) M1
def f_X2_letThrough (M : cz_M) (a : Nat) (a1 : Nat) (x2 : Int32) : Option (cz_M) :=
  cz_gd (cz_ib x2 4) ((f_X1_placesOf M a1 (M.1 ((a + 2) + (7 + Int32.toNatClampNeg x2)) 0)).bind fun v3 => cz_lt (cz_mI M a1 8 v3) fun M4 => cz_lt (cz_mI M4 a1 5 (1 : Int32)) fun M5 => cz_lt (cz_mI M5 a1 6 (((M5.1 a 8) + (1 : Int32)) - (M5.1 a1 4))) fun M6 => cz_lt (cz_mI M6 a1 9 x2) fun M7 => cz_gd (cz_ib x2 4) (cz_lt (cz_mI M7 ((a + 2) + (7 + Int32.toNatClampNeg x2)) 1 ((M7.1 ((a + 2) + (7 + Int32.toNatClampNeg x2)) 1) + (1 : Int32))) fun M10 => cz_gd (cz_ib x2 4) ((f_X1_struckCount M10 a1).bind fun v13 => cz_lt (cz_mI M10 ((a + 2) + (7 + Int32.toNatClampNeg x2)) 2 ((M10.1 ((a + 2) + (7 + Int32.toNatClampNeg x2)) 2) + v13)) fun M14 => some M14)))
def f_X2_turnBack (M : cz_M) (a : Nat) (a1 : Nat) (x2 : Int32) : Option (cz_M) :=
  cz_lt (cz_mI M a1 7 ((M.1 a1 7) + (1 : Int32))) fun M1 => if (M1.1 a1 10) = (5 : Int32) then (cz_lt (cz_mI M1 a1 5 (2 : Int32)) fun M9 => cz_gd (cz_ib x2 4) (cz_lt (cz_mI M9 ((a + 2) + (7 + Int32.toNatClampNeg x2)) 1 ((M9.1 ((a + 2) + (7 + Int32.toNatClampNeg x2)) 1) + (1 : Int32))) fun M12 => cz_gd (cz_ib x2 4) (cz_lt (cz_mI M12 ((a + 2) + (7 + Int32.toNatClampNeg x2)) 3 ((M12.1 ((a + 2) + (7 + Int32.toNatClampNeg x2)) 3) + (1 : Int32))) fun M15 => some M15))) else (cz_gd (cz_ib x2 4) (cz_lt (cz_mI M1 ((a + 2) + (7 + Int32.toNatClampNeg x2)) 1 ((M1.1 ((a + 2) + (7 + Int32.toNatClampNeg x2)) 1) + (1 : Int32))) fun M5 => cz_gd (cz_ib x2 4) (cz_lt (cz_mI M5 ((a + 2) + (7 + Int32.toNatClampNeg x2)) 3 ((M5.1 ((a + 2) + (7 + Int32.toNatClampNeg x2)) 3) + (1 : Int32))) fun M8 => some M8)))
def f_X2_appendIfFate_L3 (a0 : Nat) (a1 : Nat) (x2 : Int32) (x3 : Int32) (K : Int32 → cz_M → Option (cz_M)) (rec : Int32 → cz_M → Option (cz_M)) (x4 : Int32) (M : cz_M) : Option (cz_M) :=
  if (M.1 a1 1) ≤ x4 then (K x4 M) else (cz_gd (cz_ib x4 40) (cz_gd (cz_ib (M.1 (a1 + 1) (Int32.toNatClampNeg x4)) 40) (cz_lt (M.1 ((a0 + 4) + (9 + Int32.toNatClampNeg (M.1 (a1 + 1) (Int32.toNatClampNeg x4)))) 10) fun v5 => if v5 = x2 then (cz_gd (cz_ib x4 40) ((f_X3_append M (a0 + 6) (M.1 (a1 + 1) (Int32.toNatClampNeg x4))).bind fun M9 => cz_lt (x4 + 1) fun v10 => rec v10 M9)) else (if v5 = x3 then (cz_gd (cz_ib x4 40) ((f_X3_append M (a0 + 6) (M.1 (a1 + 1) (Int32.toNatClampNeg x4))).bind fun M17 => cz_lt (x4 + 1) fun v18 => rec v18 M17)) else (cz_lt (x4 + 1) fun v13 => rec v13 M)))))
def f_X2_appendIfFate (M : cz_M) (a : Nat) (a1 : Nat) (x2 : Int32) (x3 : Int32) : Option (cz_M) :=
  cz_it2 (f_X2_appendIfFate_L3 a a1 x2 x3 (fun x20 M21 => some M21)) 4096 (0 : Int32) M
def f_X2_readRow_L23 (a0 : Nat) (a2 : Nat) (x3 : Int32) (K : Int32 → Int32 → cz_M → Option (Int32 × cz_M)) (rec : Int32 → Int32 → cz_M → Option (Int32 × cz_M)) (x4 : Int32) (x5 : Int32) (M : cz_M) : Option (Int32 × cz_M) :=
  if (M.1 a2 1) ≤ x5 then (K x4 x5 M) else (cz_gd (cz_ib x5 40) (cz_gd (cz_ib (M.1 (a2 + 1) (Int32.toNatClampNeg x5)) 40) (cz_lt ((a0 + 4) + (9 + Int32.toNatClampNeg (M.1 (a2 + 1) (Int32.toNatClampNeg x5)))) fun r10 => if (M.1 r10 10) = 0 then ((f_X2_letThrough M a0 r10 x3).bind fun M23 => cz_lt (x4 + 1) fun v24 => cz_lt (x5 + 1) fun v26 => rec v24 v26 M23) else (if (M.1 r10 10) = (4 : Int32) then ((f_X2_turnBack M a0 r10 x3).bind fun M14 => cz_lt (x5 + 1) fun v15 => rec x4 v15 M14) else (if (M.1 r10 10) = (5 : Int32) then ((f_X2_turnBack M a0 r10 x3).bind fun M20 => cz_lt (x5 + 1) fun v21 => rec x4 v21 M20) else (cz_lt (x5 + 1) fun v18 => rec x4 v18 M))))))
def f_X2_readRow (M : cz_M) (a : Nat) (x1 : Int32) : Option (Int32 × cz_M) :=
  cz_gd (cz_ib x1 2) (cz_lt ((a + 5) + (48 + 2 * Int32.toNatClampNeg x1)) fun r3 => (f_X2_censorNumber M a (M.1 a 8) x1).bind fun v5 => cz_it3 (f_X2_readRow_L23 a r3 v5 (fun x28 x29 M30 => cz_lt (cz_mI M30 (a + 6) 1 (0 : Int32)) fun M32 => (f_X2_appendIfFate M32 a r3 (2 : Int32) (3 : Int32)).bind fun M33 => (f_X2_appendIfFate M33 a r3 (4 : Int32) (4 : Int32)).bind fun M34 => (f_X3_copyFrom M34 r3 (a + 6)).bind fun M36 => some (x28, M36))) 4096 (0 : Int32) (0 : Int32) M)
def f_X2_passWeek_L8 (a0 : Nat) (K : Int32 → Int32 → cz_M → Option (Int32 × cz_M)) (rec : Int32 → Int32 → cz_M → Option (Int32 × cz_M)) (x1 : Int32) (x2 : Int32) (M : cz_M) : Option (Int32 × cz_M) :=
  if (2 : Int32) ≤ x2 then (K x1 x2 M) else (cz_b2 (f_X2_readRow M a0 x2) fun v4 M3 => cz_lt (x1 + v4) fun v5 => cz_lt (x2 + 1) fun v6 => rec v5 v6 M3)
def f_X2_passWeek (M : cz_M) (a : Nat) : Option (Int32 × cz_M) :=
  (f_X2_judgeWeek M a).bind fun M1 => cz_it3 (f_X2_passWeek_L8 a (fun x8 x9 M10 => cz_lt (cz_mI M10 a 8 ((M10.1 a 8) + (1 : Int32))) fun M11 => some (x8, M11))) 4096 (0 : Int32) (0 : Int32) M1
def f_X2_passWeeks_L4 (a0 : Nat) (x1 : Int32) (K : Int32 → Int32 → cz_M → Option (Int32 × cz_M)) (rec : Int32 → Int32 → cz_M → Option (Int32 × cz_M)) (x2 : Int32) (x3 : Int32) (M : cz_M) : Option (Int32 × cz_M) :=
  if x1 ≤ x3 then (K x2 x3 M) else (cz_b2 (f_X2_passWeek M a0) fun v3 M2 => cz_lt (x2 + v3) fun v4 => cz_lt (x3 + 1) fun v5 => rec v4 v5 M2)
def f_X2_passWeeks (M : cz_M) (a : Nat) (x1 : Int32) : Option (Int32 × cz_M) :=
  cz_it3 (f_X2_passWeeks_L4 a x1 (fun x7 x8 M9 => some (x7, M9))) 4096 (0 : Int32) (0 : Int32) M
def f_X3_placeOf_L2 (a0 : Nat) (x1 : Int32) (M : cz_M) (K : Int32 → Option (Int32)) (rec : Int32 → Option (Int32)) (x2 : Int32) : Option (Int32) :=
  if (M.1 a0 1) ≤ x2 then (K x2) else (cz_gd (cz_ib x2 40) (if (M.1 (a0 + 1) (Int32.toNatClampNeg x2)) = x1 then (some x2) else (cz_lt (x2 + 1) fun v4 => rec v4)))
def f_X3_placeOf (M : cz_M) (a : Nat) (x1 : Int32) : Option (Int32) :=
  cz_it1 (f_X3_placeOf_L2 a x1 M (fun x6 => some (-6 : Int32))) 4096 (0 : Int32)
def f_X4_remember_L17 (a0 : Nat) (a1 : Nat) (K : Int32 → cz_M → Option (cz_M)) (rec : Int32 → cz_M → Option (cz_M)) (x2 : Int32) (M : cz_M) : Option (cz_M) :=
  if (4 : Int32) ≤ x2 then (K x2 M) else (cz_gd (cz_ib x2 4) (cz_gd (cz_ib (x2 - (1 : Int32)) 4) (cz_lt (cz_mP M (Int32.toNatClampNeg (x2 - (1 : Int32))) (M.2.2 (Int32.toNatClampNeg x2))) fun M15 => cz_lt (x2 + 1) fun v16 => rec v16 M15)))
def f_X4_remember (M : cz_M) (a : Nat) : Option (cz_M) :=
  if (M.1 a 6) = (4 : Int32) then (cz_gd (cz_ib (0 : Int32) 4) (cz_lt (M.2.2 (Int32.toNatClampNeg (0 : Int32))) fun r9 => cz_it2 (f_X4_remember_L17 a r9 (fun x18 M19 => cz_gd (cz_ib (3 : Int32) 4) (cz_lt (cz_mP M19 (Int32.toNatClampNeg (3 : Int32)) r9) fun M21 => cz_lt (cz_mI M21 a 6 ((M21.1 a 6) - (1 : Int32))) fun M22 => cz_gd (cz_ib (M22.1 a 6) 4) ((f_X2_copyFrom M22 (M22.2.2 (Int32.toNatClampNeg (M22.1 a 6))) (a + 1)).bind fun M26 => cz_lt (cz_mI M26 a 6 ((M26.1 a 6) + (1 : Int32))) fun M27 => some M27)))) 4096 (1 : Int32) M)) else (cz_gd (cz_ib (M.1 a 6) 4) ((f_X2_copyFrom M (M.2.2 (Int32.toNatClampNeg (M.1 a 6))) (a + 1)).bind fun M5 => cz_lt (cz_mI M5 a 6 ((M5.1 a 6) + (1 : Int32))) fun M6 => some M6))
def f_X4_set (M : cz_M) (a : Nat) (x1 : Int32) (x2 : Int32) : Option (Int32 × cz_M) :=
  if x1 < 0 then (some ((-2 : Int32), M)) else (if x1 < (3 : Int32) then (cz_gd (cz_ib x1 3) (if x2 < (cz_tL (Int32.toNatClampNeg x1)) then (some ((-2 : Int32), M)) else (cz_gd (cz_ib x1 3) (if x2 ≤ (cz_tM (Int32.toNatClampNeg x1)) then ((f_X4_remember M a).bind fun M9 => cz_gd (cz_ib x1 3) (cz_lt (M9.1 ((a + 1) + 1) (Int32.toNatClampNeg x1)) fun v12 => cz_gd (cz_ib x1 3) (cz_lt (cz_mI M9 ((a + 1) + 1) (Int32.toNatClampNeg x1) x2) fun M15 => some (v12, M15)))) else (some ((-2 : Int32), M)))))) else (some ((-2 : Int32), M)))
def f_X4_strike (M : cz_M) (a : Nat) (x1 : Int32) (x2 : Int32) : Option (Int32 × cz_M) :=
  if x1 < 0 then (some ((-1 : Int32), M)) else (if (4 : Int32) ≤ x1 then (some ((-1 : Int32), M)) else (if x2 < 0 then (some ((-1 : Int32), M)) else (if x2 < (26 : Int32) then ((f_X4_remember M a).bind fun M5 => cz_gd (cz_ib x1 4) (cz_lt (((a + 1) + 2) + (7 + Int32.toNatClampNeg x1)) fun r9 => cz_lt (cz_mI M5 r9 0 ((M5.1 r9 0) ^^^ ((1 : Int32) <<< (x2 &&& 31)))) fun M11 => (f_J6_bitCount_0f7a4 (M11.1 r9 0)).bind fun v12 => some (v12, M11))) else (some ((-1 : Int32), M)))))
def f_X4_trade (M : cz_M) (a : Nat) (x1 : Int32) (x2 : Int32) : Option (Int32 × cz_M) :=
  if x1 < 0 then (some ((-1 : Int32), M)) else (if (8 : Int32) ≤ x1 then (some ((-1 : Int32), M)) else (if x2 < 0 then (some ((-1 : Int32), M)) else (if x2 < (8 : Int32) then (cz_gd (cz_ib x1 8) (cz_gd (cz_ib x2 8) (if (M.1 ((a + 1) + 3) (Int32.toNatClampNeg x1)) = (M.1 ((a + 1) + 3) (Int32.toNatClampNeg x2)) then (some ((-5 : Int32), M)) else ((f_X4_remember M a).bind fun M10 => (f_X2_tradeShifts M10 (a + 1) x1 x2).bind fun M12 => cz_gd (cz_ib x1 8) (some ((M12.1 ((a + 1) + 3) (Int32.toNatClampNeg x1)), M12)))))) else (some ((-1 : Int32), M)))))
def f_X4_isWord (x0 : Int32) : Option (Int32) :=
  if x0 < (97 : Int32) then (some (0 : Int32)) else (if (122 : Int32) < x0 then (some (0 : Int32)) else (some (1 : Int32)))
def f_X4_stageBehind (x0 : Int32) (x1 : Int32) : Option (Int32) :=
  if x0 = 0 then (if x1 < (48 : Int32) then (some (-1 : Int32)) else (if (53 : Int32) ≤ x1 then (some (-1 : Int32)) else (some (1 : Int32)))) else (if x0 = (1 : Int32) then (if x1 = (62 : Int32) then (some (2 : Int32)) else (if x1 = (60 : Int32) then (some (2 : Int32)) else (some (-1 : Int32)))) else ((f_X4_isWord x1).bind fun v3 => if v3 = 0 then (if x1 = (44 : Int32) then (if x0 ≤ (2 : Int32) then (some (-1 : Int32)) else (some (0 : Int32))) else (some (-1 : Int32))) else (if (10 : Int32) ≤ x0 then (some (-1 : Int32)) else (some (x0 + (1 : Int32))))))
def f_X4_faultOfPad_L4 (a0 : Nat) (M : cz_M) (K : Int32 → Int32 → Option (Int32)) (rec : Int32 → Int32 → Option (Int32)) (x1 : Int32) (x2 : Int32) : Option (Int32) :=
  if (M.1 a0 7) ≤ x2 then (K x1 x2) else (cz_gd (cz_ib x2 60) ((f_X4_stageBehind x1 (M.1 (a0 + 118) (Int32.toNatClampNeg x2))).bind fun v3 => if v3 = (-1 : Int32) then (some x2) else (cz_lt (x2 + 1) fun v5 => rec v3 v5)))
def f_X4_faultOfPad (M : cz_M) (a : Nat) : Option (Int32) :=
  cz_it2 (f_X4_faultOfPad_L4 a M (fun x7 x8 => if x7 ≤ (2 : Int32) then (some (M.1 a 7)) else (some (-6 : Int32)))) 4096 (0 : Int32) (0 : Int32)
def f_X4_lettersOfPad_L4 (a0 : Nat) (M : cz_M) (K : Int32 → Int32 → Option (Int32)) (rec : Int32 → Int32 → Option (Int32)) (x1 : Int32) (x2 : Int32) : Option (Int32) :=
  if (M.1 a0 7) ≤ x2 then (K x1 x2) else (cz_gd (cz_ib x2 60) (if (M.1 (a0 + 118) (Int32.toNatClampNeg x2)) = (44 : Int32) then (cz_lt (x1 + 1) fun v6 => cz_lt (x2 + 1) fun v8 => rec v6 v8) else (cz_lt (x2 + 1) fun v4 => rec x1 v4)))
def f_X4_lettersOfPad (M : cz_M) (a : Nat) : Option (Int32) :=
  cz_it2 (f_X4_lettersOfPad_L4 a M (fun x10 x11 => some x10)) 4096 (1 : Int32) (0 : Int32)
def f_X4_writeLettersOfPad_L4 (a0 : Nat) (K : Option Nat → Int32 → cz_M → Option (cz_M)) (rec : Option Nat → Int32 → cz_M → Option (cz_M)) (x1 : Option Nat) (x2 : Int32) (M : cz_M) : Option (cz_M) :=
  if (M.1 a0 7) ≤ x2 then (K x1 x2 M) else (cz_gd (cz_ib x2 60) (cz_lt (M.1 (a0 + 118) (Int32.toNatClampNeg x2)) fun v3 => (f_X4_isWord v3).bind fun v4 => if v4 = 0 then (if v3 = (62 : Int32) then ((f_X2_sendNewest M (a0 + 1) (0 : Int32)).bind fun M21 => cz_lt (x2 + 1) fun v22 => rec x1 v22 M21) else (if v3 = (60 : Int32) then ((f_X2_sendNewest M (a0 + 1) (1 : Int32)).bind fun M17 => cz_lt (x2 + 1) fun v18 => rec x1 v18 M17) else (if v3 = (44 : Int32) then (cz_lt (x2 + 1) fun v9 => rec x1 v9 M) else (cz_b2 (f_X2_beginLetter M (a0 + 1) (v3 - (48 : Int32))) fun q13 M12 => cz_lt (x2 + 1) fun v14 => rec q13 v14 M12)))) else (cz_on x1 (cz_lt (x2 + 1) fun v26 => rec none v26 M) (fun q24 => cz_gd (cz_kb a q24 1) ((f_X1_addWord M q24 v3).bind fun M28 => cz_lt (x2 + 1) fun v29 => rec q24 v29 M28)))))
def f_X4_writeLettersOfPad (M : cz_M) (a : Nat) : Option (cz_M) :=
  cz_it3 (f_X4_writeLettersOfPad_L4 a (fun x31 x32 M33 => some M33)) 4096 none (0 : Int32) M
def f_X4_read (M : cz_M) (a : Nat) : Option (Int32 × cz_M) :=
  (f_X4_faultOfPad M a).bind fun v1 => if v1 = (-6 : Int32) then ((f_X4_lettersOfPad M a).bind fun v4 => if ((M.1 (a + 1) 7) + v4) ≤ (40 : Int32) then ((f_X4_remember M a).bind fun M6 => (f_X4_writeLettersOfPad M6 a).bind fun M7 => cz_lt (cz_mI M7 a 7 (0 : Int32)) fun M8 => some ((M8.1 (a + 1) 7), M8)) else (some ((-4 : Int32), M))) else (some ((-3 : Int32), M))
def f_X4_burn (M : cz_M) (a : Nat) (x1 : Int32) : Option (Int32 × cz_M) :=
  (f_X2_hasLetter M (a + 1) x1).bind fun v2 => if v2 = 0 then (some ((-1 : Int32), M)) else (cz_gd (cz_ib x1 40) (if (M.1 (((a + 1) + 4) + (9 + Int32.toNatClampNeg x1)) 5) = 0 then ((f_X4_remember M a).bind fun M8 => (f_X2_burnWaiting M8 (a + 1) x1).bind fun M10 => cz_gd (cz_ib x1 40) (some (((M10.1 (a + 1) 8) - (M10.1 (((a + 1) + 4) + (9 + Int32.toNatClampNeg x1)) 4)), M10))) else (some ((-5 : Int32), M))))
def f_X4_pass (M : cz_M) (a : Nat) (x1 : Int32) : Option (Int32 × cz_M) :=
  if x1 < (1 : Int32) then (some ((-2 : Int32), M)) else (if x1 ≤ (52 : Int32) then (if ((M.1 (a + 1) 8) + x1) ≤ (9999 : Int32) then ((f_X4_remember M a).bind fun M5 => cz_b2 (f_X2_passWeeks M5 (a + 1) x1) fun v8 M7 => some (v8, M7)) else (some ((-4 : Int32), M))) else (some ((-2 : Int32), M)))
def f_X4_letter (M : cz_M) (a : Nat) (x1 : Int32) (x2 : Int32) : Option (Int32) :=
  (f_X2_hasLetter M (a + 1) x1).bind fun v2 => if v2 = 0 then (some (-1 : Int32)) else (cz_gd (cz_ib x1 40) (cz_lt (((a + 1) + 4) + (9 + Int32.toNatClampNeg x1)) fun r7 => if x2 = (0 : Int32) then (some (M.1 r7 0)) else (if x2 = (1 : Int32) then (some (M.1 r7 1)) else (if x2 = (2 : Int32) then (some (M.1 r7 5)) else (if x2 = (3 : Int32) then (cz_gd (cz_ib (M.1 r7 1) 2) ((f_X3_placeOf M (((a + 1) + 5) + (48 + 2 * Int32.toNatClampNeg (M.1 r7 1))) x1).bind fun v16 => some v16)) else (if x2 = (4 : Int32) then (some (M.1 r7 4)) else (if x2 = (5 : Int32) then (if (M.1 r7 5) = (1 : Int32) then (some (M.1 r7 6)) else (some (-6 : Int32))) else (if x2 = (6 : Int32) then ((f_X1_struckCount M r7).bind fun v21 => some v21) else (if x2 = (7 : Int32) then (some (M.1 r7 7)) else (if x2 = (8 : Int32) then (some (M.1 r7 9)) else (if x2 = (9 : Int32) then ((f_X2_aheadOf M (a + 1) x1).bind fun v26 => some v26) else (if x2 = (10 : Int32) then (some (M.1 r7 3)) else (some (-2 : Int32))))))))))))))
def f_X4_word (M : cz_M) (a : Nat) (x1 : Int32) (x2 : Int32) : Option (Int32) :=
  (f_X2_hasLetter M (a + 1) x1).bind fun v2 => if v2 = 0 then (some (-1 : Int32)) else (cz_gd (cz_ib x1 40) (cz_lt (((a + 1) + 4) + (9 + Int32.toNatClampNeg x1)) fun r7 => if x2 < 0 then (some (-1 : Int32)) else (if x2 < (M.1 r7 3) then ((f_X1_isStruckAt M r7 x2).bind fun v11 => if v11 = 0 then ((f_X1_codeAt M r7 x2).bind fun v13 => some v13) else (some (42 : Int32))) else (some (-1 : Int32)))))
def f_X4_why (M : cz_M) (a : Nat) (x1 : Int32) : Option (Int32 × cz_M) :=
  (f_X2_hasLetter M (a + 1) x1).bind fun v2 => if v2 = 0 then (some ((-1 : Int32), M)) else (cz_gd (cz_ib x1 40) (cz_lt (((a + 1) + 4) + (9 + Int32.toNatClampNeg x1)) fun r7 => if (M.1 r7 5) = 0 then ((f_X2_judgeWeek M (a + 1)).bind fun M11 => some ((M11.1 r7 10), M11)) else (some ((1 : Int32), M))))
def f_X4_censor (M : cz_M) (a : Nat) (x1 : Int32) (x2 : Int32) : Option (Int32) :=
  if x1 < 0 then (some (-1 : Int32)) else (if x1 < (4 : Int32) then (cz_gd (cz_ib x1 4) (cz_lt (((a + 1) + 2) + (7 + Int32.toNatClampNeg x1)) fun r6 => if x2 = (0 : Int32) then (some (M.1 r6 0)) else (if x2 = (1 : Int32) then ((f_X2_shiftsOf M (a + 1) x1).bind fun v11 => some v11) else (if x2 = (2 : Int32) then (some (M.1 r6 1)) else (if x2 = (3 : Int32) then (some (M.1 r6 2)) else (if x2 = (4 : Int32) then (some (M.1 r6 3)) else (some (-2 : Int32)))))))) else (some (-1 : Int32)))
def f_X4_onShift (M : cz_M) (a : Nat) (x1 : Int32) (x2 : Int32) : Option (Int32) :=
  if x2 < 0 then (some (-1 : Int32)) else (if x2 < (2 : Int32) then (if x1 < 0 then (some (-2 : Int32)) else (if x1 ≤ (9999 : Int32) then ((f_X2_censorNumber M (a + 1) x1 x2).bind fun v6 => some v6) else (some (-2 : Int32)))) else (some (-1 : Int32)))
def f_X4_count (M : cz_M) (a : Nat) (x1 : Int32) : Option (Int32 × cz_M) :=
  if x1 = (0 : Int32) then (cz_gd (cz_ib (0 : Int32) 3) (some ((M.1 ((a + 1) + 1) (Int32.toNatClampNeg (0 : Int32))), M))) else (if x1 = (1 : Int32) then (cz_gd (cz_ib (1 : Int32) 3) (some ((M.1 ((a + 1) + 1) (Int32.toNatClampNeg (1 : Int32))), M))) else (if x1 = (2 : Int32) then (cz_gd (cz_ib (2 : Int32) 3) (some ((M.1 ((a + 1) + 1) (Int32.toNatClampNeg (2 : Int32))), M))) else (if x1 = (3 : Int32) then (some ((M.1 (a + 1) 8), M)) else (if x1 = (4 : Int32) then (some ((M.1 (a + 1) 7), M)) else (if x1 = (5 : Int32) then ((f_X2_lettersThatAre M (a + 1) (0 : Int32)).bind fun v16 => some (v16, M)) else (if x1 = (6 : Int32) then ((f_X2_lettersThatAre M (a + 1) (1 : Int32)).bind fun v19 => some (v19, M)) else (if x1 = (7 : Int32) then ((f_X2_lettersThatAre M (a + 1) (2 : Int32)).bind fun v22 => some (v22, M)) else (if x1 = (8 : Int32) then (cz_gd (cz_ib (0 : Int32) 2) (some ((M.1 (((a + 1) + 5) + (48 + 2 * Int32.toNatClampNeg (0 : Int32))) 1), M))) else (if x1 = (9 : Int32) then (cz_gd (cz_ib (1 : Int32) 2) (some ((M.1 (((a + 1) + 5) + (48 + 2 * Int32.toNatClampNeg (1 : Int32))) 1), M))) else (if x1 = (10 : Int32) then ((f_X2_allDelays M (a + 1)).bind fun v33 => some (v33, M)) else (if x1 = (11 : Int32) then ((f_X2_longestDelay M (a + 1)).bind fun v36 => some (v36, M)) else (if x1 = (12 : Int32) then ((f_X2_wordsStruckInLetters M (a + 1)).bind fun v39 => some (v39, M)) else (if x1 = (13 : Int32) then (cz_b2 (f_X2_threadsThatWait M (a + 1)) fun v43 M42 => some (v43, M42)) else (if x1 = (14 : Int32) then (some ((M.1 a 7), M)) else (if x1 = (15 : Int32) then (some ((M.1 a 6), M)) else (some ((-2 : Int32), M)))))))))))))))))
def f_X4_untilCome_L36 (a0 : Nat) (a2 : Nat) (K : Int32 → cz_M → Option (Int32 × cz_M)) (rec : Int32 → cz_M → Option (Int32 × cz_M)) (x3 : Int32) (M : cz_M) : Option (Int32 × cz_M) :=
  if (100 : Int32) ≤ x3 then (K x3 M) else (if (M.1 a2 5) = 0 then (cz_b2 (f_X2_passWeek M (a0 + 58)) fun v16 M15 => cz_lt (x3 + 1) fun v17 => rec v17 M15) else (K x3 M))
def f_X4_untilCome (M : cz_M) (a : Nat) (x1 : Int32) : Option (Int32 × cz_M) :=
  (f_X2_hasLetter M (a + 1) x1).bind fun v2 => if v2 = 0 then (some ((-1 : Int32), M)) else ((f_X2_copyFrom M (a + 58) (a + 1)).bind fun M6 => cz_gd (cz_ib x1 40) (cz_lt (((a + 58) + 4) + (9 + Int32.toNatClampNeg x1)) fun r10 => cz_it2 (f_X4_untilCome_L36 a r10 (fun x19 M20 => if (M20.1 r10 5) = (1 : Int32) then (some (x19, M20)) else (some ((-6 : Int32), M20)))) 4096 (0 : Int32) M6))
def f_X4_ifPassed (M : cz_M) (a : Nat) (x1 : Int32) (x2 : Int32) : Option (Int32 × cz_M) :=
  if x1 < (1 : Int32) then (some ((-2 : Int32), M)) else (if (100 : Int32) < x1 then (some ((-2 : Int32), M)) else (if x2 < 0 then (some ((-2 : Int32), M)) else (if x2 ≤ (2 : Int32) then ((f_X2_copyFrom M (a + 58) (a + 1)).bind fun M7 => cz_b2 (f_X2_passWeeks M7 (a + 58) x1) fun v10 M9 => if x2 = (0 : Int32) then (some (v10, M9)) else (if x2 = (1 : Int32) then ((f_X2_lettersThatAre M9 (a + 58) (2 : Int32)).bind fun v14 => (f_X2_lettersThatAre M9 (a + 1) (2 : Int32)).bind fun v16 => some ((v14 - v16), M9)) else ((f_X2_wordsStruckInLetters M9 (a + 58)).bind fun v18 => (f_X2_wordsStruckInLetters M9 (a + 1)).bind fun v20 => some ((v18 - v20), M9)))) else (some ((-2 : Int32), M)))))
def f_X4_bestTrade_L36 (a0 : Nat) (x3 : Int32) (K : Int32 → Int32 → Int32 → cz_M → Option (Int32 × cz_M)) (rec : Int32 → Int32 → Int32 → cz_M → Option (Int32 × cz_M)) (x1 : Int32) (x2 : Int32) (x4 : Int32) (M : cz_M) : Option (Int32 × cz_M) :=
  if (8 : Int32) ≤ x4 then (K x1 x2 x4 M) else ((f_X2_copyFrom M (a0 + 58) (a0 + 1)).bind fun M12 => (f_X2_tradeShifts M12 (a0 + 58) x3 x4).bind fun M14 => cz_b2 (f_X2_passWeeks M14 (a0 + 58) (4 : Int32)) fun v17 M16 => if v17 ≤ x1 then (cz_lt (x4 + 1) fun v19 => rec x1 x2 v19 M16) else (cz_lt (((8 : Int32) * x3) + x4) fun v21 => cz_lt (x4 + 1) fun v22 => rec v17 v21 v22 M16))
def f_X4_bestTrade_L25 (a0 : Nat) (K : Int32 → Int32 → Int32 → cz_M → Option (Int32 × cz_M)) (rec : Int32 → Int32 → Int32 → cz_M → Option (Int32 × cz_M)) (x1 : Int32) (x2 : Int32) (x3 : Int32) (M : cz_M) : Option (Int32 × cz_M) :=
  if (8 : Int32) ≤ x3 then (K x1 x2 x3 M) else (cz_lt (x3 + (1 : Int32)) fun v8 => cz_it4 (f_X4_bestTrade_L36 a0 x3 (fun x24 x25 x26 M27 => cz_lt (x3 + 1) fun v28 => rec x24 x25 v28 M27)) 4096 x1 x2 v8 M)
def f_X4_bestTrade (M : cz_M) (a : Nat) : Option (Int32 × cz_M) :=
  (f_X2_copyFrom M (a + 58) (a + 1)).bind fun M3 => cz_b2 (f_X2_passWeeks M3 (a + 58) (4 : Int32)) fun v6 M5 => cz_it4 (f_X4_bestTrade_L25 a (fun x30 x31 x32 M33 => some (x31, M33))) 4096 v6 (-6 : Int32) (0 : Int32) M5
def f_X4_turnsBackWith_L31 (a0 : Nat) (x2 : Int32) (K : Int32 → cz_M → Option (Int32 × cz_M)) (rec : Int32 → cz_M → Option (Int32 × cz_M)) (x3 : Int32) (M : cz_M) : Option (Int32 × cz_M) :=
  if (100 : Int32) ≤ x3 then (K x3 M) else (cz_b2 (f_X2_passWeek M (a0 + 58)) fun v12 M11 => (f_X2_lettersTurnedByAll M11 (a0 + 58)).bind fun v14 => if v14 ≤ x2 then (cz_lt (x3 + 1) fun v16 => rec v16 M11) else (some ((1 : Int32), M11)))
def f_X4_turnsBackWith (M : cz_M) (a : Nat) (x1 : Int32) : Option (Int32 × cz_M) :=
  (f_X2_copyFrom M (a + 58) (a + 1)).bind fun M3 => cz_gd (cz_ib (1 : Int32) 3) (cz_lt (cz_mI M3 ((a + 58) + 1) (Int32.toNatClampNeg (1 : Int32)) x1) fun M6 => (f_X2_lettersTurnedByAll M6 (a + 58)).bind fun v8 => cz_it2 (f_X4_turnsBackWith_L31 a v8 (fun x18 M19 => some ((0 : Int32), M19))) 4096 (0 : Int32) M6)
def f_X4_leastLimit_L2 (a0 : Nat) (K : Int32 → cz_M → Option (Int32 × cz_M)) (rec : Int32 → cz_M → Option (Int32 × cz_M)) (x1 : Int32) (M : cz_M) : Option (Int32 × cz_M) :=
  if (8 : Int32) ≤ x1 then (K x1 M) else (cz_b2 (f_X4_turnsBackWith M a0 x1) fun v3 M2 => if v3 = 0 then (K x1 M2) else (cz_lt (x1 + 1) fun v5 => rec v5 M2))
def f_X4_leastLimit (M : cz_M) (a : Nat) : Option (Int32 × cz_M) :=
  cz_it2 (f_X4_leastLimit_L2 a (fun x7 M8 => some (x7, M8))) 4096 (0 : Int32) M
def f_X4_lengthOf_L4  (K : Int32 → Int64 → Option (Int32)) (rec : Int32 → Int64 → Option (Int32)) (x2 : Int32) (x3 : Int64) : Option (Int32) :=
  if (8 : Int32) ≤ x2 then (K x2 x3) else (if (lg_cmp x3 (0 : Int64)) = 0 then (K x2 x3) else (cz_lt (Int64.toInt32 (x3 &&& (255 : Int64))) fun v3 => if v3 < (33 : Int32) then (some (0 : Int32)) else (if v3 ≤ (126 : Int32) then (cz_lt (cz_usl x3 (8 : Int32)) fun v6 => cz_lt (x2 + 1) fun v7 => rec v7 v6) else (some (0 : Int32)))))
def f_X4_lengthOf (x0 : Int64) : Option (Int32) :=
  cz_it2 (f_X4_lengthOf_L4  (fun x9 x10 => some x9)) 4096 (0 : Int32) x0
def f_X4_put_L31 (a0 : Nat) (x1 : Int64) (K : Int32 → cz_M → Option (Int32 × cz_M)) (rec : Int32 → cz_M → Option (Int32 × cz_M)) (x4 : Int32) (M : cz_M) : Option (Int32 × cz_M) :=
  if x4 < 0 then (K x4 M) else (cz_gd (cz_ib (M.1 a0 7) 60) (cz_gd (cz_hb (cz_chr (Int64.toInt32 ((cz_usl x1 ((8 : Int32) * x4)) &&& (255 : Int64))))) (cz_lt (cz_mI M (a0 + 118) (Int32.toNatClampNeg (M.1 a0 7)) (cz_chr (Int64.toInt32 ((cz_usl x1 ((8 : Int32) * x4)) &&& (255 : Int64))))) fun M7 => cz_lt (cz_mI M7 a0 7 ((M7.1 a0 7) + (1 : Int32))) fun M8 => cz_lt (x4 + (-1)) fun v9 => rec v9 M8)))
def f_X4_put (M : cz_M) (a : Nat) (x1 : Int64) : Option (Int32 × cz_M) :=
  (f_X4_lengthOf x1).bind fun v1 => if v1 = 0 then (some ((-2 : Int32), M)) else (if ((M.1 a 7) + v1) ≤ (60 : Int32) then (cz_lt (v1 - (1 : Int32)) fun v4 => cz_it2 (f_X4_put_L31 a x1 (fun x11 M12 => some ((M12.1 a 7), M12))) 4096 v4 M) else (some ((-4 : Int32), M)))
def f_X4_wipe (M : cz_M) (a : Nat) : Option (Int32 × cz_M) :=
  cz_lt (M.1 a 7) fun v1 => cz_lt (cz_mI M a 7 (0 : Int32)) fun M2 => some (v1, M2)
def f_X4_fault (M : cz_M) (a : Nat) : Option (Int32) :=
  (f_X4_faultOfPad M a).bind fun v1 => some v1
def f_X4_undo (M : cz_M) (a : Nat) : Option (Int32 × cz_M) :=
  if (M.1 a 6) = 0 then (some ((-5 : Int32), M)) else (cz_lt (cz_mI M a 6 ((M.1 a 6) - (1 : Int32))) fun M2 => cz_gd (cz_ib (M2.1 a 6) 4) ((f_X2_copyFrom M2 (a + 1) (M2.2.2 (Int32.toNatClampNeg (M2.1 a 6)))).bind fun M6 => some ((M6.1 a 6), M6)))
def f_X4_save (M : cz_M) (a : Nat) (x1 : Int32) : Option (Int32 × cz_M) :=
  if x1 < 0 then (some ((-2 : Int32), M)) else (if x1 < (2 : Int32) then (cz_gd (cz_ib x1 2) ((f_X2_copyFrom M ((a + 116) + (231 + 57 * Int32.toNatClampNeg x1)) (a + 1)).bind fun M6 => cz_gd (cz_ib x1 2) (cz_gd (cz_zb (1 : Int32)) (cz_lt (cz_mI M6 (a + 117) (Int32.toNatClampNeg x1) (1 : Int32)) fun M8 => some ((M8.1 (a + 1) 8), M8))))) else (some ((-2 : Int32), M)))
def f_X4_restore (M : cz_M) (a : Nat) (x1 : Int32) : Option (Int32 × cz_M) :=
  if x1 < 0 then (some ((-2 : Int32), M)) else (if x1 < (2 : Int32) then (cz_gd (cz_ib x1 2) (if (M.1 (a + 117) (Int32.toNatClampNeg x1)) = 0 then (some ((-5 : Int32), M)) else ((f_X4_remember M a).bind fun M5 => cz_gd (cz_ib x1 2) ((f_X2_copyFrom M5 (a + 1) ((a + 116) + (231 + 57 * Int32.toNatClampNeg x1))).bind fun M9 => some ((M9.1 (a + 1) 8), M9))))) else (some ((-2 : Int32), M)))
def f_X5_in (x0 : Int32) (x1 : Int32) (x2 : Int32) : Option (Int32) :=
  if x0 < x1 then (some (0 : Int32)) else (if x2 < x0 then (some (0 : Int32)) else (some (1 : Int32)))
def f_X5_isLetter (M : cz_M) (a : Nat) (x1 : Int32) : Option (Int32) :=
  cz_gd (cz_ib (4 : Int32) 551) ((f_X5_in x1 (0 : Int32) ((M.1 (a + 1) (Int32.toNatClampNeg (4 : Int32))) - (1 : Int32))).bind fun v2 => cz_gd (cz_zb v2) (some v2))
def f_X5_at (x0 : Int32) (x1 : Int32) : Option (Int32) :=
  some (((111 : Int32) + ((11 : Int32) * x0)) + x1)
def f_X5_of (M : cz_M) (a : Nat) (x1 : Int32) (x2 : Int32) : Option (Int32) :=
  (f_X5_at x1 x2).bind fun v2 => cz_gd (cz_ib v2 551) (some (M.1 (a + 1) (Int32.toNatClampNeg v2)))
def f_X5_inRow (x0 : Int32) (x1 : Int32) : Option (Int32) :=
  some (((31 : Int32) + ((40 : Int32) * x0)) + x1)
def f_X5_ofCensor (x0 : Int32) (x1 : Int32) : Option (Int32) :=
  some (((13 : Int32) + ((4 : Int32) * x0)) + x1)
def f_X5_record_L51 (a0 : Nat) (K : Int32 → cz_M → Option (cz_M)) (rec : Int32 → cz_M → Option (cz_M)) (x1 : Int32) (M : cz_M) : Option (cz_M) :=
  if (551 : Int32) ≤ x1 then (K x1 M) else (cz_gd (cz_ib x1 551) (cz_gd (cz_ib (((551 : Int32) * (M.1 a0 3)) + x1) 2204) (cz_lt (cz_mI M (a0 + 3) (Int32.toNatClampNeg (((551 : Int32) * (M.1 a0 3)) + x1)) (M.1 (a0 + 1) (Int32.toNatClampNeg x1))) fun M5 => cz_lt (x1 + 1) fun v6 => rec v6 M5)))
def f_X5_record_L10 (a0 : Nat) (K : Int32 → cz_M → Option (cz_M)) (rec : Int32 → cz_M → Option (cz_M)) (x1 : Int32) (M : cz_M) : Option (cz_M) :=
  if (1653 : Int32) ≤ x1 then (K x1 M) else (cz_gd (cz_ib (x1 + (551 : Int32)) 2204) (cz_gd (cz_ib x1 2204) (cz_lt (cz_mI M (a0 + 3) (Int32.toNatClampNeg x1) (M.1 (a0 + 3) (Int32.toNatClampNeg (x1 + (551 : Int32))))) fun M14 => cz_lt (x1 + 1) fun v15 => rec v15 M14)))
def f_X5_record (M : cz_M) (a : Nat) : Option (cz_M) :=
  if (M.1 a 3) = (4 : Int32) then (cz_it2 (f_X5_record_L10 a (fun x17 M18 => cz_lt (cz_mI M18 a 3 ((M18.1 a 3) - (1 : Int32))) fun M19 => cz_it2 (f_X5_record_L51 a (fun x20 M21 => cz_lt (cz_mI M21 a 3 ((M21.1 a 3) + (1 : Int32))) fun M22 => some M22)) 4096 (0 : Int32) M19)) 4096 (0 : Int32) M) else (cz_it2 (f_X5_record_L51 a (fun x8 M9 => cz_lt (cz_mI M9 a 3 ((M9.1 a 3) + (1 : Int32))) fun M10 => some M10)) 4096 (0 : Int32) M)
def f_X5_putAside_L2 (a0 : Nat) (K : Int32 → cz_M → Option (cz_M)) (rec : Int32 → cz_M → Option (cz_M)) (x1 : Int32) (M : cz_M) : Option (cz_M) :=
  if (551 : Int32) ≤ x1 then (K x1 M) else (cz_gd (cz_ib x1 551) (cz_gd (cz_ib x1 551) (cz_lt (cz_mI M (a0 + 2) (Int32.toNatClampNeg x1) (M.1 (a0 + 1) (Int32.toNatClampNeg x1))) fun M4 => cz_lt (x1 + 1) fun v5 => rec v5 M4)))
def f_X5_putAside (M : cz_M) (a : Nat) : Option (cz_M) :=
  cz_it2 (f_X5_putAside_L2 a (fun x7 M8 => some M8)) 4096 (0 : Int32) M
def f_X5_putBack_L2 (a0 : Nat) (K : Int32 → cz_M → Option (cz_M)) (rec : Int32 → cz_M → Option (cz_M)) (x1 : Int32) (M : cz_M) : Option (cz_M) :=
  if (551 : Int32) ≤ x1 then (K x1 M) else (cz_gd (cz_ib x1 551) (cz_gd (cz_ib x1 551) (cz_lt (cz_mI M (a0 + 1) (Int32.toNatClampNeg x1) (M.1 (a0 + 2) (Int32.toNatClampNeg x1))) fun M4 => cz_lt (x1 + 1) fun v5 => rec v5 M4)))
def f_X5_putBack (M : cz_M) (a : Nat) : Option (cz_M) :=
  cz_it2 (f_X5_putBack_L2 a (fun x7 M8 => some M8)) 4096 (0 : Int32) M
def f_X5_bits_L4 (x0 : Int32) (K : Int32 → Int32 → Option (Int32)) (rec : Int32 → Int32 → Option (Int32)) (x1 : Int32) (x2 : Int32) : Option (Int32) :=
  if (26 : Int32) ≤ x2 then (K x1 x2) else (cz_lt (x1 + ((x0 >>> (x2 &&& 31)) &&& (1 : Int32))) fun v2 => cz_lt (x2 + 1) fun v3 => rec v2 v3)
def f_X5_bits (x0 : Int32) : Option (Int32) :=
  cz_it2 (f_X5_bits_L4 x0 (fun x5 x6 => some x5)) 4096 (0 : Int32) (0 : Int32)
def f_X5_wordOf_L15 (x2 : Int32) (M : cz_M) (K : Int32 → Int32 → Option (Int32)) (rec : Int32 → Int32 → Option (Int32)) (x3 : Int32) (x4 : Int32) : Option (Int32) :=
  if (x2 - x2 / (4 : Int32) * (4 : Int32)) ≤ x4 then (K x3 x4) else (cz_lt (x3 / (26 : Int32)) fun v3 => cz_lt (x4 + 1) fun v4 => rec v3 v4)
def f_X5_wordOf (M : cz_M) (a : Nat) (x1 : Int32) (x2 : Int32) : Option (Int32) :=
  (f_X5_of M a x1 ((9 : Int32) + (x2 / (4 : Int32)))).bind fun v1 => cz_it2 (f_X5_wordOf_L15 x2 M (fun x6 x7 => some (x6 - x6 / (26 : Int32) * (26 : Int32)))) 4096 v1 (0 : Int32)
def f_X5_strikes_L5 (a0 : Nat) (x1 : Int32) (x2 : Int32) (M : cz_M) (K : Int32 → Int32 → Option (Int32)) (rec : Int32 → Int32 → Option (Int32)) (x3 : Int32) (x4 : Int32) : Option (Int32) :=
  (f_X5_of M a0 x2 (8 : Int32)).bind fun v1 => if v1 ≤ x4 then (K x3 x4) else ((f_X5_ofCensor x1 (0 : Int32)).bind fun v4 => cz_gd (cz_ib v4 551) ((f_X5_wordOf M a0 x2 x4).bind fun v5 => cz_lt (x3 ||| ((((M.1 (a0 + 1) (Int32.toNatClampNeg v4)) >>> (v5 &&& 31)) &&& (1 : Int32)) <<< (x4 &&& 31))) fun v6 => cz_lt (x4 + 1) fun v7 => rec v6 v7))
def f_X5_strikes (M : cz_M) (a : Nat) (x1 : Int32) (x2 : Int32) : Option (Int32) :=
  cz_it2 (f_X5_strikes_L5 a x1 x2 M (fun x9 x10 => some x9)) 4096 (0 : Int32) (0 : Int32)
def f_X5_shiftNow (M : cz_M) (a : Nat) (x1 : Int32) : Option (Int32) :=
  cz_gd (cz_ib (3 : Int32) 551) (cz_gd (cz_ib (((5 : Int32) + ((2 : Int32) * ((M.1 (a + 1) (Int32.toNatClampNeg (3 : Int32))) - (M.1 (a + 1) (Int32.toNatClampNeg (3 : Int32))) / (4 : Int32) * (4 : Int32)))) + x1) 551) (some (M.1 (a + 1) (Int32.toNatClampNeg (((5 : Int32) + ((2 : Int32) * ((M.1 (a + 1) (Int32.toNatClampNeg (3 : Int32))) - (M.1 (a + 1) (Int32.toNatClampNeg (3 : Int32))) / (4 : Int32) * (4 : Int32)))) + x1)))))
def f_X5_isBarred_L4 (a0 : Nat) (x1 : Int32) (M : cz_M) (K : Int32 → Int32 → Option (Int32)) (rec : Int32 → Int32 → Option (Int32)) (x2 : Int32) (x3 : Int32) : Option (Int32) :=
  if x1 ≤ x3 then (K x2 x3) else (if x2 = 0 then ((f_X5_of M a0 x3 (0 : Int32)).bind fun v5 => (f_X5_of M a0 x1 (0 : Int32)).bind fun v6 => if v5 = v6 then (cz_gd (cz_ib x3 40) (if (M.1 (a0 + 7) (Int32.toNatClampNeg x3)) = 0 then (cz_lt (x3 + 1) fun v12 => rec (0 : Int32) v12) else (cz_lt (x3 + 1) fun v14 => rec (1 : Int32) v14))) else (cz_lt (x3 + 1) fun v8 => rec (0 : Int32) v8)) else (cz_lt (x3 + 1) fun v3 => rec (1 : Int32) v3))
def f_X5_isBarred (M : cz_M) (a : Nat) (x1 : Int32) : Option (Int32) :=
  cz_it2 (f_X5_isBarred_L4 a x1 M (fun x16 x17 => cz_gd (cz_zb x16) (some x16))) 4096 (0 : Int32) (0 : Int32)
def f_X5_reads (M : cz_M) (a : Nat) (x1 : Int32) (x2 : Int32) : Option (cz_M) :=
  (f_X5_strikes M a x1 x2).bind fun v1 => cz_gd (cz_ib x2 40) (cz_gd (cz_zb (1 : Int32)) (cz_lt (cz_mI M (a + 8) (Int32.toNatClampNeg x2) (1 : Int32)) fun M3 => (f_X5_ofCensor x1 (1 : Int32)).bind fun v5 => cz_gd (cz_ib v5 551) (cz_gd (cz_ib v5 551) (cz_lt (cz_mI M3 (a + 1) (Int32.toNatClampNeg v5) ((M3.1 (a + 1) (Int32.toNatClampNeg v5)) + (1 : Int32))) fun M6 => (f_X5_bits v1).bind fun v7 => cz_gd (cz_ib (1 : Int32) 551) (if (M6.1 (a + 1) (Int32.toNatClampNeg (1 : Int32))) < v7 then ((f_X5_at x2 (6 : Int32)).bind fun v11 => cz_gd (cz_ib v11 551) (cz_gd (cz_ib v11 551) (cz_lt (cz_mI M6 (a + 1) (Int32.toNatClampNeg v11) ((M6.1 (a + 1) (Int32.toNatClampNeg v11)) + (1 : Int32))) fun M12 => (f_X5_ofCensor x1 (3 : Int32)).bind fun v14 => cz_gd (cz_ib v14 551) (cz_gd (cz_ib v14 551) (cz_lt (cz_mI M12 (a + 1) (Int32.toNatClampNeg v14) ((M12.1 (a + 1) (Int32.toNatClampNeg v14)) + (1 : Int32))) fun M15 => (f_X5_at x2 (2 : Int32)).bind fun v17 => (f_X5_of M15 a x2 (6 : Int32)).bind fun v18 => cz_gd (cz_ib (2 : Int32) 551) (if v18 < (M15.1 (a + 1) (Int32.toNatClampNeg (2 : Int32))) then (cz_gd (cz_ib v17 551) (cz_lt (cz_mI M15 (a + 1) (Int32.toNatClampNeg v17) (0 : Int32)) fun M21 => some M21)) else (cz_gd (cz_ib v17 551) (cz_lt (cz_mI M15 (a + 1) (Int32.toNatClampNeg v17) (2 : Int32)) fun M22 => some M22)))))))) else ((f_X5_at x2 (2 : Int32)).bind fun v24 => cz_gd (cz_ib v24 551) (cz_lt (cz_mI M6 (a + 1) (Int32.toNatClampNeg v24) (3 : Int32)) fun M25 => (f_X5_at x2 (5 : Int32)).bind fun v27 => cz_gd (cz_ib v27 551) (cz_lt (cz_mI M25 (a + 1) (Int32.toNatClampNeg v27) v1) fun M28 => (f_X5_at x2 (7 : Int32)).bind fun v30 => cz_gd (cz_ib v30 551) (cz_lt (cz_mI M28 (a + 1) (Int32.toNatClampNeg v30) x1) fun M31 => (f_X5_ofCensor x1 (2 : Int32)).bind fun v33 => cz_gd (cz_ib v33 551) ((f_X5_bits v1).bind fun v34 => cz_gd (cz_ib v33 551) (cz_lt (cz_mI M31 (a + 1) (Int32.toNatClampNeg v33) ((M31.1 (a + 1) (Int32.toNatClampNeg v33)) + v34)) fun M35 => some M35)))))))))))
def f_X5_goesThrough_L22 (a0 : Nat) (x1 : Int32) (x2 : Int32) (x3 : Int32) (K : Int32 → Int32 → cz_M → Option (cz_M)) (rec : Int32 → Int32 → cz_M → Option (cz_M)) (x4 : Int32) (x5 : Int32) (M : cz_M) : Option (cz_M) :=
  if x3 ≤ x5 then (K x4 x5 M) else ((f_X5_inRow x1 x5).bind fun v6 => cz_gd (cz_ib v6 551) (cz_lt (M.1 (a0 + 1) (Int32.toNatClampNeg v6)) fun v7 => cz_gd (cz_ib (0 : Int32) 551) (if (M.1 (a0 + 1) (Int32.toNatClampNeg (0 : Int32))) ≤ x4 then (cz_lt (x5 + 1) fun v10 => rec x4 v10 M) else ((f_X5_isBarred M a0 v7).bind fun v12 => if v12 = 0 then ((f_X5_reads M a0 x2 v7).bind fun M16 => cz_lt (x4 + 1) fun v17 => cz_lt (x5 + 1) fun v19 => rec v17 v19 M16) else (cz_lt (x5 + 1) fun v14 => rec x4 v14 M)))))
def f_X5_goesThrough_L92 (a0 : Nat) (x1 : Int32) (x3 : Int32) (x6 : Int32) (K : Int32 → Int32 → cz_M → Option (cz_M)) (rec : Int32 → Int32 → cz_M → Option (cz_M)) (x5 : Int32) (x7 : Int32) (M : cz_M) : Option (cz_M) :=
  if x3 ≤ x7 then (K x5 x7 M) else ((f_X5_inRow x1 x7).bind fun v27 => cz_gd (cz_ib v27 551) (cz_lt (M.1 (a0 + 1) (Int32.toNatClampNeg v27)) fun v28 => (f_X5_of M a0 v28 (2 : Int32)).bind fun v29 => if v29 = 0 then (cz_gd (cz_ib v28 40) (if x6 = (1 : Int32) then (if (M.1 (a0 + 8) (Int32.toNatClampNeg v28)) = (1 : Int32) then (cz_gd (cz_ib x5 40) (cz_lt (cz_mI M (a0 + 9) (Int32.toNatClampNeg x5) v28) fun M48 => cz_lt (x5 + 1) fun v49 => cz_lt (x7 + 1) fun v51 => rec v49 v51 M48)) else (cz_lt (x7 + 1) fun v45 => rec x5 v45 M)) else (if (M.1 (a0 + 8) (Int32.toNatClampNeg v28)) = (0 : Int32) then (cz_gd (cz_ib x5 40) (cz_lt (cz_mI M (a0 + 9) (Int32.toNatClampNeg x5) v28) fun M39 => cz_lt (x5 + 1) fun v40 => cz_lt (x7 + 1) fun v42 => rec v40 v42 M39)) else (cz_lt (x7 + 1) fun v36 => rec x5 v36 M)))) else (cz_lt (x7 + 1) fun v31 => rec x5 v31 M)))
def f_X5_goesThrough_L83 (a0 : Nat) (x1 : Int32) (x3 : Int32) (K : Int32 → Int32 → cz_M → Option (cz_M)) (rec : Int32 → Int32 → cz_M → Option (cz_M)) (x5 : Int32) (x6 : Int32) (M : cz_M) : Option (cz_M) :=
  if (2 : Int32) ≤ x6 then (K x5 x6 M) else (cz_it3 (f_X5_goesThrough_L92 a0 x1 x3 x6 (fun x53 x54 M55 => cz_lt (x6 + 1) fun v56 => rec x53 v56 M55)) 4096 x5 (0 : Int32) M)
def f_X5_goesThrough_L169 (a0 : Nat) (x1 : Int32) (x3 : Int32) (x5 : Int32) (K : Int32 → cz_M → Option (cz_M)) (rec : Int32 → cz_M → Option (cz_M)) (x6 : Int32) (M : cz_M) : Option (cz_M) :=
  if x3 ≤ x6 then (K x6 M) else ((f_X5_inRow x1 x6).bind fun v63 => if x5 ≤ x6 then (cz_gd (cz_ib v63 551) (cz_lt (cz_mI M (a0 + 1) (Int32.toNatClampNeg v63) (0 : Int32)) fun M65 => cz_lt (x6 + 1) fun v66 => rec v66 M65)) else (cz_gd (cz_ib x6 40) (cz_gd (cz_ib v63 551) (cz_lt (cz_mI M (a0 + 1) (Int32.toNatClampNeg v63) (M.1 (a0 + 9) (Int32.toNatClampNeg x6))) fun M69 => cz_lt (x6 + 1) fun v70 => rec v70 M69))))
def f_X5_goesThrough (M : cz_M) (a : Nat) (x1 : Int32) : Option (cz_M) :=
  (f_X5_shiftNow M a x1).bind fun v1 => cz_gd (cz_ib ((29 : Int32) + x1) 551) (cz_lt (M.1 (a + 1) (Int32.toNatClampNeg ((29 : Int32) + x1))) fun v3 => cz_it3 (f_X5_goesThrough_L22 a x1 v1 v3 (fun x21 x22 M23 => cz_it3 (f_X5_goesThrough_L83 a x1 v3 (fun x58 x59 M60 => cz_it2 (f_X5_goesThrough_L169 a x1 v3 x58 (fun x72 M73 => cz_gd (cz_ib ((29 : Int32) + x1) 551) (cz_lt (cz_mI M73 (a + 1) (Int32.toNatClampNeg ((29 : Int32) + x1)) x58) fun M75 => some M75))) 4096 (0 : Int32) M60)) 4096 (0 : Int32) (0 : Int32) M23)) 4096 (0 : Int32) (0 : Int32) M)
def f_X5_week_L2 (a0 : Nat) (K : Int32 → cz_M → Option (Int32 × cz_M)) (rec : Int32 → cz_M → Option (Int32 × cz_M)) (x1 : Int32) (M : cz_M) : Option (Int32 × cz_M) :=
  cz_gd (cz_ib (4 : Int32) 551) (if (M.1 (a0 + 1) (Int32.toNatClampNeg (4 : Int32))) ≤ x1 then (K x1 M) else ((f_X5_of M a0 x1 (2 : Int32)).bind fun v4 => if v4 = 0 then (cz_gd (cz_ib x1 40) (cz_gd (cz_zb (1 : Int32)) (cz_lt (cz_mI M (a0 + 7) (Int32.toNatClampNeg x1) (1 : Int32)) fun M11 => cz_gd (cz_ib x1 40) (cz_gd (cz_zb (0 : Int32)) (cz_lt (cz_mI M11 (a0 + 8) (Int32.toNatClampNeg x1) (0 : Int32)) fun M13 => cz_lt (x1 + 1) fun v14 => rec v14 M13))))) else (cz_gd (cz_ib x1 40) (cz_gd (cz_zb (0 : Int32)) (cz_lt (cz_mI M (a0 + 7) (Int32.toNatClampNeg x1) (0 : Int32)) fun M6 => cz_gd (cz_ib x1 40) (cz_gd (cz_zb (0 : Int32)) (cz_lt (cz_mI M6 (a0 + 8) (Int32.toNatClampNeg x1) (0 : Int32)) fun M8 => cz_lt (x1 + 1) fun v9 => rec v9 M8)))))))
def f_X5_week_L69 (a0 : Nat) (K : Int32 → Int32 → cz_M → Option (Int32 × cz_M)) (rec : Int32 → Int32 → cz_M → Option (Int32 × cz_M)) (x1 : Int32) (x2 : Int32) (M : cz_M) : Option (Int32 × cz_M) :=
  cz_gd (cz_ib (4 : Int32) 551) (if (M.1 (a0 + 1) (Int32.toNatClampNeg (4 : Int32))) ≤ x2 then (K x1 x2 M) else ((f_X5_of M a0 x2 (2 : Int32)).bind fun v24 => if v24 = (3 : Int32) then ((f_X5_at x2 (2 : Int32)).bind fun v29 => cz_gd (cz_ib v29 551) (cz_lt (cz_mI M (a0 + 1) (Int32.toNatClampNeg v29) (1 : Int32)) fun M30 => (f_X5_at x2 (4 : Int32)).bind fun v32 => cz_gd (cz_ib (3 : Int32) 551) ((f_X5_of M30 a0 x2 (3 : Int32)).bind fun v34 => cz_gd (cz_ib v32 551) (cz_lt (cz_mI M30 (a0 + 1) (Int32.toNatClampNeg v32) ((M30.1 (a0 + 1) (Int32.toNatClampNeg (3 : Int32))) - v34)) fun M35 => cz_lt (x1 + 1) fun v36 => cz_lt (x2 + 1) fun v38 => rec v36 v38 M35)))) else (cz_lt (x2 + 1) fun v26 => rec x1 v26 M)))
def f_X5_week (M : cz_M) (a : Nat) : Option (Int32 × cz_M) :=
  cz_it2 (f_X5_week_L2 a (fun x16 M17 => (f_X5_goesThrough M17 a (0 : Int32)).bind fun M18 => (f_X5_goesThrough M18 a (1 : Int32)).bind fun M19 => cz_gd (cz_ib (3 : Int32) 551) (cz_gd (cz_ib (3 : Int32) 551) (cz_lt (cz_mI M19 (a + 1) (Int32.toNatClampNeg (3 : Int32)) ((M19.1 (a + 1) (Int32.toNatClampNeg (3 : Int32))) + (1 : Int32))) fun M21 => cz_it3 (f_X5_week_L69 a (fun x40 x41 M42 => some (x40, M42))) 4096 (0 : Int32) (0 : Int32) M21)))) 4096 (0 : Int32) M
def f_X5_passes_L4 (a0 : Nat) (x1 : Int32) (K : Int32 → Int32 → cz_M → Option (Int32 × cz_M)) (rec : Int32 → Int32 → cz_M → Option (Int32 × cz_M)) (x2 : Int32) (x3 : Int32) (M : cz_M) : Option (Int32 × cz_M) :=
  if x1 ≤ x3 then (K x2 x3 M) else (cz_b2 (f_X5_week M a0) fun v3 M2 => cz_lt (x2 + v3) fun v4 => cz_lt (x3 + 1) fun v5 => rec v4 v5 M2)
def f_X5_passes (M : cz_M) (a : Nat) (x1 : Int32) : Option (Int32 × cz_M) :=
  cz_it3 (f_X5_passes_L4 a x1 (fun x7 x8 M9 => some (x7, M9))) 4096 (0 : Int32) (0 : Int32) M
def f_X5_many_L4 (a0 : Nat) (x1 : Int32) (M : cz_M) (K : Int32 → Int32 → Option (Int32)) (rec : Int32 → Int32 → Option (Int32)) (x2 : Int32) (x3 : Int32) : Option (Int32) :=
  cz_gd (cz_ib (4 : Int32) 551) (if (M.1 (a0 + 1) (Int32.toNatClampNeg (4 : Int32))) ≤ x3 then (K x2 x3) else ((f_X5_of M a0 x3 (2 : Int32)).bind fun v3 => if v3 = x1 then (cz_lt (x2 + (1 : Int32)) fun v8 => cz_lt (x3 + 1) fun v9 => rec v8 v9) else (cz_lt (x2 + (0 : Int32)) fun v5 => cz_lt (x3 + 1) fun v6 => rec v5 v6)))
def f_X5_many (M : cz_M) (a : Nat) (x1 : Int32) : Option (Int32) :=
  cz_it2 (f_X5_many_L4 a x1 M (fun x11 x12 => some x11)) 4096 (0 : Int32) (0 : Int32)
def f_X5_struckWords_L4 (a0 : Nat) (M : cz_M) (K : Int32 → Int32 → Option (Int32)) (rec : Int32 → Int32 → Option (Int32)) (x1 : Int32) (x2 : Int32) : Option (Int32) :=
  cz_gd (cz_ib (4 : Int32) 551) (if (M.1 (a0 + 1) (Int32.toNatClampNeg (4 : Int32))) ≤ x2 then (K x1 x2) else ((f_X5_of M a0 x2 (2 : Int32)).bind fun v3 => if v3 = (1 : Int32) then ((f_X5_of M a0 x2 (5 : Int32)).bind fun v8 => (f_X5_bits v8).bind fun v9 => cz_lt (x1 + v9) fun v10 => cz_lt (x2 + 1) fun v11 => rec v10 v11) else (cz_lt (x1 + (0 : Int32)) fun v5 => cz_lt (x2 + 1) fun v6 => rec v5 v6)))
def f_X5_struckWords (M : cz_M) (a : Nat) : Option (Int32) :=
  cz_it2 (f_X5_struckWords_L4 a M (fun x13 x14 => some x13)) 4096 (0 : Int32) (0 : Int32)
def f_X5_turnedBack (M : cz_M) (a : Nat) : Option (Int32) :=
  (f_X5_ofCensor (0 : Int32) (3 : Int32)).bind fun v2 => cz_gd (cz_ib v2 551) ((f_X5_ofCensor (1 : Int32) (3 : Int32)).bind fun v4 => cz_gd (cz_ib v4 551) ((f_X5_ofCensor (2 : Int32) (3 : Int32)).bind fun v6 => cz_gd (cz_ib v6 551) ((f_X5_ofCensor (3 : Int32) (3 : Int32)).bind fun v8 => cz_gd (cz_ib v8 551) (some ((((M.1 (a + 1) (Int32.toNatClampNeg v2)) + (M.1 (a + 1) (Int32.toNatClampNeg v4))) + (M.1 (a + 1) (Int32.toNatClampNeg v6))) + (M.1 (a + 1) (Int32.toNatClampNeg v8)))))))
def f_X5_lays (M : cz_M) (a : Nat) (x1 : Int32) (x2 : Int32) : Option (Int32 × cz_M) :=
  (f_X5_record M a).bind fun M1 => cz_gd (cz_ib x1 551) (cz_lt (M1.1 (a + 1) (Int32.toNatClampNeg x1)) fun v3 => cz_gd (cz_ib x1 551) (cz_lt (cz_mI M1 (a + 1) (Int32.toNatClampNeg x1) x2) fun M5 => some (v3, M5)))
def f_X5_set (M : cz_M) (a : Nat) (x1 : Int32) (x2 : Int32) : Option (Int32 × cz_M) :=
  if x1 = 0 then ((f_X5_in x2 (1 : Int32) (9 : Int32)).bind fun v19 => if v19 = 0 then (some ((-2 : Int32), M)) else (cz_b2 (f_X5_lays M a x1 x2) fun v22 M21 => some (v22, M21))) else (if x1 = (1 : Int32) then ((f_X5_in x2 (0 : Int32) (8 : Int32)).bind fun v15 => if v15 = 0 then (some ((-2 : Int32), M)) else (cz_b2 (f_X5_lays M a x1 x2) fun v18 M17 => some (v18, M17))) else (if x1 = (2 : Int32) then ((f_X5_in x2 (1 : Int32) (5 : Int32)).bind fun v7 => if v7 = 0 then (if (0 : Int32) = 0 then (some ((-2 : Int32), M)) else (cz_b2 (f_X5_lays M a x1 x2) fun v11 M10 => some (v11, M10))) else (if (1 : Int32) = 0 then (some ((-2 : Int32), M)) else (cz_b2 (f_X5_lays M a x1 x2) fun v14 M13 => some (v14, M13)))) else (if (0 : Int32) = 0 then (some ((-2 : Int32), M)) else (cz_b2 (f_X5_lays M a x1 x2) fun v6 M5 => some (v6, M5)))))
def f_X5_strike (M : cz_M) (a : Nat) (x1 : Int32) (x2 : Int32) : Option (Int32 × cz_M) :=
  (f_X5_in x1 (0 : Int32) (3 : Int32)).bind fun v1 => if v1 = 0 then (some ((-1 : Int32), M)) else ((f_X5_in x2 (0 : Int32) (25 : Int32)).bind fun v3 => if v3 = 0 then (some ((-1 : Int32), M)) else ((f_X5_ofCensor x1 (0 : Int32)).bind fun v5 => (f_X5_ofCensor x1 (0 : Int32)).bind fun v7 => cz_gd (cz_ib v7 551) (cz_b2 (f_X5_lays M a v5 ((M.1 (a + 1) (Int32.toNatClampNeg v7)) ^^^ ((1 : Int32) <<< (x2 &&& 31)))) fun v9 M8 => (f_X5_ofCensor x1 (0 : Int32)).bind fun v11 => cz_gd (cz_ib v11 551) ((f_X5_bits (M8.1 (a + 1) (Int32.toNatClampNeg v11))).bind fun v12 => some (v12, M8)))))
def f_X5_isShift (x0 : Int32) : Option (Int32) :=
  (f_X5_in x0 (0 : Int32) (7 : Int32)).bind fun v1 => cz_gd (cz_zb v1) (some v1)
def f_X5_trades (M : cz_M) (a : Nat) (x1 : Int32) (x2 : Int32) : Option (cz_M) :=
  cz_gd (cz_ib ((5 : Int32) + x1) 551) (cz_lt (M.1 (a + 1) (Int32.toNatClampNeg ((5 : Int32) + x1))) fun v2 => cz_gd (cz_ib ((5 : Int32) + x2) 551) (cz_gd (cz_ib ((5 : Int32) + x1) 551) (cz_lt (cz_mI M (a + 1) (Int32.toNatClampNeg ((5 : Int32) + x1)) (M.1 (a + 1) (Int32.toNatClampNeg ((5 : Int32) + x2)))) fun M5 => cz_gd (cz_ib ((5 : Int32) + x2) 551) (cz_lt (cz_mI M5 (a + 1) (Int32.toNatClampNeg ((5 : Int32) + x2)) v2) fun M7 => some M7))))
def f_X5_trade (M : cz_M) (a : Nat) (x1 : Int32) (x2 : Int32) : Option (Int32 × cz_M) :=
  (f_X5_isShift x1).bind fun v1 => if v1 = 0 then (some ((-1 : Int32), M)) else ((f_X5_isShift x2).bind fun v3 => if v3 = 0 then (some ((-1 : Int32), M)) else (cz_gd (cz_ib ((5 : Int32) + x1) 551) (cz_gd (cz_ib ((5 : Int32) + x2) 551) (if (M.1 (a + 1) (Int32.toNatClampNeg ((5 : Int32) + x1))) = (M.1 (a + 1) (Int32.toNatClampNeg ((5 : Int32) + x2))) then (some ((-5 : Int32), M)) else ((f_X5_record M a).bind fun M8 => (f_X5_trades M8 a x1 x2).bind fun M9 => cz_gd (cz_ib ((5 : Int32) + x1) 551) (some ((M9.1 (a + 1) (Int32.toNatClampNeg ((5 : Int32) + x1))), M9)))))))
def f_X5_placeOf_L13 (a0 : Nat) (x1 : Int32) (x2 : Int32) (M : cz_M) (K : Int32 → Int32 → Option (Int32)) (rec : Int32 → Int32 → Option (Int32)) (x3 : Int32) (x4 : Int32) : Option (Int32) :=
  cz_gd (cz_ib ((29 : Int32) + x2) 551) (if (M.1 (a0 + 1) (Int32.toNatClampNeg ((29 : Int32) + x2))) ≤ x4 then (K x3 x4) else ((f_X5_of M a0 x1 (2 : Int32)).bind fun v4 => if v4 = 0 then ((f_X5_inRow x2 x4).bind fun v7 => cz_gd (cz_ib v7 551) (if (M.1 (a0 + 1) (Int32.toNatClampNeg v7)) = x1 then (cz_lt (x4 + 1) fun v11 => rec x4 v11) else (cz_lt (x4 + 1) fun v9 => rec x3 v9))) else (K x3 x4)))
def f_X5_placeOf (M : cz_M) (a : Nat) (x1 : Int32) : Option (Int32) :=
  (f_X5_of M a x1 (1 : Int32)).bind fun v1 => cz_it2 (f_X5_placeOf_L13 a x1 v1 M (fun x13 x14 => some x13)) 4096 (-6 : Int32) (0 : Int32)
def f_X5_burn_L66 (a0 : Nat) (x1 : Int32) (x2 : Int32) (K : Int32 → cz_M → Option (Int32 × cz_M)) (rec : Int32 → cz_M → Option (Int32 × cz_M)) (x4 : Int32) (M : cz_M) : Option (Int32 × cz_M) :=
  cz_gd (cz_ib ((29 : Int32) + x2) 551) (if (M.1 (a0 + 1) (Int32.toNatClampNeg ((29 : Int32) + x2))) ≤ x4 then (K x4 M) else ((f_X5_inRow x2 x4).bind fun v16 => (f_X5_inRow x2 (x4 + (1 : Int32))).bind fun v18 => cz_gd (cz_ib v18 551) (cz_gd (cz_ib v16 551) (cz_lt (cz_mI M (a0 + 1) (Int32.toNatClampNeg v16) (M.1 (a0 + 1) (Int32.toNatClampNeg v18))) fun M19 => cz_lt (x4 + 1) fun v20 => rec v20 M19))))
def f_X5_burn (M : cz_M) (a : Nat) (x1 : Int32) : Option (Int32 × cz_M) :=
  (f_X5_isLetter M a x1).bind fun v1 => if v1 = 0 then (some ((-1 : Int32), M)) else ((f_X5_of M a x1 (2 : Int32)).bind fun v3 => if v3 = 0 then ((f_X5_record M a).bind fun M5 => (f_X5_of M5 a x1 (1 : Int32)).bind fun v6 => (f_X5_placeOf M5 a x1).bind fun v7 => (f_X5_at x1 (2 : Int32)).bind fun v9 => cz_gd (cz_ib v9 551) (cz_lt (cz_mI M5 (a + 1) (Int32.toNatClampNeg v9) (2 : Int32)) fun M10 => cz_gd (cz_ib ((29 : Int32) + v6) 551) (cz_gd (cz_ib ((29 : Int32) + v6) 551) (cz_lt (cz_mI M10 (a + 1) (Int32.toNatClampNeg ((29 : Int32) + v6)) ((M10.1 (a + 1) (Int32.toNatClampNeg ((29 : Int32) + v6))) - (1 : Int32))) fun M12 => cz_it2 (f_X5_burn_L66 a x1 v6 (fun x22 M23 => cz_gd (cz_ib ((29 : Int32) + v6) 551) ((f_X5_inRow v6 (M23.1 (a + 1) (Int32.toNatClampNeg ((29 : Int32) + v6)))).bind fun v26 => cz_gd (cz_ib v26 551) (cz_lt (cz_mI M23 (a + 1) (Int32.toNatClampNeg v26) (0 : Int32)) fun M27 => cz_gd (cz_ib (3 : Int32) 551) ((f_X5_of M27 a x1 (3 : Int32)).bind fun v29 => some (((M27.1 (a + 1) (Int32.toNatClampNeg (3 : Int32))) - v29), M27)))))) 4096 v7 M12)))) else (some ((-5 : Int32), M)))
def f_X5_pass (M : cz_M) (a : Nat) (x1 : Int32) : Option (Int32 × cz_M) :=
  (f_X5_in x1 (1 : Int32) (52 : Int32)).bind fun v1 => if v1 = 0 then (some ((-2 : Int32), M)) else (cz_gd (cz_ib (3 : Int32) 551) (if ((M.1 (a + 1) (Int32.toNatClampNeg (3 : Int32))) + x1) ≤ (9999 : Int32) then ((f_X5_record M a).bind fun M5 => cz_b2 (f_X5_passes M5 a x1) fun v7 M6 => some (v7, M6)) else (some ((-4 : Int32), M))))
def f_X5_aheadOf_L5 (a0 : Nat) (x1 : Int32) (M : cz_M) (K : Int32 → Int32 → Option (Int32)) (rec : Int32 → Int32 → Option (Int32)) (x2 : Int32) (x3 : Int32) : Option (Int32) :=
  if x1 ≤ x3 then (K x2 x3) else ((f_X5_of M a0 x3 (0 : Int32)).bind fun v2 => (f_X5_of M a0 x1 (0 : Int32)).bind fun v3 => if v2 = v3 then (cz_lt (x3 + 1) fun v7 => rec x3 v7) else (cz_lt (x3 + 1) fun v5 => rec x2 v5))
def f_X5_aheadOf (M : cz_M) (a : Nat) (x1 : Int32) : Option (Int32) :=
  cz_it2 (f_X5_aheadOf_L5 a x1 M (fun x9 x10 => some x9)) 4096 (-6 : Int32) (0 : Int32)
def f_X5_letter (M : cz_M) (a : Nat) (x1 : Int32) (x2 : Int32) : Option (Int32) :=
  (f_X5_isLetter M a x1).bind fun v1 => if v1 = 0 then (some (-1 : Int32)) else (if x2 = (0 : Int32) then ((f_X5_of M a x1 x2).bind fun v4 => some v4) else (if x2 = (1 : Int32) then ((f_X5_of M a x1 x2).bind fun v6 => some v6) else (if x2 = (2 : Int32) then ((f_X5_of M a x1 x2).bind fun v8 => some v8) else (if x2 = (3 : Int32) then ((f_X5_placeOf M a x1).bind fun v10 => some v10) else (if x2 = (4 : Int32) then ((f_X5_of M a x1 (x2 - (1 : Int32))).bind fun v12 => some v12) else (if x2 = (5 : Int32) then ((f_X5_of M a x1 (x2 - (1 : Int32))).bind fun v14 => some v14) else (if x2 = (6 : Int32) then ((f_X5_of M a x1 (5 : Int32)).bind fun v16 => (f_X5_bits v16).bind fun v17 => some v17) else (if x2 = (7 : Int32) then ((f_X5_of M a x1 (x2 - (1 : Int32))).bind fun v19 => some v19) else (if x2 = (8 : Int32) then ((f_X5_of M a x1 (x2 - (1 : Int32))).bind fun v21 => some v21) else (if x2 = (9 : Int32) then ((f_X5_aheadOf M a x1).bind fun v23 => some v23) else (if x2 = (10 : Int32) then ((f_X5_of M a x1 (8 : Int32)).bind fun v25 => some v25) else (some (-2 : Int32)))))))))))))
def f_X5_word (M : cz_M) (a : Nat) (x1 : Int32) (x2 : Int32) : Option (Int32) :=
  (f_X5_isLetter M a x1).bind fun v1 => if v1 = 0 then (some (-1 : Int32)) else ((f_X5_of M a x1 (8 : Int32)).bind fun v3 => (f_X5_in x2 (0 : Int32) (v3 - (1 : Int32))).bind fun v4 => if v4 = 0 then (some (-1 : Int32)) else ((f_X5_of M a x1 (5 : Int32)).bind fun v6 => if ((v6 >>> (x2 &&& 31)) &&& (1 : Int32)) = (1 : Int32) then (some (42 : Int32)) else ((f_X5_wordOf M a x1 x2).bind fun v8 => some ((97 : Int32) + v8))))
def f_X5_why (M : cz_M) (a : Nat) (x1 : Int32) : Option (Int32 × cz_M) :=
  (f_X5_isLetter M a x1).bind fun v1 => if v1 = 0 then (some ((-1 : Int32), M)) else ((f_X5_of M a x1 (2 : Int32)).bind fun v3 => if v3 = 0 then ((f_X5_putAside M a).bind fun M5 => cz_b2 (f_X5_week M5 a) fun v7 M6 => (f_X5_of M6 a x1 (2 : Int32)).bind fun v8 => if v8 = (1 : Int32) then ((f_X5_putBack M6 a).bind fun M19 => some ((0 : Int32), M19)) else ((f_X5_isBarred M6 a x1).bind fun v10 => if v10 = 0 then (cz_gd (cz_ib x1 40) (if (M6.1 (a + 8) (Int32.toNatClampNeg x1)) = 0 then ((f_X5_putBack M6 a).bind fun M17 => some ((3 : Int32), M17)) else (if v8 = 0 then ((f_X5_putBack M6 a).bind fun M16 => some ((4 : Int32), M16)) else ((f_X5_putBack M6 a).bind fun M15 => some ((5 : Int32), M15))))) else ((f_X5_putBack M6 a).bind fun M18 => some ((2 : Int32), M18)))) else (some ((1 : Int32), M)))
def f_X5_shiftsOf_L4 (a0 : Nat) (x1 : Int32) (M : cz_M) (K : Int32 → Int32 → Option (Int32)) (rec : Int32 → Int32 → Option (Int32)) (x2 : Int32) (x3 : Int32) : Option (Int32) :=
  if (8 : Int32) ≤ x3 then (K x2 x3) else (cz_gd (cz_ib ((5 : Int32) + x3) 551) (if (M.1 (a0 + 1) (Int32.toNatClampNeg ((5 : Int32) + x3))) = x1 then (cz_lt (x2 + (1 : Int32)) fun v7 => cz_lt (x3 + 1) fun v8 => rec v7 v8) else (cz_lt (x2 + (0 : Int32)) fun v4 => cz_lt (x3 + 1) fun v5 => rec v4 v5)))
def f_X5_shiftsOf (M : cz_M) (a : Nat) (x1 : Int32) : Option (Int32) :=
  cz_it2 (f_X5_shiftsOf_L4 a x1 M (fun x10 x11 => some x10)) 4096 (0 : Int32) (0 : Int32)
def f_X5_censor (M : cz_M) (a : Nat) (x1 : Int32) (x2 : Int32) : Option (Int32) :=
  (f_X5_in x1 (0 : Int32) (3 : Int32)).bind fun v1 => if v1 = 0 then (some (-1 : Int32)) else (if x2 = (1 : Int32) then ((f_X5_shiftsOf M a x1).bind fun v11 => some v11) else (if x2 = 0 then ((f_X5_ofCensor x1 (0 : Int32)).bind fun v10 => cz_gd (cz_ib v10 551) (some (M.1 (a + 1) (Int32.toNatClampNeg v10)))) else ((f_X5_in x2 (2 : Int32) (4 : Int32)).bind fun v5 => if v5 = 0 then (some (-2 : Int32)) else ((f_X5_ofCensor x1 (x2 - (1 : Int32))).bind fun v8 => cz_gd (cz_ib v8 551) (some (M.1 (a + 1) (Int32.toNatClampNeg v8)))))))
def f_X5_onShift (M : cz_M) (a : Nat) (x1 : Int32) (x2 : Int32) : Option (Int32) :=
  (f_X5_in x2 (0 : Int32) (1 : Int32)).bind fun v1 => if v1 = 0 then (some (-1 : Int32)) else ((f_X5_in x1 (0 : Int32) (9999 : Int32)).bind fun v3 => if v3 = 0 then (some (-2 : Int32)) else (cz_gd (cz_ib (((5 : Int32) + ((2 : Int32) * (x1 - x1 / (4 : Int32) * (4 : Int32)))) + x2) 551) (some (M.1 (a + 1) (Int32.toNatClampNeg (((5 : Int32) + ((2 : Int32) * (x1 - x1 / (4 : Int32) * (4 : Int32)))) + x2))))))
def f_X5_delays_L4 (a0 : Nat) (M : cz_M) (K : Int32 → Int32 → Option (Int32)) (rec : Int32 → Int32 → Option (Int32)) (x1 : Int32) (x2 : Int32) : Option (Int32) :=
  cz_gd (cz_ib (4 : Int32) 551) (if (M.1 (a0 + 1) (Int32.toNatClampNeg (4 : Int32))) ≤ x2 then (K x1 x2) else ((f_X5_of M a0 x2 (2 : Int32)).bind fun v3 => if v3 = (1 : Int32) then ((f_X5_of M a0 x2 (4 : Int32)).bind fun v8 => cz_lt (x1 + v8) fun v9 => cz_lt (x2 + 1) fun v10 => rec v9 v10) else (cz_lt (x1 + (0 : Int32)) fun v5 => cz_lt (x2 + 1) fun v6 => rec v5 v6)))
def f_X5_delays (M : cz_M) (a : Nat) : Option (Int32) :=
  cz_it2 (f_X5_delays_L4 a M (fun x12 x13 => some x12)) 4096 (0 : Int32) (0 : Int32)
def f_X5_longest_L4 (a0 : Nat) (M : cz_M) (K : Int32 → Int32 → Option (Int32)) (rec : Int32 → Int32 → Option (Int32)) (x1 : Int32) (x2 : Int32) : Option (Int32) :=
  cz_gd (cz_ib (4 : Int32) 551) (if (M.1 (a0 + 1) (Int32.toNatClampNeg (4 : Int32))) ≤ x2 then (K x1 x2) else ((f_X5_of M a0 x2 (4 : Int32)).bind fun v3 => if v3 ≤ x1 then (cz_lt (x2 + 1) fun v5 => rec x1 v5) else ((f_X5_of M a0 x2 (4 : Int32)).bind fun v7 => cz_lt (x2 + 1) fun v8 => rec v7 v8)))
def f_X5_longest (M : cz_M) (a : Nat) : Option (Int32) :=
  cz_it2 (f_X5_longest_L4 a M (fun x10 x11 => some x10)) 4096 (0 : Int32) (0 : Int32)
def f_X5_waitingThreads_L4 (a0 : Nat) (M : cz_M) (K : Int32 → Int32 → Option (Int32)) (rec : Int32 → Int32 → Option (Int32)) (x1 : Int32) (x2 : Int32) : Option (Int32) :=
  cz_gd (cz_ib (4 : Int32) 551) (if (M.1 (a0 + 1) (Int32.toNatClampNeg (4 : Int32))) ≤ x2 then (K x1 x2) else ((f_X5_of M a0 x2 (2 : Int32)).bind fun v3 => if v3 = 0 then ((f_X5_of M a0 x2 (0 : Int32)).bind fun v8 => cz_lt (x1 ||| ((1 : Int32) <<< (v8 &&& 31))) fun v9 => cz_lt (x2 + 1) fun v10 => rec v9 v10) else (cz_lt (x1 ||| (0 : Int32)) fun v5 => cz_lt (x2 + 1) fun v6 => rec v5 v6)))
def f_X5_waitingThreads (M : cz_M) (a : Nat) : Option (Int32) :=
  cz_it2 (f_X5_waitingThreads_L4 a M (fun x12 x13 => (f_X5_bits x12).bind fun v14 => some v14)) 4096 (0 : Int32) (0 : Int32)
def f_X5_count (M : cz_M) (a : Nat) (x1 : Int32) : Option (Int32) :=
  (f_X5_in x1 (0 : Int32) (4 : Int32)).bind fun v1 => if v1 = 0 then (if x1 = (5 : Int32) then ((f_X5_many M a (x1 - (5 : Int32))).bind fun v4 => some v4) else (if x1 = (6 : Int32) then ((f_X5_many M a (x1 - (5 : Int32))).bind fun v6 => some v6) else (if x1 = (7 : Int32) then ((f_X5_many M a (x1 - (5 : Int32))).bind fun v8 => some v8) else (if x1 = (8 : Int32) then (cz_gd (cz_ib (((29 : Int32) + x1) - (8 : Int32)) 551) (some (M.1 (a + 1) (Int32.toNatClampNeg (((29 : Int32) + x1) - (8 : Int32)))))) else (if x1 = (9 : Int32) then (cz_gd (cz_ib (((29 : Int32) + x1) - (8 : Int32)) 551) (some (M.1 (a + 1) (Int32.toNatClampNeg (((29 : Int32) + x1) - (8 : Int32)))))) else (if x1 = (10 : Int32) then ((f_X5_delays M a).bind fun v14 => some v14) else (if x1 = (11 : Int32) then ((f_X5_longest M a).bind fun v16 => some v16) else (if x1 = (12 : Int32) then ((f_X5_struckWords M a).bind fun v18 => some v18) else (if x1 = (13 : Int32) then ((f_X5_waitingThreads M a).bind fun v20 => some v20) else (if x1 = (14 : Int32) then (some (M.1 a 7)) else (if x1 = (15 : Int32) then (some (M.1 a 3)) else (some (-2 : Int32))))))))))))) else (cz_gd (cz_ib x1 551) (some (M.1 (a + 1) (Int32.toNatClampNeg x1))))
def f_X5_untilCome_L16 (a0 : Nat) (x1 : Int32) (K : Int32 → cz_M → Option (Int32 × cz_M)) (rec : Int32 → cz_M → Option (Int32 × cz_M)) (x2 : Int32) (M : cz_M) : Option (Int32 × cz_M) :=
  (f_X5_of M a0 x1 (2 : Int32)).bind fun v4 => if v4 = 0 then (if (100 : Int32) ≤ x2 then (K x2 M) else (cz_b2 (f_X5_week M a0) fun v8 M7 => cz_lt (x2 + 1) fun v9 => rec v9 M7)) else (K x2 M)
def f_X5_untilCome (M : cz_M) (a : Nat) (x1 : Int32) : Option (Int32 × cz_M) :=
  (f_X5_isLetter M a x1).bind fun v1 => if v1 = 0 then (some ((-1 : Int32), M)) else ((f_X5_putAside M a).bind fun M3 => cz_it2 (f_X5_untilCome_L16 a x1 (fun x11 M12 => (f_X5_of M12 a x1 (2 : Int32)).bind fun v13 => if v13 = (1 : Int32) then ((f_X5_putBack M12 a).bind fun M17 => if (1 : Int32) = 0 then (some ((-6 : Int32), M17)) else (some (x11, M17))) else ((f_X5_putBack M12 a).bind fun M15 => if (0 : Int32) = 0 then (some ((-6 : Int32), M15)) else (some (x11, M15))))) 4096 (0 : Int32) M3)
def f_X5_ifPassed (M : cz_M) (a : Nat) (x1 : Int32) (x2 : Int32) : Option (Int32 × cz_M) :=
  (f_X5_in x1 (1 : Int32) (100 : Int32)).bind fun v1 => if v1 = 0 then (some ((-2 : Int32), M)) else ((f_X5_in x2 (0 : Int32) (2 : Int32)).bind fun v3 => if v3 = 0 then (some ((-2 : Int32), M)) else ((f_X5_putAside M a).bind fun M5 => if x2 = 0 then ((f_X5_many M5 a (1 : Int32)).bind fun v30 => cz_b2 (f_X5_passes M5 a x1) fun v32 M31 => if x2 = 0 then ((f_X5_many M31 a (1 : Int32)).bind fun v39 => (f_X5_putBack M31 a).bind fun M40 => some ((v39 - v30), M40)) else (if x2 = (1 : Int32) then ((f_X5_many M31 a (2 : Int32)).bind fun v37 => (f_X5_putBack M31 a).bind fun M38 => some ((v37 - v30), M38)) else ((f_X5_struckWords M31 a).bind fun v35 => (f_X5_putBack M31 a).bind fun M36 => some ((v35 - v30), M36)))) else (if x2 = (1 : Int32) then ((f_X5_many M5 a (2 : Int32)).bind fun v19 => cz_b2 (f_X5_passes M5 a x1) fun v21 M20 => if x2 = 0 then ((f_X5_many M20 a (1 : Int32)).bind fun v28 => (f_X5_putBack M20 a).bind fun M29 => some ((v28 - v19), M29)) else (if x2 = (1 : Int32) then ((f_X5_many M20 a (2 : Int32)).bind fun v26 => (f_X5_putBack M20 a).bind fun M27 => some ((v26 - v19), M27)) else ((f_X5_struckWords M20 a).bind fun v24 => (f_X5_putBack M20 a).bind fun M25 => some ((v24 - v19), M25)))) else ((f_X5_struckWords M5 a).bind fun v8 => cz_b2 (f_X5_passes M5 a x1) fun v10 M9 => if x2 = 0 then ((f_X5_many M9 a (1 : Int32)).bind fun v17 => (f_X5_putBack M9 a).bind fun M18 => some ((v17 - v8), M18)) else (if x2 = (1 : Int32) then ((f_X5_many M9 a (2 : Int32)).bind fun v15 => (f_X5_putBack M9 a).bind fun M16 => some ((v15 - v8), M16)) else ((f_X5_struckWords M9 a).bind fun v13 => (f_X5_putBack M9 a).bind fun M14 => some ((v13 - v8), M14)))))))
def f_X5_bestTrade_L30 (a0 : Nat) (x3 : Int32) (K : Int32 → Int32 → Int32 → cz_M → Option (Int32 × cz_M)) (rec : Int32 → Int32 → Int32 → cz_M → Option (Int32 × cz_M)) (x1 : Int32) (x2 : Int32) (x4 : Int32) (M : cz_M) : Option (Int32 × cz_M) :=
  if (8 : Int32) ≤ x4 then (K x1 x2 x4 M) else (cz_gd (cz_ib ((5 : Int32) + x3) 551) (cz_gd (cz_ib ((5 : Int32) + x4) 551) (if (M.1 (a0 + 1) (Int32.toNatClampNeg ((5 : Int32) + x3))) = (M.1 (a0 + 1) (Int32.toNatClampNeg ((5 : Int32) + x4))) then (cz_lt (x4 + 1) fun v11 => rec x1 x2 v11 M) else ((f_X5_trades M a0 x3 x4).bind fun M13 => cz_b2 (f_X5_passes M13 a0 (4 : Int32)) fun v15 M14 => if v15 ≤ x2 then (if v15 ≤ x2 then ((f_X5_putBack M14 a0).bind fun M18 => cz_lt (x4 + 1) fun v19 => rec x1 x2 v19 M18) else ((f_X5_putBack M14 a0).bind fun M21 => cz_lt (x4 + 1) fun v22 => rec x1 v15 v22 M21)) else (cz_lt (((8 : Int32) * x3) + x4) fun v24 => if v15 ≤ x2 then ((f_X5_putBack M14 a0).bind fun M26 => cz_lt (x4 + 1) fun v27 => rec v24 x2 v27 M26) else ((f_X5_putBack M14 a0).bind fun M29 => cz_lt (x4 + 1) fun v30 => rec v24 v15 v30 M29))))))
def f_X5_bestTrade_L19 (a0 : Nat) (K : Int32 → Int32 → Int32 → cz_M → Option (Int32 × cz_M)) (rec : Int32 → Int32 → Int32 → cz_M → Option (Int32 × cz_M)) (x1 : Int32) (x2 : Int32) (x3 : Int32) (M : cz_M) : Option (Int32 × cz_M) :=
  if (8 : Int32) ≤ x3 then (K x1 x2 x3 M) else (cz_lt (x3 + (1 : Int32)) fun v6 => cz_it4 (f_X5_bestTrade_L30 a0 x3 (fun x32 x33 x34 M35 => cz_lt (x3 + 1) fun v36 => rec x32 x33 v36 M35)) 4096 x1 x2 v6 M)
def f_X5_bestTrade (M : cz_M) (a : Nat) : Option (Int32 × cz_M) :=
  (f_X5_putAside M a).bind fun M1 => cz_b2 (f_X5_passes M1 a (4 : Int32)) fun v3 M2 => (f_X5_putBack M2 a).bind fun M4 => cz_it4 (f_X5_bestTrade_L19 a (fun x38 x39 x40 M41 => some (x38, M41))) 4096 (-6 : Int32) v3 (0 : Int32) M4
def f_X5_leastLimit_L10 (a0 : Nat) (K : Int32 → Int32 → cz_M → Option (Int32 × cz_M)) (rec : Int32 → Int32 → cz_M → Option (Int32 × cz_M)) (x1 : Int32) (x2 : Int32) (M : cz_M) : Option (Int32 × cz_M) :=
  if x2 < 0 then (K x1 x2 M) else ((f_X5_turnedBack M a0).bind fun v3 => cz_gd (cz_ib (1 : Int32) 551) (cz_lt (cz_mI M (a0 + 1) (Int32.toNatClampNeg (1 : Int32)) x2) fun M5 => cz_b2 (f_X5_passes M5 a0 (100 : Int32)) fun v7 M6 => (f_X5_turnedBack M6 a0).bind fun v8 => if v8 = v3 then ((f_X5_putBack M6 a0).bind fun M13 => cz_lt (x2 + (-1)) fun v14 => rec x2 v14 M13) else ((f_X5_putBack M6 a0).bind fun M10 => cz_lt (x2 + (-1)) fun v11 => rec x1 v11 M10)))
def f_X5_leastLimit (M : cz_M) (a : Nat) : Option (Int32 × cz_M) :=
  (f_X5_putAside M a).bind fun M1 => cz_it3 (f_X5_leastLimit_L10 a (fun x16 x17 M18 => some (x16, M18))) 4096 (8 : Int32) (8 : Int32) M1
def f_X5_put_L8 (a0 : Nat) (x1 : Int64) (M : cz_M) (K : Int32 → Int32 → Int32 → Option (Int32 × cz_M)) (rec : Int32 → Int32 → Int32 → Option (Int32 × cz_M)) (x3 : Int32) (x4 : Int32) (x5 : Int32) : Option (Int32 × cz_M) :=
  if (8 : Int32) ≤ x5 then (K x3 x4 x5) else (cz_lt (Int64.toInt32 ((cz_usl x1 ((8 : Int32) * x5)) &&& (255 : Int64))) fun v2 => if x5 ≤ 0 then (if x4 = 0 then (if (0 : Int32) = 0 then ((f_X5_in v2 (33 : Int32) (126 : Int32)).bind fun v20 => if v20 = 0 then (if (0 : Int32) = 0 then (cz_lt (x3 + (1 : Int32)) fun v30 => cz_lt (x5 + 1) fun v31 => rec v30 (1 : Int32) v31) else (cz_lt (x3 + (0 : Int32)) fun v33 => cz_lt (x5 + 1) fun v34 => rec v33 (1 : Int32) v34)) else (if (0 : Int32) = 0 then (cz_lt (x3 + (1 : Int32)) fun v23 => cz_lt (x5 + 1) fun v24 => rec v23 (0 : Int32) v24) else (cz_lt (x3 + (0 : Int32)) fun v26 => cz_lt (x5 + 1) fun v27 => rec v26 (0 : Int32) v27))) else (if (0 : Int32) = 0 then (cz_lt (x3 + (1 : Int32)) fun v14 => cz_lt (x5 + 1) fun v15 => rec v14 (0 : Int32) v15) else (cz_lt (x3 + (0 : Int32)) fun v17 => cz_lt (x5 + 1) fun v18 => rec v17 (0 : Int32) v18))) else (if (0 : Int32) = 0 then (cz_lt (x3 + (1 : Int32)) fun v6 => cz_lt (x5 + 1) fun v7 => rec v6 (1 : Int32) v7) else (cz_lt (x3 + (0 : Int32)) fun v9 => cz_lt (x5 + 1) fun v10 => rec v9 (1 : Int32) v10))) else (if (lg_cmp (cz_usl x1 ((8 : Int32) * x5)) (0 : Int64)) = 0 then (if x4 = 0 then (if (1 : Int32) = 0 then ((f_X5_in v2 (33 : Int32) (126 : Int32)).bind fun v85 => if v85 = 0 then (if (1 : Int32) = 0 then (cz_lt (x3 + (1 : Int32)) fun v95 => cz_lt (x5 + 1) fun v96 => rec v95 (1 : Int32) v96) else (cz_lt (x3 + (0 : Int32)) fun v98 => cz_lt (x5 + 1) fun v99 => rec v98 (1 : Int32) v99)) else (if (1 : Int32) = 0 then (cz_lt (x3 + (1 : Int32)) fun v88 => cz_lt (x5 + 1) fun v89 => rec v88 (0 : Int32) v89) else (cz_lt (x3 + (0 : Int32)) fun v91 => cz_lt (x5 + 1) fun v92 => rec v91 (0 : Int32) v92))) else (if (1 : Int32) = 0 then (cz_lt (x3 + (1 : Int32)) fun v79 => cz_lt (x5 + 1) fun v80 => rec v79 (0 : Int32) v80) else (cz_lt (x3 + (0 : Int32)) fun v82 => cz_lt (x5 + 1) fun v83 => rec v82 (0 : Int32) v83))) else (if (1 : Int32) = 0 then (cz_lt (x3 + (1 : Int32)) fun v71 => cz_lt (x5 + 1) fun v72 => rec v71 (1 : Int32) v72) else (cz_lt (x3 + (0 : Int32)) fun v74 => cz_lt (x5 + 1) fun v75 => rec v74 (1 : Int32) v75))) else (if x4 = 0 then (if (0 : Int32) = 0 then ((f_X5_in v2 (33 : Int32) (126 : Int32)).bind fun v53 => if v53 = 0 then (if (0 : Int32) = 0 then (cz_lt (x3 + (1 : Int32)) fun v63 => cz_lt (x5 + 1) fun v64 => rec v63 (1 : Int32) v64) else (cz_lt (x3 + (0 : Int32)) fun v66 => cz_lt (x5 + 1) fun v67 => rec v66 (1 : Int32) v67)) else (if (0 : Int32) = 0 then (cz_lt (x3 + (1 : Int32)) fun v56 => cz_lt (x5 + 1) fun v57 => rec v56 (0 : Int32) v57) else (cz_lt (x3 + (0 : Int32)) fun v59 => cz_lt (x5 + 1) fun v60 => rec v59 (0 : Int32) v60))) else (if (0 : Int32) = 0 then (cz_lt (x3 + (1 : Int32)) fun v47 => cz_lt (x5 + 1) fun v48 => rec v47 (0 : Int32) v48) else (cz_lt (x3 + (0 : Int32)) fun v50 => cz_lt (x5 + 1) fun v51 => rec v50 (0 : Int32) v51))) else (if (0 : Int32) = 0 then (cz_lt (x3 + (1 : Int32)) fun v39 => cz_lt (x5 + 1) fun v40 => rec v39 (1 : Int32) v40) else (cz_lt (x3 + (0 : Int32)) fun v42 => cz_lt (x5 + 1) fun v43 => rec v42 (1 : Int32) v43)))))
def f_X5_put_L126 (a0 : Nat) (x1 : Int64) (x3 : Int32) (K : Int32 → cz_M → Option (Int32 × cz_M)) (rec : Int32 → cz_M → Option (Int32 × cz_M)) (x5 : Int32) (M : cz_M) : Option (Int32 × cz_M) :=
  if x3 ≤ x5 then (K x5 M) else (cz_gd (cz_ib ((((M.1 a0 7) + x3) - (1 : Int32)) - x5) 60) (cz_lt (cz_mI M (a0 + 6) (Int32.toNatClampNeg ((((M.1 a0 7) + x3) - (1 : Int32)) - x5)) (Int64.toInt32 ((cz_usl x1 ((8 : Int32) * x5)) &&& (255 : Int64)))) fun M108 => cz_lt (x5 + 1) fun v109 => rec v109 M108))
def f_X5_put (M : cz_M) (a : Nat) (x1 : Int64) : Option (Int32 × cz_M) :=
  cz_it3 (f_X5_put_L8 a x1 M (fun x101 x102 x103 => if x102 = 0 then (if ((M.1 a 7) + x101) ≤ (60 : Int32) then (cz_it2 (f_X5_put_L126 a x1 x101 (fun x111 M112 => cz_lt (cz_mI M112 a 7 ((M112.1 a 7) + x101)) fun M113 => some ((M113.1 a 7), M113))) 4096 (0 : Int32) M) else (some ((-4 : Int32), M))) else (some ((-2 : Int32), M)))) 4096 (0 : Int32) (0 : Int32) (0 : Int32)
def f_X5_wipe (M : cz_M) (a : Nat) : Option (Int32 × cz_M) :=
  cz_lt (M.1 a 7) fun v1 => cz_lt (cz_mI M a 7 (0 : Int32)) fun M2 => some (v1, M2)
def f_X5_next (M : cz_M) (a : Nat) (x1 : Int32) : Option (Int32) :=
  if (M.1 a 7) ≤ x1 then (some (0 : Int32)) else (cz_gd (cz_ib x1 60) (some (M.1 (a + 6) (Int32.toNatClampNeg x1))))
def f_X5_isWordAt (M : cz_M) (a : Nat) (x1 : Int32) : Option (Int32) :=
  (f_X5_next M a x1).bind fun v1 => (f_X5_in v1 (97 : Int32) (122 : Int32)).bind fun v2 => cz_gd (cz_zb v2) (some v2)
def f_X5_right_L45 (a0 : Nat) (x1 : Int32) (M : cz_M) (K : Int32 → Option (Int32)) (rec : Int32 → Option (Int32)) (x2 : Int32) : Option (Int32) :=
  if (10 : Int32) ≤ x2 then (K x2) else ((f_X5_isWordAt M a0 (x1 + x2)).bind fun v7 => if v7 = 0 then (K x2) else (cz_lt (x2 + 1) fun v9 => rec v9))
def f_X5_right (M : cz_M) (a : Nat) (x1 : Int32) : Option (Int32) :=
  (f_X5_next M a x1).bind fun v1 => (f_X5_in v1 (48 : Int32) (52 : Int32)).bind fun v2 => if v2 = 0 then (some (0 : Int32)) else ((f_X5_next M a (x1 + (1 : Int32))).bind fun v4 => if v4 = (62 : Int32) then (cz_it1 (f_X5_right_L45 a x1 M (fun x11 => some x11)) 4096 (2 : Int32)) else ((f_X5_next M a (x1 + (1 : Int32))).bind fun v12 => if v12 = (60 : Int32) then (cz_it1 (f_X5_right_L45 a x1 M (fun x14 => some x14)) 4096 (2 : Int32)) else (some (1 : Int32))))
def f_X5_wrong_L9 (a0 : Nat) (K : Int32 → Int32 → cz_M → Option (Int32 × cz_M)) (rec : Int32 → Int32 → cz_M → Option (Int32 × cz_M)) (x1 : Int32) (x2 : Int32) (M : cz_M) : Option (Int32 × cz_M) :=
  if x2 = 0 then (K x1 x2 M) else ((f_X5_right M a0 x1).bind fun v3 => cz_lt (x1 + v3) fun v4 => if (3 : Int32) ≤ v3 then (cz_lt (cz_mI M a0 11 ((M.1 a0 11) + (1 : Int32))) fun M6 => if (M6.1 a0 7) ≤ v4 then (if (0 : Int32) = 0 then (if (0 : Int32) = 0 then (cz_lt (v4 + (0 : Int32)) fun v10 => rec v10 (0 : Int32) M6) else (cz_lt (v4 + (1 : Int32)) fun v11 => rec v11 (0 : Int32) M6)) else (cz_gd (cz_ib v4 60) (if (M6.1 (a0 + 6) (Int32.toNatClampNeg v4)) = (44 : Int32) then (if (0 : Int32) = 0 then (cz_lt (v4 + (0 : Int32)) fun v15 => rec v15 (0 : Int32) M6) else (cz_lt (v4 + (1 : Int32)) fun v16 => rec v16 (0 : Int32) M6)) else (some (v4, M6))))) else (if (1 : Int32) = 0 then (if (1 : Int32) = 0 then (cz_lt (v4 + (0 : Int32)) fun v19 => rec v19 (1 : Int32) M6) else (cz_lt (v4 + (1 : Int32)) fun v20 => rec v20 (1 : Int32) M6)) else (cz_gd (cz_ib v4 60) (if (M6.1 (a0 + 6) (Int32.toNatClampNeg v4)) = (44 : Int32) then (if (1 : Int32) = 0 then (cz_lt (v4 + (0 : Int32)) fun v24 => rec v24 (1 : Int32) M6) else (cz_lt (v4 + (1 : Int32)) fun v25 => rec v25 (1 : Int32) M6)) else (some (v4, M6)))))) else (some (v4, M)))
def f_X5_wrong (M : cz_M) (a : Nat) : Option (Int32 × cz_M) :=
  cz_lt (cz_mI M a 11 (0 : Int32)) fun M1 => cz_it3 (f_X5_wrong_L9 a (fun x26 x27 M28 => some ((-6 : Int32), M28))) 4096 (0 : Int32) (1 : Int32) M1
def f_X5_fault (M : cz_M) (a : Nat) : Option (Int32 × cz_M) :=
  cz_b2 (f_X5_wrong M a) fun v2 M1 => some (v2, M1)
def f_X5_writes_L39 (a0 : Nat) (x1 : Int32) (x2 : Int32) (x3 : Int32) (x4 : Int32) (K : Int32 → cz_M → Option (cz_M)) (rec : Int32 → cz_M → Option (cz_M)) (x5 : Int32) (M : cz_M) : Option (cz_M) :=
  if (11 : Int32) ≤ x5 then (K x5 M) else ((f_X5_at x3 x5).bind fun v9 => cz_gd (cz_ib v9 551) (cz_lt (cz_mI M (a0 + 1) (Int32.toNatClampNeg v9) (0 : Int32)) fun M10 => cz_lt (x5 + 1) fun v11 => rec v11 M10))
def f_X5_writes_L154 (a0 : Nat) (x1 : Int32) (x3 : Int32) (x4 : Int32) (K : Int32 → cz_M → Option (cz_M)) (rec : Int32 → cz_M → Option (cz_M)) (x5 : Int32) (M : cz_M) : Option (cz_M) :=
  if x5 < 0 then (K x5 M) else ((f_X5_at x3 ((9 : Int32) + (x5 / (4 : Int32)))).bind fun v37 => cz_gd (cz_ib v37 551) ((f_X5_next M a0 ((x1 + (2 : Int32)) + x5)).bind fun v40 => cz_gd (cz_ib v37 551) (cz_lt (cz_mI M (a0 + 1) (Int32.toNatClampNeg v37) ((((26 : Int32) * (M.1 (a0 + 1) (Int32.toNatClampNeg v37))) + v40) - (97 : Int32))) fun M41 => cz_lt (x5 + (-1)) fun v42 => rec v42 M41)))
def f_X5_writes (M : cz_M) (a : Nat) (x1 : Int32) (x2 : Int32) : Option (cz_M) :=
  cz_gd (cz_ib (4 : Int32) 551) (cz_lt (M.1 (a + 1) (Int32.toNatClampNeg (4 : Int32))) fun v2 => (f_X5_next M a (x1 + (1 : Int32))).bind fun v3 => if v3 = (62 : Int32) then (cz_gd (cz_ib (4 : Int32) 551) (cz_gd (cz_ib (4 : Int32) 551) (cz_lt (cz_mI M (a + 1) (Int32.toNatClampNeg (4 : Int32)) ((M.1 (a + 1) (Int32.toNatClampNeg (4 : Int32))) + (1 : Int32))) fun M53 => cz_it2 (f_X5_writes_L39 a x1 x2 v2 (0 : Int32) (fun x54 M55 => (f_X5_at v2 (0 : Int32)).bind fun v57 => (f_X5_next M55 a x1).bind fun v58 => cz_gd (cz_ib v57 551) (cz_lt (cz_mI M55 (a + 1) (Int32.toNatClampNeg v57) (v58 - (48 : Int32))) fun M59 => (f_X5_at v2 (1 : Int32)).bind fun v61 => cz_gd (cz_ib v61 551) (cz_lt (cz_mI M59 (a + 1) (Int32.toNatClampNeg v61) (0 : Int32)) fun M62 => (f_X5_at v2 (3 : Int32)).bind fun v64 => cz_gd (cz_ib (3 : Int32) 551) (cz_gd (cz_ib v64 551) (cz_lt (cz_mI M62 (a + 1) (Int32.toNatClampNeg v64) (M62.1 (a + 1) (Int32.toNatClampNeg (3 : Int32)))) fun M66 => (f_X5_at v2 (4 : Int32)).bind fun v68 => cz_gd (cz_ib v68 551) (cz_lt (cz_mI M66 (a + 1) (Int32.toNatClampNeg v68) (-6 : Int32)) fun M69 => (f_X5_at v2 (7 : Int32)).bind fun v71 => cz_gd (cz_ib v71 551) (cz_lt (cz_mI M69 (a + 1) (Int32.toNatClampNeg v71) (-6 : Int32)) fun M72 => (f_X5_at v2 (8 : Int32)).bind fun v74 => cz_gd (cz_ib v74 551) (cz_lt (cz_mI M72 (a + 1) (Int32.toNatClampNeg v74) (x2 - (2 : Int32))) fun M75 => cz_lt (x2 - (3 : Int32)) fun v76 => cz_it2 (f_X5_writes_L154 a x1 v2 (0 : Int32) (fun x77 M78 => cz_gd (cz_ib ((29 : Int32) + (0 : Int32)) 551) ((f_X5_inRow (0 : Int32) (M78.1 (a + 1) (Int32.toNatClampNeg ((29 : Int32) + (0 : Int32))))).bind fun v81 => cz_gd (cz_ib v81 551) (cz_lt (cz_mI M78 (a + 1) (Int32.toNatClampNeg v81) v2) fun M82 => cz_gd (cz_ib ((29 : Int32) + (0 : Int32)) 551) (cz_gd (cz_ib ((29 : Int32) + (0 : Int32)) 551) (cz_lt (cz_mI M82 (a + 1) (Int32.toNatClampNeg ((29 : Int32) + (0 : Int32))) ((M82.1 (a + 1) (Int32.toNatClampNeg ((29 : Int32) + (0 : Int32)))) + (1 : Int32))) fun M84 => some M84)))))) 4096 v76 M75))))))))) 4096 (0 : Int32) M53))) else (cz_gd (cz_ib (4 : Int32) 551) (cz_gd (cz_ib (4 : Int32) 551) (cz_lt (cz_mI M (a + 1) (Int32.toNatClampNeg (4 : Int32)) ((M.1 (a + 1) (Int32.toNatClampNeg (4 : Int32))) + (1 : Int32))) fun M6 => cz_it2 (f_X5_writes_L39 a x1 x2 v2 (1 : Int32) (fun x13 M14 => (f_X5_at v2 (0 : Int32)).bind fun v16 => (f_X5_next M14 a x1).bind fun v17 => cz_gd (cz_ib v16 551) (cz_lt (cz_mI M14 (a + 1) (Int32.toNatClampNeg v16) (v17 - (48 : Int32))) fun M18 => (f_X5_at v2 (1 : Int32)).bind fun v20 => cz_gd (cz_ib v20 551) (cz_lt (cz_mI M18 (a + 1) (Int32.toNatClampNeg v20) (1 : Int32)) fun M21 => (f_X5_at v2 (3 : Int32)).bind fun v23 => cz_gd (cz_ib (3 : Int32) 551) (cz_gd (cz_ib v23 551) (cz_lt (cz_mI M21 (a + 1) (Int32.toNatClampNeg v23) (M21.1 (a + 1) (Int32.toNatClampNeg (3 : Int32)))) fun M25 => (f_X5_at v2 (4 : Int32)).bind fun v27 => cz_gd (cz_ib v27 551) (cz_lt (cz_mI M25 (a + 1) (Int32.toNatClampNeg v27) (-6 : Int32)) fun M28 => (f_X5_at v2 (7 : Int32)).bind fun v30 => cz_gd (cz_ib v30 551) (cz_lt (cz_mI M28 (a + 1) (Int32.toNatClampNeg v30) (-6 : Int32)) fun M31 => (f_X5_at v2 (8 : Int32)).bind fun v33 => cz_gd (cz_ib v33 551) (cz_lt (cz_mI M31 (a + 1) (Int32.toNatClampNeg v33) (x2 - (2 : Int32))) fun M34 => cz_lt (x2 - (3 : Int32)) fun v35 => cz_it2 (f_X5_writes_L154 a x1 v2 (1 : Int32) (fun x44 M45 => cz_gd (cz_ib ((29 : Int32) + (1 : Int32)) 551) ((f_X5_inRow (1 : Int32) (M45.1 (a + 1) (Int32.toNatClampNeg ((29 : Int32) + (1 : Int32))))).bind fun v48 => cz_gd (cz_ib v48 551) (cz_lt (cz_mI M45 (a + 1) (Int32.toNatClampNeg v48) v2) fun M49 => cz_gd (cz_ib ((29 : Int32) + (1 : Int32)) 551) (cz_gd (cz_ib ((29 : Int32) + (1 : Int32)) 551) (cz_lt (cz_mI M49 (a + 1) (Int32.toNatClampNeg ((29 : Int32) + (1 : Int32))) ((M49.1 (a + 1) (Int32.toNatClampNeg ((29 : Int32) + (1 : Int32)))) + (1 : Int32))) fun M51 => some M51)))))) 4096 v35 M34))))))))) 4096 (0 : Int32) M6))))
def f_X5_read_L37 (a0 : Nat) (K : Int32 → cz_M → Option (Int32 × cz_M)) (rec : Int32 → cz_M → Option (Int32 × cz_M)) (x1 : Int32) (M : cz_M) : Option (Int32 × cz_M) :=
  if (M.1 a0 7) ≤ x1 then (K x1 M) else ((f_X5_right M a0 x1).bind fun v8 => (f_X5_writes M a0 x1 v8).bind fun M9 => cz_lt (x1 + (v8 + (1 : Int32))) fun v10 => rec v10 M9)
def f_X5_read (M : cz_M) (a : Nat) : Option (Int32 × cz_M) :=
  cz_b2 (f_X5_wrong M a) fun v2 M1 => if v2 = (-6 : Int32) then (cz_gd (cz_ib (4 : Int32) 551) (if ((M1.1 (a + 1) (Int32.toNatClampNeg (4 : Int32))) + (M1.1 a 11)) ≤ (40 : Int32) then ((f_X5_record M1 a).bind fun M6 => cz_it2 (f_X5_read_L37 a (fun x11 M12 => cz_lt (cz_mI M12 a 7 (0 : Int32)) fun M13 => cz_gd (cz_ib (4 : Int32) 551) (some ((M13.1 (a + 1) (Int32.toNatClampNeg (4 : Int32))), M13)))) 4096 (0 : Int32) M6) else (some ((-4 : Int32), M1)))) else (some ((-3 : Int32), M1))
def f_X5_undo_L22 (a0 : Nat) (K : Int32 → cz_M → Option (Int32 × cz_M)) (rec : Int32 → cz_M → Option (Int32 × cz_M)) (x1 : Int32) (M : cz_M) : Option (Int32 × cz_M) :=
  if (551 : Int32) ≤ x1 then (K x1 M) else (cz_gd (cz_ib (((551 : Int32) * (M.1 a0 3)) + x1) 2204) (cz_gd (cz_ib x1 551) (cz_lt (cz_mI M (a0 + 1) (Int32.toNatClampNeg x1) (M.1 (a0 + 3) (Int32.toNatClampNeg (((551 : Int32) * (M.1 a0 3)) + x1)))) fun M6 => cz_lt (x1 + 1) fun v7 => rec v7 M6)))
def f_X5_undo (M : cz_M) (a : Nat) : Option (Int32 × cz_M) :=
  if (M.1 a 3) = 0 then (some ((-5 : Int32), M)) else (cz_lt (cz_mI M a 3 ((M.1 a 3) - (1 : Int32))) fun M2 => cz_it2 (f_X5_undo_L22 a (fun x9 M10 => some ((M10.1 a 3), M10))) 4096 (0 : Int32) M2)
def f_X5_save_L14 (a0 : Nat) (x1 : Int32) (K : Int32 → cz_M → Option (Int32 × cz_M)) (rec : Int32 → cz_M → Option (Int32 × cz_M)) (x2 : Int32) (M : cz_M) : Option (Int32 × cz_M) :=
  if (551 : Int32) ≤ x2 then (K x2 M) else (cz_gd (cz_ib x2 551) (cz_gd (cz_ib (((551 : Int32) * x1) + x2) 1102) (cz_lt (cz_mI M (a0 + 4) (Int32.toNatClampNeg (((551 : Int32) * x1) + x2)) (M.1 (a0 + 1) (Int32.toNatClampNeg x2))) fun M6 => cz_lt (x2 + 1) fun v7 => rec v7 M6)))
def f_X5_save (M : cz_M) (a : Nat) (x1 : Int32) : Option (Int32 × cz_M) :=
  (f_X5_in x1 (0 : Int32) (1 : Int32)).bind fun v1 => if v1 = 0 then (some ((-2 : Int32), M)) else (cz_it2 (f_X5_save_L14 a x1 (fun x9 M10 => cz_gd (cz_ib x1 2) (cz_gd (cz_zb (1 : Int32)) (cz_lt (cz_mI M10 (a + 5) (Int32.toNatClampNeg x1) (1 : Int32)) fun M12 => cz_gd (cz_ib (3 : Int32) 551) (some ((M12.1 (a + 1) (Int32.toNatClampNeg (3 : Int32))), M12)))))) 4096 (0 : Int32) M)
def f_X5_restore_L30 (a0 : Nat) (x1 : Int32) (K : Int32 → cz_M → Option (Int32 × cz_M)) (rec : Int32 → cz_M → Option (Int32 × cz_M)) (x2 : Int32) (M : cz_M) : Option (Int32 × cz_M) :=
  if (551 : Int32) ≤ x2 then (K x2 M) else (cz_gd (cz_ib (((551 : Int32) * x1) + x2) 1102) (cz_gd (cz_ib x2 551) (cz_lt (cz_mI M (a0 + 1) (Int32.toNatClampNeg x2) (M.1 (a0 + 4) (Int32.toNatClampNeg (((551 : Int32) * x1) + x2)))) fun M9 => cz_lt (x2 + 1) fun v10 => rec v10 M9)))
def f_X5_restore (M : cz_M) (a : Nat) (x1 : Int32) : Option (Int32 × cz_M) :=
  (f_X5_in x1 (0 : Int32) (1 : Int32)).bind fun v1 => if v1 = 0 then (some ((-2 : Int32), M)) else (cz_gd (cz_ib x1 2) (if (M.1 (a + 5) (Int32.toNatClampNeg x1)) = 0 then (some ((-5 : Int32), M)) else ((f_X5_record M a).bind fun M5 => cz_it2 (f_X5_restore_L30 a x1 (fun x12 M13 => cz_gd (cz_ib (3 : Int32) 551) (some ((M13.1 (a + 1) (Int32.toNatClampNeg (3 : Int32))), M13)))) 4096 (0 : Int32) M5)))
end
