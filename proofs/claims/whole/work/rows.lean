section
-- ===== PART A: goes FIRST, ahead of the names: the tables' words, and 'selects' of the private methods out of them =====
/-- a private method of a class that the tables say can be made, by its rows of tables_1 -/
def lw_okq (q : MethodName × Nat) : Prop := (q.1.cls ≠ "java/lang/invoke/MethodHandle" ∧ q.1.cls ≠ "java/lang/invoke/VarHandle") ∧ Cond.instantiable q.1.cls q.2 ∈ tables_1 ∧ Cond.privateMethod q.1 ∈ tables_1 ∧ Cond.instanceMethod q.1 ∈ tables_1
theorem lw_p0 : lw_okq (⟨"CensoredThreads", "remember", "()V"⟩, 8) := ⟨⟨by decide +kernel, by decide +kernel⟩, List.mem_of_getElem? (i := 11) (by decide +kernel), List.mem_of_getElem? (i := 200) (by decide +kernel), List.mem_of_getElem? (i := 201) (by decide +kernel)⟩
theorem lw_p1 : lw_okq (⟨"CensoredThreads", "faultOfPad", "()I"⟩, 8) := ⟨⟨by decide +kernel, by decide +kernel⟩, List.mem_of_getElem? (i := 11) (by decide +kernel), List.mem_of_getElem? (i := 246) (by decide +kernel), List.mem_of_getElem? (i := 247) (by decide +kernel)⟩
theorem lw_p2 : lw_okq (⟨"CensoredThreads", "lettersOfPad", "()I"⟩, 8) := ⟨⟨by decide +kernel, by decide +kernel⟩, List.mem_of_getElem? (i := 11) (by decide +kernel), List.mem_of_getElem? (i := 256) (by decide +kernel), List.mem_of_getElem? (i := 257) (by decide +kernel)⟩
theorem lw_p3 : lw_okq (⟨"CensoredThreads", "writeLettersOfPad", "()V"⟩, 8) := ⟨⟨by decide +kernel, by decide +kernel⟩, List.mem_of_getElem? (i := 11) (by decide +kernel), List.mem_of_getElem? (i := 260) (by decide +kernel), List.mem_of_getElem? (i := 261) (by decide +kernel)⟩
theorem lw_p4 : lw_okq (⟨"CensoredThreads", "turnsBackWith", "(I)Z"⟩, 8) := ⟨⟨by decide +kernel, by decide +kernel⟩, List.mem_of_getElem? (i := 11) (by decide +kernel), List.mem_of_getElem? (i := 450) (by decide +kernel), List.mem_of_getElem? (i := 451) (by decide +kernel)⟩
theorem lw_p5 : lw_okq (⟨"CensoredThreadsModel", "lays", "(II)I"⟩, 12) := ⟨⟨by decide +kernel, by decide +kernel⟩, List.mem_of_getElem? (i := 486) (by decide +kernel), List.mem_of_getElem? (i := 536) (by decide +kernel), List.mem_of_getElem? (i := 537) (by decide +kernel)⟩
theorem lw_p6 : lw_okq (⟨"CensoredThreadsModel", "record", "()V"⟩, 12) := ⟨⟨by decide +kernel, by decide +kernel⟩, List.mem_of_getElem? (i := 486) (by decide +kernel), List.mem_of_getElem? (i := 540) (by decide +kernel), List.mem_of_getElem? (i := 541) (by decide +kernel)⟩
theorem lw_p7 : lw_okq (⟨"CensoredThreadsModel", "trades", "(II)V"⟩, 12) := ⟨⟨by decide +kernel, by decide +kernel⟩, List.mem_of_getElem? (i := 486) (by decide +kernel), List.mem_of_getElem? (i := 561) (by decide +kernel), List.mem_of_getElem? (i := 562) (by decide +kernel)⟩
theorem lw_p8 : lw_okq (⟨"CensoredThreadsModel", "isLetter", "(I)Z"⟩, 12) := ⟨⟨by decide +kernel, by decide +kernel⟩, List.mem_of_getElem? (i := 486) (by decide +kernel), List.mem_of_getElem? (i := 569) (by decide +kernel), List.mem_of_getElem? (i := 570) (by decide +kernel)⟩
theorem lw_p9 : lw_okq (⟨"CensoredThreadsModel", "of", "(II)I"⟩, 12) := ⟨⟨by decide +kernel, by decide +kernel⟩, List.mem_of_getElem? (i := 486) (by decide +kernel), List.mem_of_getElem? (i := 573) (by decide +kernel), List.mem_of_getElem? (i := 574) (by decide +kernel)⟩
theorem lw_p10 : lw_okq (⟨"CensoredThreadsModel", "placeOf", "(I)I"⟩, 12) := ⟨⟨by decide +kernel, by decide +kernel⟩, List.mem_of_getElem? (i := 486) (by decide +kernel), List.mem_of_getElem? (i := 580) (by decide +kernel), List.mem_of_getElem? (i := 581) (by decide +kernel)⟩
theorem lw_p11 : lw_okq (⟨"CensoredThreadsModel", "passes", "(I)I"⟩, 12) := ⟨⟨by decide +kernel, by decide +kernel⟩, List.mem_of_getElem? (i := 486) (by decide +kernel), List.mem_of_getElem? (i := 591) (by decide +kernel), List.mem_of_getElem? (i := 592) (by decide +kernel)⟩
theorem lw_p12 : lw_okq (⟨"CensoredThreadsModel", "week", "()I"⟩, 12) := ⟨⟨by decide +kernel, by decide +kernel⟩, List.mem_of_getElem? (i := 486) (by decide +kernel), List.mem_of_getElem? (i := 595) (by decide +kernel), List.mem_of_getElem? (i := 596) (by decide +kernel)⟩
theorem lw_p13 : lw_okq (⟨"CensoredThreadsModel", "goesThrough", "(I)V"⟩, 12) := ⟨⟨by decide +kernel, by decide +kernel⟩, List.mem_of_getElem? (i := 486) (by decide +kernel), List.mem_of_getElem? (i := 599) (by decide +kernel), List.mem_of_getElem? (i := 600) (by decide +kernel)⟩
theorem lw_p14 : lw_okq (⟨"CensoredThreadsModel", "shiftNow", "(I)I"⟩, 12) := ⟨⟨by decide +kernel, by decide +kernel⟩, List.mem_of_getElem? (i := 486) (by decide +kernel), List.mem_of_getElem? (i := 603) (by decide +kernel), List.mem_of_getElem? (i := 604) (by decide +kernel)⟩
theorem lw_p15 : lw_okq (⟨"CensoredThreadsModel", "isBarred", "(I)Z"⟩, 12) := ⟨⟨by decide +kernel, by decide +kernel⟩, List.mem_of_getElem? (i := 486) (by decide +kernel), List.mem_of_getElem? (i := 607) (by decide +kernel), List.mem_of_getElem? (i := 608) (by decide +kernel)⟩
def lw_privs_1 : List (MethodName × Nat) := [(⟨"CensoredThreads", "remember", "()V"⟩, 8), (⟨"CensoredThreads", "faultOfPad", "()I"⟩, 8), (⟨"CensoredThreads", "lettersOfPad", "()I"⟩, 8), (⟨"CensoredThreads", "writeLettersOfPad", "()V"⟩, 8), (⟨"CensoredThreads", "turnsBackWith", "(I)Z"⟩, 8), (⟨"CensoredThreadsModel", "lays", "(II)I"⟩, 12), (⟨"CensoredThreadsModel", "record", "()V"⟩, 12), (⟨"CensoredThreadsModel", "trades", "(II)V"⟩, 12), (⟨"CensoredThreadsModel", "isLetter", "(I)Z"⟩, 12), (⟨"CensoredThreadsModel", "of", "(II)I"⟩, 12), (⟨"CensoredThreadsModel", "placeOf", "(I)I"⟩, 12), (⟨"CensoredThreadsModel", "passes", "(I)I"⟩, 12), (⟨"CensoredThreadsModel", "week", "()I"⟩, 12), (⟨"CensoredThreadsModel", "goesThrough", "(I)V"⟩, 12), (⟨"CensoredThreadsModel", "shiftNow", "(I)I"⟩, 12), (⟨"CensoredThreadsModel", "isBarred", "(I)Z"⟩, 12)]
theorem lw_r1 : ∀ q ∈ lw_privs_1, lw_okq q := List.forall_mem_cons.mpr ⟨lw_p0, List.forall_mem_cons.mpr ⟨lw_p1, List.forall_mem_cons.mpr ⟨lw_p2, List.forall_mem_cons.mpr ⟨lw_p3, List.forall_mem_cons.mpr ⟨lw_p4, List.forall_mem_cons.mpr ⟨lw_p5, List.forall_mem_cons.mpr ⟨lw_p6, List.forall_mem_cons.mpr ⟨lw_p7, List.forall_mem_cons.mpr ⟨lw_p8, List.forall_mem_cons.mpr ⟨lw_p9, List.forall_mem_cons.mpr ⟨lw_p10, List.forall_mem_cons.mpr ⟨lw_p11, List.forall_mem_cons.mpr ⟨lw_p12, List.forall_mem_cons.mpr ⟨lw_p13, List.forall_mem_cons.mpr ⟨lw_p14, List.forall_mem_cons.mpr ⟨lw_p15, fun _ h => absurd h List.not_mem_nil⟩⟩⟩⟩⟩⟩⟩⟩⟩⟩⟩⟩⟩⟩⟩⟩
theorem lw_p16 : lw_okq (⟨"CensoredThreadsModel", "reads", "(II)V"⟩, 12) := ⟨⟨by decide +kernel, by decide +kernel⟩, List.mem_of_getElem? (i := 486) (by decide +kernel), List.mem_of_getElem? (i := 611) (by decide +kernel), List.mem_of_getElem? (i := 612) (by decide +kernel)⟩
theorem lw_p17 : lw_okq (⟨"CensoredThreadsModel", "strikes", "(II)I"⟩, 12) := ⟨⟨by decide +kernel, by decide +kernel⟩, List.mem_of_getElem? (i := 486) (by decide +kernel), List.mem_of_getElem? (i := 615) (by decide +kernel), List.mem_of_getElem? (i := 616) (by decide +kernel)⟩
theorem lw_p18 : lw_okq (⟨"CensoredThreadsModel", "wordOf", "(II)I"⟩, 12) := ⟨⟨by decide +kernel, by decide +kernel⟩, List.mem_of_getElem? (i := 486) (by decide +kernel), List.mem_of_getElem? (i := 619) (by decide +kernel), List.mem_of_getElem? (i := 620) (by decide +kernel)⟩
theorem lw_p19 : lw_okq (⟨"CensoredThreadsModel", "aheadOf", "(I)I"⟩, 12) := ⟨⟨by decide +kernel, by decide +kernel⟩, List.mem_of_getElem? (i := 486) (by decide +kernel), List.mem_of_getElem? (i := 627) (by decide +kernel), List.mem_of_getElem? (i := 628) (by decide +kernel)⟩
theorem lw_p20 : lw_okq (⟨"CensoredThreadsModel", "putAside", "()V"⟩, 12) := ⟨⟨by decide +kernel, by decide +kernel⟩, List.mem_of_getElem? (i := 486) (by decide +kernel), List.mem_of_getElem? (i := 639) (by decide +kernel), List.mem_of_getElem? (i := 640) (by decide +kernel)⟩
theorem lw_p21 : lw_okq (⟨"CensoredThreadsModel", "putBack", "()V"⟩, 12) := ⟨⟨by decide +kernel, by decide +kernel⟩, List.mem_of_getElem? (i := 486) (by decide +kernel), List.mem_of_getElem? (i := 643) (by decide +kernel), List.mem_of_getElem? (i := 644) (by decide +kernel)⟩
theorem lw_p22 : lw_okq (⟨"CensoredThreadsModel", "shiftsOf", "(I)I"⟩, 12) := ⟨⟨by decide +kernel, by decide +kernel⟩, List.mem_of_getElem? (i := 486) (by decide +kernel), List.mem_of_getElem? (i := 651) (by decide +kernel), List.mem_of_getElem? (i := 652) (by decide +kernel)⟩
theorem lw_p23 : lw_okq (⟨"CensoredThreadsModel", "many", "(I)I"⟩, 12) := ⟨⟨by decide +kernel, by decide +kernel⟩, List.mem_of_getElem? (i := 486) (by decide +kernel), List.mem_of_getElem? (i := 663) (by decide +kernel), List.mem_of_getElem? (i := 664) (by decide +kernel)⟩
theorem lw_p24 : lw_okq (⟨"CensoredThreadsModel", "delays", "()I"⟩, 12) := ⟨⟨by decide +kernel, by decide +kernel⟩, List.mem_of_getElem? (i := 486) (by decide +kernel), List.mem_of_getElem? (i := 667) (by decide +kernel), List.mem_of_getElem? (i := 668) (by decide +kernel)⟩
theorem lw_p25 : lw_okq (⟨"CensoredThreadsModel", "longest", "()I"⟩, 12) := ⟨⟨by decide +kernel, by decide +kernel⟩, List.mem_of_getElem? (i := 486) (by decide +kernel), List.mem_of_getElem? (i := 671) (by decide +kernel), List.mem_of_getElem? (i := 672) (by decide +kernel)⟩
theorem lw_p26 : lw_okq (⟨"CensoredThreadsModel", "struckWords", "()I"⟩, 12) := ⟨⟨by decide +kernel, by decide +kernel⟩, List.mem_of_getElem? (i := 486) (by decide +kernel), List.mem_of_getElem? (i := 675) (by decide +kernel), List.mem_of_getElem? (i := 676) (by decide +kernel)⟩
theorem lw_p27 : lw_okq (⟨"CensoredThreadsModel", "waitingThreads", "()I"⟩, 12) := ⟨⟨by decide +kernel, by decide +kernel⟩, List.mem_of_getElem? (i := 486) (by decide +kernel), List.mem_of_getElem? (i := 679) (by decide +kernel), List.mem_of_getElem? (i := 680) (by decide +kernel)⟩
theorem lw_p28 : lw_okq (⟨"CensoredThreadsModel", "turnedBack", "()I"⟩, 12) := ⟨⟨by decide +kernel, by decide +kernel⟩, List.mem_of_getElem? (i := 486) (by decide +kernel), List.mem_of_getElem? (i := 699) (by decide +kernel), List.mem_of_getElem? (i := 700) (by decide +kernel)⟩
theorem lw_p29 : lw_okq (⟨"CensoredThreadsModel", "wrong", "()I"⟩, 12) := ⟨⟨by decide +kernel, by decide +kernel⟩, List.mem_of_getElem? (i := 486) (by decide +kernel), List.mem_of_getElem? (i := 716) (by decide +kernel), List.mem_of_getElem? (i := 717) (by decide +kernel)⟩
theorem lw_p30 : lw_okq (⟨"CensoredThreadsModel", "right", "(I)I"⟩, 12) := ⟨⟨by decide +kernel, by decide +kernel⟩, List.mem_of_getElem? (i := 486) (by decide +kernel), List.mem_of_getElem? (i := 720) (by decide +kernel), List.mem_of_getElem? (i := 721) (by decide +kernel)⟩
theorem lw_p31 : lw_okq (⟨"CensoredThreadsModel", "next", "(I)I"⟩, 12) := ⟨⟨by decide +kernel, by decide +kernel⟩, List.mem_of_getElem? (i := 486) (by decide +kernel), List.mem_of_getElem? (i := 724) (by decide +kernel), List.mem_of_getElem? (i := 725) (by decide +kernel)⟩
def lw_privs_2 : List (MethodName × Nat) := [(⟨"CensoredThreadsModel", "reads", "(II)V"⟩, 12), (⟨"CensoredThreadsModel", "strikes", "(II)I"⟩, 12), (⟨"CensoredThreadsModel", "wordOf", "(II)I"⟩, 12), (⟨"CensoredThreadsModel", "aheadOf", "(I)I"⟩, 12), (⟨"CensoredThreadsModel", "putAside", "()V"⟩, 12), (⟨"CensoredThreadsModel", "putBack", "()V"⟩, 12), (⟨"CensoredThreadsModel", "shiftsOf", "(I)I"⟩, 12), (⟨"CensoredThreadsModel", "many", "(I)I"⟩, 12), (⟨"CensoredThreadsModel", "delays", "()I"⟩, 12), (⟨"CensoredThreadsModel", "longest", "()I"⟩, 12), (⟨"CensoredThreadsModel", "struckWords", "()I"⟩, 12), (⟨"CensoredThreadsModel", "waitingThreads", "()I"⟩, 12), (⟨"CensoredThreadsModel", "turnedBack", "()I"⟩, 12), (⟨"CensoredThreadsModel", "wrong", "()I"⟩, 12), (⟨"CensoredThreadsModel", "right", "(I)I"⟩, 12), (⟨"CensoredThreadsModel", "next", "(I)I"⟩, 12)]
theorem lw_r2 : ∀ q ∈ lw_privs_2, lw_okq q := List.forall_mem_cons.mpr ⟨lw_p16, List.forall_mem_cons.mpr ⟨lw_p17, List.forall_mem_cons.mpr ⟨lw_p18, List.forall_mem_cons.mpr ⟨lw_p19, List.forall_mem_cons.mpr ⟨lw_p20, List.forall_mem_cons.mpr ⟨lw_p21, List.forall_mem_cons.mpr ⟨lw_p22, List.forall_mem_cons.mpr ⟨lw_p23, List.forall_mem_cons.mpr ⟨lw_p24, List.forall_mem_cons.mpr ⟨lw_p25, List.forall_mem_cons.mpr ⟨lw_p26, List.forall_mem_cons.mpr ⟨lw_p27, List.forall_mem_cons.mpr ⟨lw_p28, List.forall_mem_cons.mpr ⟨lw_p29, List.forall_mem_cons.mpr ⟨lw_p30, List.forall_mem_cons.mpr ⟨lw_p31, fun _ h => absurd h List.not_mem_nil⟩⟩⟩⟩⟩⟩⟩⟩⟩⟩⟩⟩⟩⟩⟩⟩
theorem lw_p32 : lw_okq (⟨"CensoredThreadsModel", "isWordAt", "(I)Z"⟩, 12) := ⟨⟨by decide +kernel, by decide +kernel⟩, List.mem_of_getElem? (i := 486) (by decide +kernel), List.mem_of_getElem? (i := 728) (by decide +kernel), List.mem_of_getElem? (i := 729) (by decide +kernel)⟩
theorem lw_p33 : lw_okq (⟨"CensoredThreadsModel", "writes", "(II)V"⟩, 12) := ⟨⟨by decide +kernel, by decide +kernel⟩, List.mem_of_getElem? (i := 486) (by decide +kernel), List.mem_of_getElem? (i := 736) (by decide +kernel), List.mem_of_getElem? (i := 737) (by decide +kernel)⟩
def lw_privs_3 : List (MethodName × Nat) := [(⟨"CensoredThreadsModel", "isWordAt", "(I)Z"⟩, 12), (⟨"CensoredThreadsModel", "writes", "(II)V"⟩, 12)]
theorem lw_r3 : ∀ q ∈ lw_privs_3, lw_okq q := List.forall_mem_cons.mpr ⟨lw_p32, List.forall_mem_cons.mpr ⟨lw_p33, fun _ h => absurd h List.not_mem_nil⟩⟩
def lw_privs : List (MethodName × Nat) := lw_privs_1 ++ (lw_privs_2 ++ (lw_privs_3))
def lw_tbl : List Cond := k2_sels lw_privs ++ tables_1
theorem lw_privs_ok : ∀ q ∈ lw_privs, lw_okq q := by
  show ∀ q ∈ lw_privs_1 ++ (lw_privs_2 ++ (lw_privs_3)), lw_okq q
  exact List.forall_mem_append.mpr ⟨lw_r1, List.forall_mem_append.mpr ⟨lw_r2, lw_r3⟩⟩
end
section
def RX0 : String := "CensoredThreads$Censor"
def TX0 : u_T := fun k => match k with
  | 0 => ("CensoredThreads$Censor", "wordSet", "I", false)
  | 1 => ("CensoredThreads$Censor", "lettersRead", "I", false)
  | 2 => ("CensoredThreads$Censor", "wordsStruck", "I", false)
  | _ => ("CensoredThreads$Censor", "lettersTurned", "I", false)
def tyX0 : Nat → FieldType := fun k => match k with
  | 0 => .int
  | 1 => .int
  | 2 => .int
  | _ => .int
abbrev wsX00 : List Cond := u_ws RX0 TX0 4
theorem nmX0 : ∀ a, a < 4 → ∀ b, b < 4 → a ≠ b → (TX0 a).2.1 ≠ (TX0 b).2.1 := by decide +kernel
theorem tyX0_ok : ∀ k, k < 4 → parseFieldDescriptor (TX0 k).2.2.1 = some (tyX0 k) := by decide +kernel
abbrev cX0_init : ByteArray := prog_2_method_1_code
def yX0_init : MethodName := ⟨RX0, "<init>", "()V"⟩
abbrev cX0_copyFrom : ByteArray := prog_2_method_2_code
def yX0_copyFrom : MethodName := ⟨RX0, "copyFrom", "(LCensoredThreads$Censor;)V"⟩
def RX1 : String := "CensoredThreads$Letter"
def TX1 : u_T := fun k => match k with
  | 0 => ("CensoredThreads$Letter", "thread", "I", false)
  | 1 => ("CensoredThreads$Letter", "prison", "I", false)
  | 2 => ("CensoredThreads$Letter", "words", "J", false)
  | 3 => ("CensoredThreads$Letter", "wordCount", "I", false)
  | 4 => ("CensoredThreads$Letter", "written", "I", false)
  | 5 => ("CensoredThreads$Letter", "where", "I", false)
  | 6 => ("CensoredThreads$Letter", "delay", "I", false)
  | 7 => ("CensoredThreads$Letter", "timesTurned", "I", false)
  | 8 => ("CensoredThreads$Letter", "struckPlaces", "I", false)
  | 9 => ("CensoredThreads$Letter", "passedBy", "I", false)
  | _ => ("CensoredThreads$Letter", "fate", "I", false)
def tyX1 : Nat → FieldType := fun k => match k with
  | 0 => .int
  | 1 => .int
  | 2 => .long
  | 3 => .int
  | 4 => .int
  | 5 => .int
  | 6 => .int
  | 7 => .int
  | 8 => .int
  | 9 => .int
  | _ => .int
abbrev wsX10 : List Cond := u_ws RX1 TX1 11
theorem nmX1 : ∀ a, a < 11 → ∀ b, b < 11 → a ≠ b → (TX1 a).2.1 ≠ (TX1 b).2.1 := by decide +kernel
theorem tyX1_ok : ∀ k, k < 11 → parseFieldDescriptor (TX1 k).2.2.1 = some (tyX1 k) := by decide +kernel
abbrev cX1_init : ByteArray := prog_3_method_1_code
def yX1_init : MethodName := ⟨RX1, "<init>", "()V"⟩
abbrev cX1_begin : ByteArray := prog_3_method_2_code
def yX1_begin : MethodName := ⟨RX1, "begin", "(II)V"⟩
abbrev cX1_copyFrom : ByteArray := prog_3_method_3_code
def yX1_copyFrom : MethodName := ⟨RX1, "copyFrom", "(LCensoredThreads$Letter;)V"⟩
abbrev cX1_addWord : ByteArray := prog_3_method_4_code
def yX1_addWord : MethodName := ⟨RX1, "addWord", "(I)V"⟩
abbrev cX1_codeAt : ByteArray := prog_3_method_5_code
def yX1_codeAt : MethodName := ⟨RX1, "codeAt", "(I)I"⟩
abbrev cX1_isStruckAt : ByteArray := prog_3_method_6_code
def yX1_isStruckAt : MethodName := ⟨RX1, "isStruckAt", "(I)Z"⟩
abbrev cX1_struckCount : ByteArray := prog_3_method_7_code
def yX1_struckCount : MethodName := ⟨RX1, "struckCount", "()I"⟩
abbrev cX1_placesOf : ByteArray := prog_3_method_8_code
def yX1_placesOf : MethodName := ⟨RX1, "placesOf", "(I)I"⟩
def RX2 : String := "CensoredThreads$Prisons"
def TX2 : u_T := fun k => match k with
  | 0 => ("CensoredThreads$Prisons", "settings", "[I", true)
  | 1 => ("CensoredThreads$Prisons", "censors", "[LCensoredThreads$Censor;", true)
  | 2 => ("CensoredThreads$Prisons", "roster", "[I", true)
  | 3 => ("CensoredThreads$Prisons", "letters", "[LCensoredThreads$Letter;", true)
  | 4 => ("CensoredThreads$Prisons", "rows", "[LCensoredThreads$Row;", true)
  | 5 => ("CensoredThreads$Prisons", "nextRow", "LCensoredThreads$Row;", true)
  | 6 => ("CensoredThreads$Prisons", "heads", "[I", true)
  | 7 => ("CensoredThreads$Prisons", "letterCount", "I", false)
  | _ => ("CensoredThreads$Prisons", "weeks", "I", false)
def tyX2 : Nat → FieldType := fun k => match k with
  | 0 => .array .int
  | 1 => .array (.object "CensoredThreads$Censor")
  | 2 => .array .int
  | 3 => .array (.object "CensoredThreads$Letter")
  | 4 => .array (.object "CensoredThreads$Row")
  | 5 => .object "CensoredThreads$Row"
  | 6 => .array .int
  | 7 => .int
  | _ => .int
abbrev wsX20 : List Cond := u_ws RX2 TX2 9
theorem nmX2 : ∀ a, a < 9 → ∀ b, b < 9 → a ≠ b → (TX2 a).2.1 ≠ (TX2 b).2.1 := by decide +kernel
theorem tyX2_ok : ∀ k, k < 9 → parseFieldDescriptor (TX2 k).2.2.1 = some (tyX2 k) := by decide +kernel
abbrev cX2_init : ByteArray := prog_4_method_1_code
def yX2_init : MethodName := ⟨RX2, "<init>", "()V"⟩
abbrev cX2_copyFrom : ByteArray := prog_4_method_2_code
def yX2_copyFrom : MethodName := ⟨RX2, "copyFrom", "(LCensoredThreads$Prisons;)V"⟩
abbrev cX2_hasLetter : ByteArray := prog_4_method_3_code
def yX2_hasLetter : MethodName := ⟨RX2, "hasLetter", "(I)Z"⟩
abbrev cX2_beginLetter : ByteArray := prog_4_method_4_code
def yX2_beginLetter : MethodName := ⟨RX2, "beginLetter", "(I)LCensoredThreads$Letter;"⟩
abbrev cX2_sendNewest : ByteArray := prog_4_method_5_code
def yX2_sendNewest : MethodName := ⟨RX2, "sendNewest", "(I)V"⟩
abbrev cX2_burnWaiting : ByteArray := prog_4_method_6_code
def yX2_burnWaiting : MethodName := ⟨RX2, "burnWaiting", "(I)V"⟩
abbrev cX2_tradeShifts : ByteArray := prog_4_method_7_code
def yX2_tradeShifts : MethodName := ⟨RX2, "tradeShifts", "(II)V"⟩
abbrev cX2_censorNumber : ByteArray := prog_4_method_8_code
def yX2_censorNumber : MethodName := ⟨RX2, "censorNumber", "(II)I"⟩
abbrev cX2_shiftsOf : ByteArray := prog_4_method_9_code
def yX2_shiftsOf : MethodName := ⟨RX2, "shiftsOf", "(I)I"⟩
abbrev cX2_aheadOf : ByteArray := prog_4_method_10_code
def yX2_aheadOf : MethodName := ⟨RX2, "aheadOf", "(I)I"⟩
abbrev cX2_lettersThatAre : ByteArray := prog_4_method_11_code
def yX2_lettersThatAre : MethodName := ⟨RX2, "lettersThatAre", "(I)I"⟩
abbrev cX2_allDelays : ByteArray := prog_4_method_12_code
def yX2_allDelays : MethodName := ⟨RX2, "allDelays", "()I"⟩
abbrev cX2_longestDelay : ByteArray := prog_4_method_13_code
def yX2_longestDelay : MethodName := ⟨RX2, "longestDelay", "()I"⟩
abbrev cX2_wordsStruckInLetters : ByteArray := prog_4_method_14_code
def yX2_wordsStruckInLetters : MethodName := ⟨RX2, "wordsStruckInLetters", "()I"⟩
abbrev cX2_threadsThatWait : ByteArray := prog_4_method_15_code
def yX2_threadsThatWait : MethodName := ⟨RX2, "threadsThatWait", "()I"⟩
abbrev cX2_lettersTurnedByAll : ByteArray := prog_4_method_16_code
def yX2_lettersTurnedByAll : MethodName := ⟨RX2, "lettersTurnedByAll", "()I"⟩
abbrev cX2_findHeads : ByteArray := prog_4_method_17_code
def yX2_findHeads : MethodName := ⟨RX2, "findHeads", "()V"⟩
abbrev cX2_findHeadsIn : ByteArray := prog_4_method_18_code
def yX2_findHeadsIn : MethodName := ⟨RX2, "findHeadsIn", "(LCensoredThreads$Row;)V"⟩
abbrev cX2_judgeWeek : ByteArray := prog_4_method_19_code
def yX2_judgeWeek : MethodName := ⟨RX2, "judgeWeek", "()V"⟩
abbrev cX2_judgeRow : ByteArray := prog_4_method_20_code
def yX2_judgeRow : MethodName := ⟨RX2, "judgeRow", "(I)V"⟩
abbrev cX2_fateIfRead : ByteArray := prog_4_method_21_code
def yX2_fateIfRead : MethodName := ⟨RX2, "fateIfRead", "(LCensoredThreads$Letter;I)I"⟩
abbrev cX2_passWeeks : ByteArray := prog_4_method_22_code
def yX2_passWeeks : MethodName := ⟨RX2, "passWeeks", "(I)I"⟩
abbrev cX2_passWeek : ByteArray := prog_4_method_23_code
def yX2_passWeek : MethodName := ⟨RX2, "passWeek", "()I"⟩
abbrev cX2_readRow : ByteArray := prog_4_method_24_code
def yX2_readRow : MethodName := ⟨RX2, "readRow", "(I)I"⟩
abbrev cX2_appendIfFate : ByteArray := prog_4_method_25_code
def yX2_appendIfFate : MethodName := ⟨RX2, "appendIfFate", "(LCensoredThreads$Row;II)V"⟩
abbrev cX2_letThrough : ByteArray := prog_4_method_26_code
def yX2_letThrough : MethodName := ⟨RX2, "letThrough", "(LCensoredThreads$Letter;I)V"⟩
abbrev cX2_turnBack : ByteArray := prog_4_method_27_code
def yX2_turnBack : MethodName := ⟨RX2, "turnBack", "(LCensoredThreads$Letter;I)V"⟩
def RX3 : String := "CensoredThreads$Row"
def TX3 : u_T := fun k => match k with
  | 0 => ("CensoredThreads$Row", "numbers", "[I", true)
  | _ => ("CensoredThreads$Row", "length", "I", false)
def tyX3 : Nat → FieldType := fun k => match k with
  | 0 => .array .int
  | _ => .int
abbrev wsX30 : List Cond := u_ws RX3 TX3 2
theorem nmX3 : ∀ a, a < 2 → ∀ b, b < 2 → a ≠ b → (TX3 a).2.1 ≠ (TX3 b).2.1 := by decide +kernel
theorem tyX3_ok : ∀ k, k < 2 → parseFieldDescriptor (TX3 k).2.2.1 = some (tyX3 k) := by decide +kernel
abbrev cX3_init : ByteArray := prog_5_method_1_code
def yX3_init : MethodName := ⟨RX3, "<init>", "()V"⟩
abbrev cX3_copyFrom : ByteArray := prog_5_method_2_code
def yX3_copyFrom : MethodName := ⟨RX3, "copyFrom", "(LCensoredThreads$Row;)V"⟩
abbrev cX3_append : ByteArray := prog_5_method_3_code
def yX3_append : MethodName := ⟨RX3, "append", "(I)V"⟩
abbrev cX3_placeOf : ByteArray := prog_5_method_4_code
def yX3_placeOf : MethodName := ⟨RX3, "placeOf", "(I)I"⟩
abbrev cX3_takeOut : ByteArray := prog_5_method_5_code
def yX3_takeOut : MethodName := ⟨RX3, "takeOut", "(I)V"⟩
def RX4 : String := "CensoredThreads"
def TX4 : u_T := fun k => match k with
  | 0 => ("CensoredThreads", "now", "LCensoredThreads$Prisons;", true)
  | 1 => ("CensoredThreads", "trial", "LCensoredThreads$Prisons;", true)
  | 2 => ("CensoredThreads", "past", "[LCensoredThreads$Prisons;", true)
  | 3 => ("CensoredThreads", "slots", "[LCensoredThreads$Prisons;", true)
  | 4 => ("CensoredThreads", "slotUsed", "[Z", true)
  | 5 => ("CensoredThreads", "pad", "[C", true)
  | 6 => ("CensoredThreads", "pastCount", "I", false)
  | _ => ("CensoredThreads", "padLength", "I", false)
def tyX4 : Nat → FieldType := fun k => match k with
  | 0 => .object "CensoredThreads$Prisons"
  | 1 => .object "CensoredThreads$Prisons"
  | 2 => .array (.object "CensoredThreads$Prisons")
  | 3 => .array (.object "CensoredThreads$Prisons")
  | 4 => .array .boolean
  | 5 => .array .char
  | 6 => .int
  | _ => .int
abbrev wsX40 : List Cond := u_ws RX4 TX4 8
theorem nmX4 : ∀ a, a < 8 → ∀ b, b < 8 → a ≠ b → (TX4 a).2.1 ≠ (TX4 b).2.1 := by decide +kernel
theorem tyX4_ok : ∀ k, k < 8 → parseFieldDescriptor (TX4 k).2.2.1 = some (tyX4 k) := by decide +kernel
abbrev cX4_init : ByteArray := prog_1_method_1_code
def yX4_init : MethodName := ⟨RX4, "<init>", "()V"⟩
abbrev cX4_set : ByteArray := prog_1_method_2_code
def yX4_set : MethodName := ⟨RX4, "set", "(II)I"⟩
abbrev cX4_strike : ByteArray := prog_1_method_3_code
def yX4_strike : MethodName := ⟨RX4, "strike", "(II)I"⟩
abbrev cX4_trade : ByteArray := prog_1_method_4_code
def yX4_trade : MethodName := ⟨RX4, "trade", "(II)I"⟩
abbrev cX4_read : ByteArray := prog_1_method_5_code
def yX4_read : MethodName := ⟨RX4, "read", "()I"⟩
abbrev cX4_burn : ByteArray := prog_1_method_6_code
def yX4_burn : MethodName := ⟨RX4, "burn", "(I)I"⟩
abbrev cX4_pass : ByteArray := prog_1_method_7_code
def yX4_pass : MethodName := ⟨RX4, "pass", "(I)I"⟩
abbrev cX4_letter : ByteArray := prog_1_method_8_code
def yX4_letter : MethodName := ⟨RX4, "letter", "(II)I"⟩
abbrev cX4_word : ByteArray := prog_1_method_9_code
def yX4_word : MethodName := ⟨RX4, "word", "(II)I"⟩
abbrev cX4_why : ByteArray := prog_1_method_10_code
def yX4_why : MethodName := ⟨RX4, "why", "(I)I"⟩
abbrev cX4_censor : ByteArray := prog_1_method_11_code
def yX4_censor : MethodName := ⟨RX4, "censor", "(II)I"⟩
abbrev cX4_onShift : ByteArray := prog_1_method_12_code
def yX4_onShift : MethodName := ⟨RX4, "onShift", "(II)I"⟩
abbrev cX4_count : ByteArray := prog_1_method_13_code
def yX4_count : MethodName := ⟨RX4, "count", "(I)I"⟩
abbrev cX4_untilCome : ByteArray := prog_1_method_14_code
def yX4_untilCome : MethodName := ⟨RX4, "untilCome", "(I)I"⟩
abbrev cX4_ifPassed : ByteArray := prog_1_method_15_code
def yX4_ifPassed : MethodName := ⟨RX4, "ifPassed", "(II)I"⟩
abbrev cX4_bestTrade : ByteArray := prog_1_method_16_code
def yX4_bestTrade : MethodName := ⟨RX4, "bestTrade", "()I"⟩
abbrev cX4_leastLimit : ByteArray := prog_1_method_17_code
def yX4_leastLimit : MethodName := ⟨RX4, "leastLimit", "()I"⟩
abbrev cX4_turnsBackWith : ByteArray := prog_1_method_18_code
def yX4_turnsBackWith : MethodName := ⟨RX4, "turnsBackWith", "(I)Z"⟩
abbrev cX4_put : ByteArray := prog_1_method_19_code
def yX4_put : MethodName := ⟨RX4, "put", "(J)I"⟩
abbrev cX4_lengthOf : ByteArray := prog_1_method_20_code
def yX4_lengthOf : MethodName := ⟨RX4, "lengthOf", "(J)I"⟩
abbrev cX4_wipe : ByteArray := prog_1_method_21_code
def yX4_wipe : MethodName := ⟨RX4, "wipe", "()I"⟩
abbrev cX4_fault : ByteArray := prog_1_method_22_code
def yX4_fault : MethodName := ⟨RX4, "fault", "()I"⟩
abbrev cX4_faultOfPad : ByteArray := prog_1_method_23_code
def yX4_faultOfPad : MethodName := ⟨RX4, "faultOfPad", "()I"⟩
abbrev cX4_stageBehind : ByteArray := prog_1_method_24_code
def yX4_stageBehind : MethodName := ⟨RX4, "stageBehind", "(IC)I"⟩
abbrev cX4_isWord : ByteArray := prog_1_method_25_code
def yX4_isWord : MethodName := ⟨RX4, "isWord", "(C)Z"⟩
abbrev cX4_lettersOfPad : ByteArray := prog_1_method_26_code
def yX4_lettersOfPad : MethodName := ⟨RX4, "lettersOfPad", "()I"⟩
abbrev cX4_writeLettersOfPad : ByteArray := prog_1_method_27_code
def yX4_writeLettersOfPad : MethodName := ⟨RX4, "writeLettersOfPad", "()V"⟩
abbrev cX4_undo : ByteArray := prog_1_method_28_code
def yX4_undo : MethodName := ⟨RX4, "undo", "()I"⟩
abbrev cX4_save : ByteArray := prog_1_method_29_code
def yX4_save : MethodName := ⟨RX4, "save", "(I)I"⟩
abbrev cX4_restore : ByteArray := prog_1_method_30_code
def yX4_restore : MethodName := ⟨RX4, "restore", "(I)I"⟩
abbrev cX4_remember : ByteArray := prog_1_method_31_code
def yX4_remember : MethodName := ⟨RX4, "remember", "()V"⟩
def RX5 : String := "CensoredThreadsModel"
def TX5 : u_T := fun k => match k with
  | 0 => ("CensoredThreadsModel", "s", "[I", true)
  | 1 => ("CensoredThreadsModel", "aside", "[I", true)
  | 2 => ("CensoredThreadsModel", "history", "[I", true)
  | 3 => ("CensoredThreadsModel", "kept", "I", false)
  | 4 => ("CensoredThreadsModel", "slots", "[I", true)
  | 5 => ("CensoredThreadsModel", "isSaved", "[Z", true)
  | 6 => ("CensoredThreadsModel", "pad", "[I", true)
  | 7 => ("CensoredThreadsModel", "length", "I", false)
  | 8 => ("CensoredThreadsModel", "waited", "[Z", true)
  | 9 => ("CensoredThreadsModel", "wasRead", "[Z", true)
  | 10 => ("CensoredThreadsModel", "row", "[I", true)
  | _ => ("CensoredThreadsModel", "told", "I", false)
def tyX5 : Nat → FieldType := fun k => match k with
  | 0 => .array .int
  | 1 => .array .int
  | 2 => .array .int
  | 3 => .int
  | 4 => .array .int
  | 5 => .array .boolean
  | 6 => .array .int
  | 7 => .int
  | 8 => .array .boolean
  | 9 => .array .boolean
  | 10 => .array .int
  | _ => .int
abbrev wsX50 : List Cond := u_ws RX5 TX5 12
theorem nmX5 : ∀ a, a < 12 → ∀ b, b < 12 → a ≠ b → (TX5 a).2.1 ≠ (TX5 b).2.1 := by decide +kernel
theorem tyX5_ok : ∀ k, k < 12 → parseFieldDescriptor (TX5 k).2.2.1 = some (tyX5 k) := by decide +kernel
abbrev cX5_init : ByteArray := prog_7_method_1_code
def yX5_init : MethodName := ⟨RX5, "<init>", "()V"⟩
abbrev cX5_in : ByteArray := prog_7_method_3_code
def yX5_in : MethodName := ⟨RX5, "in", "(III)Z"⟩
abbrev cX5_isLetter : ByteArray := prog_7_method_4_code
def yX5_isLetter : MethodName := ⟨RX5, "isLetter", "(I)Z"⟩
abbrev cX5_at : ByteArray := prog_7_method_5_code
def yX5_at : MethodName := ⟨RX5, "at", "(II)I"⟩
abbrev cX5_of : ByteArray := prog_7_method_6_code
def yX5_of : MethodName := ⟨RX5, "of", "(II)I"⟩
abbrev cX5_inRow : ByteArray := prog_7_method_7_code
def yX5_inRow : MethodName := ⟨RX5, "inRow", "(II)I"⟩
abbrev cX5_ofCensor : ByteArray := prog_7_method_8_code
def yX5_ofCensor : MethodName := ⟨RX5, "ofCensor", "(II)I"⟩
abbrev cX5_record : ByteArray := prog_7_method_9_code
def yX5_record : MethodName := ⟨RX5, "record", "()V"⟩
abbrev cX5_putAside : ByteArray := prog_7_method_10_code
def yX5_putAside : MethodName := ⟨RX5, "putAside", "()V"⟩
abbrev cX5_putBack : ByteArray := prog_7_method_11_code
def yX5_putBack : MethodName := ⟨RX5, "putBack", "()V"⟩
abbrev cX5_bits : ByteArray := prog_7_method_12_code
def yX5_bits : MethodName := ⟨RX5, "bits", "(I)I"⟩
abbrev cX5_wordOf : ByteArray := prog_7_method_13_code
def yX5_wordOf : MethodName := ⟨RX5, "wordOf", "(II)I"⟩
abbrev cX5_strikes : ByteArray := prog_7_method_14_code
def yX5_strikes : MethodName := ⟨RX5, "strikes", "(II)I"⟩
abbrev cX5_shiftNow : ByteArray := prog_7_method_15_code
def yX5_shiftNow : MethodName := ⟨RX5, "shiftNow", "(I)I"⟩
abbrev cX5_isBarred : ByteArray := prog_7_method_16_code
def yX5_isBarred : MethodName := ⟨RX5, "isBarred", "(I)Z"⟩
abbrev cX5_reads : ByteArray := prog_7_method_17_code
def yX5_reads : MethodName := ⟨RX5, "reads", "(II)V"⟩
abbrev cX5_goesThrough : ByteArray := prog_7_method_18_code
def yX5_goesThrough : MethodName := ⟨RX5, "goesThrough", "(I)V"⟩
abbrev cX5_week : ByteArray := prog_7_method_19_code
def yX5_week : MethodName := ⟨RX5, "week", "()I"⟩
abbrev cX5_passes : ByteArray := prog_7_method_20_code
def yX5_passes : MethodName := ⟨RX5, "passes", "(I)I"⟩
abbrev cX5_many : ByteArray := prog_7_method_21_code
def yX5_many : MethodName := ⟨RX5, "many", "(I)I"⟩
abbrev cX5_struckWords : ByteArray := prog_7_method_22_code
def yX5_struckWords : MethodName := ⟨RX5, "struckWords", "()I"⟩
abbrev cX5_turnedBack : ByteArray := prog_7_method_23_code
def yX5_turnedBack : MethodName := ⟨RX5, "turnedBack", "()I"⟩
abbrev cX5_lays : ByteArray := prog_7_method_24_code
def yX5_lays : MethodName := ⟨RX5, "lays", "(II)I"⟩
abbrev cX5_set : ByteArray := prog_7_method_25_code
def yX5_set : MethodName := ⟨RX5, "set", "(II)I"⟩
abbrev cX5_strike : ByteArray := prog_7_method_26_code
def yX5_strike : MethodName := ⟨RX5, "strike", "(II)I"⟩
abbrev cX5_isShift : ByteArray := prog_7_method_27_code
def yX5_isShift : MethodName := ⟨RX5, "isShift", "(I)Z"⟩
abbrev cX5_trades : ByteArray := prog_7_method_28_code
def yX5_trades : MethodName := ⟨RX5, "trades", "(II)V"⟩
abbrev cX5_trade : ByteArray := prog_7_method_29_code
def yX5_trade : MethodName := ⟨RX5, "trade", "(II)I"⟩
abbrev cX5_burn : ByteArray := prog_7_method_30_code
def yX5_burn : MethodName := ⟨RX5, "burn", "(I)I"⟩
abbrev cX5_pass : ByteArray := prog_7_method_31_code
def yX5_pass : MethodName := ⟨RX5, "pass", "(I)I"⟩
abbrev cX5_placeOf : ByteArray := prog_7_method_32_code
def yX5_placeOf : MethodName := ⟨RX5, "placeOf", "(I)I"⟩
abbrev cX5_aheadOf : ByteArray := prog_7_method_33_code
def yX5_aheadOf : MethodName := ⟨RX5, "aheadOf", "(I)I"⟩
abbrev cX5_letter : ByteArray := prog_7_method_34_code
def yX5_letter : MethodName := ⟨RX5, "letter", "(II)I"⟩
abbrev cX5_word : ByteArray := prog_7_method_35_code
def yX5_word : MethodName := ⟨RX5, "word", "(II)I"⟩
abbrev cX5_why : ByteArray := prog_7_method_36_code
def yX5_why : MethodName := ⟨RX5, "why", "(I)I"⟩
abbrev cX5_shiftsOf : ByteArray := prog_7_method_37_code
def yX5_shiftsOf : MethodName := ⟨RX5, "shiftsOf", "(I)I"⟩
abbrev cX5_censor : ByteArray := prog_7_method_38_code
def yX5_censor : MethodName := ⟨RX5, "censor", "(II)I"⟩
abbrev cX5_onShift : ByteArray := prog_7_method_39_code
def yX5_onShift : MethodName := ⟨RX5, "onShift", "(II)I"⟩
abbrev cX5_delays : ByteArray := prog_7_method_40_code
def yX5_delays : MethodName := ⟨RX5, "delays", "()I"⟩
abbrev cX5_longest : ByteArray := prog_7_method_41_code
def yX5_longest : MethodName := ⟨RX5, "longest", "()I"⟩
abbrev cX5_waitingThreads : ByteArray := prog_7_method_42_code
def yX5_waitingThreads : MethodName := ⟨RX5, "waitingThreads", "()I"⟩
abbrev cX5_count : ByteArray := prog_7_method_43_code
def yX5_count : MethodName := ⟨RX5, "count", "(I)I"⟩
abbrev cX5_untilCome : ByteArray := prog_7_method_44_code
def yX5_untilCome : MethodName := ⟨RX5, "untilCome", "(I)I"⟩
abbrev cX5_ifPassed : ByteArray := prog_7_method_45_code
def yX5_ifPassed : MethodName := ⟨RX5, "ifPassed", "(II)I"⟩
abbrev cX5_bestTrade : ByteArray := prog_7_method_46_code
def yX5_bestTrade : MethodName := ⟨RX5, "bestTrade", "()I"⟩
abbrev cX5_leastLimit : ByteArray := prog_7_method_47_code
def yX5_leastLimit : MethodName := ⟨RX5, "leastLimit", "()I"⟩
abbrev cX5_put : ByteArray := prog_7_method_48_code
def yX5_put : MethodName := ⟨RX5, "put", "(J)I"⟩
abbrev cX5_wipe : ByteArray := prog_7_method_49_code
def yX5_wipe : MethodName := ⟨RX5, "wipe", "()I"⟩
abbrev cX5_next : ByteArray := prog_7_method_50_code
def yX5_next : MethodName := ⟨RX5, "next", "(I)I"⟩
abbrev cX5_isWordAt : ByteArray := prog_7_method_51_code
def yX5_isWordAt : MethodName := ⟨RX5, "isWordAt", "(I)Z"⟩
abbrev cX5_right : ByteArray := prog_7_method_52_code
def yX5_right : MethodName := ⟨RX5, "right", "(I)I"⟩
abbrev cX5_wrong : ByteArray := prog_7_method_53_code
def yX5_wrong : MethodName := ⟨RX5, "wrong", "()I"⟩
abbrev cX5_fault : ByteArray := prog_7_method_54_code
def yX5_fault : MethodName := ⟨RX5, "fault", "()I"⟩
abbrev cX5_writes : ByteArray := prog_7_method_55_code
def yX5_writes : MethodName := ⟨RX5, "writes", "(II)V"⟩
abbrev cX5_read : ByteArray := prog_7_method_56_code
def yX5_read : MethodName := ⟨RX5, "read", "()I"⟩
abbrev cX5_undo : ByteArray := prog_7_method_57_code
def yX5_undo : MethodName := ⟨RX5, "undo", "()I"⟩
abbrev cX5_save : ByteArray := prog_7_method_58_code
def yX5_save : MethodName := ⟨RX5, "save", "(I)I"⟩
abbrev cX5_restore : ByteArray := prog_7_method_59_code
def yX5_restore : MethodName := ⟨RX5, "restore", "(I)I"⟩
def RJ6 : String := "java/lang/Integer"
def TJ6 : u_T := fun k => match k with
  | _ => ("", "", "", false)
def tyJ6 : Nat → FieldType := fun k => match k with
  | _ => .int
abbrev cJ6_bitCount_0f7a4 : ByteArray := prog_8_method_49_code
def yJ6_bitCount_0f7a4 : MethodName := ⟨RJ6, "bitCount", "(I)I"⟩
def RJ9 : String := "java/lang/Math"
def TJ9 : u_T := fun k => match k with
  | _ => ("", "", "", false)
def tyJ9 : Nat → FieldType := fun k => match k with
  | _ => .int
abbrev cJ9_max_7cf53 : ByteArray := prog_9_method_65_code
def yJ9_max_7cf53 : MethodName := ⟨RJ9, "max", "(II)I"⟩
def RJ10 : String := "java/lang/System"
def TJ10 : u_T := fun k => match k with
  | _ => ("", "", "", false)
def tyJ10 : Nat → FieldType := fun k => match k with
  | _ => .int
def RL : String := "CensoredThreadsLaw"
abbrev cL_law : ByteArray := code
def yL_law : MethodName := ⟨RL, "law", "([I)Z"⟩
abbrev vwCl : List vw_C := [(RX0, TX0, 4), (RX1, TX1, 11), (RX2, TX2, 9), (RX3, TX3, 2), (RX4, TX4, 8), (RX5, TX5, 12)]
end
section
def lw_gd : List Cond := lw_tbl.filter goodWord
theorem gd_of {w : Cond} (h : w ∈ lw_tbl) (hg : goodWord w = true) : w ∈ lw_gd := List.mem_filter.mpr ⟨h, hg⟩
theorem gd_tbl {w : Cond} (h : w ∈ lw_gd) : w ∈ lw_tbl := (List.mem_filter.mp h).1
theorem gd_good {w : Cond} (h : w ∈ lw_gd) : goodWord w = true := (List.mem_filter.mp h).2
theorem in_t1 {w : Cond} (h : w ∈ tables_1_1) : w ∈ lw_tbl := List.mem_append_right _ (List.mem_append_left _ h)
theorem in_t2 {w : Cond} (h : w ∈ tables_1_2) : w ∈ lw_tbl := List.mem_append_right _ (List.mem_append_right _ (List.mem_append_left _ h))
theorem in_t3 {w : Cond} (h : w ∈ tables_1_3) : w ∈ lw_tbl := List.mem_append_right _ (List.mem_append_right _ (List.mem_append_right _ (List.mem_append_left _ h)))
theorem in_t4 {w : Cond} (h : w ∈ tables_1_4) : w ∈ lw_tbl := List.mem_append_right _ (List.mem_append_right _ (List.mem_append_right _ (List.mem_append_right _ h)))
theorem ini_L : Cond.initialized RL ∈ lw_gd := gd_of (in_t1 (List.mem_of_getElem? (i := 0) (by decide +kernel))) rfl
theorem ini_X4 : Cond.initialized RX4 ∈ lw_gd := gd_of (in_t1 (List.mem_of_getElem? (i := 1) (by decide +kernel))) rfl
theorem ini_X2 : Cond.initialized RX2 ∈ lw_gd := gd_of (in_t1 (List.mem_of_getElem? (i := 2) (by decide +kernel))) rfl
theorem ini_X3 : Cond.initialized RX3 ∈ lw_gd := gd_of (in_t1 (List.mem_of_getElem? (i := 3) (by decide +kernel))) rfl
theorem ini_X0 : Cond.initialized RX0 ∈ lw_gd := gd_of (in_t1 (List.mem_of_getElem? (i := 4) (by decide +kernel))) rfl
theorem ini_X1 : Cond.initialized RX1 ∈ lw_gd := gd_of (in_t1 (List.mem_of_getElem? (i := 5) (by decide +kernel))) rfl
theorem ini_X5 : Cond.initialized RX5 ∈ lw_gd := gd_of (in_t1 (List.mem_of_getElem? (i := 6) (by decide +kernel))) rfl
theorem ini_J10 : Cond.initialized "java/lang/System" ∈ lw_gd := gd_of (in_t1 (List.mem_of_getElem? (i := 7) (by decide +kernel))) rfl
theorem ini_J6 : Cond.initialized RJ6 ∈ lw_gd := gd_of (in_t1 (List.mem_of_getElem? (i := 8) (by decide +kernel))) rfl
theorem ini_J9 : Cond.initialized "java/lang/Math" ∈ lw_gd := gd_of (in_t1 (List.mem_of_getElem? (i := 9) (by decide +kernel))) rfl
theorem cl_L_7 : Cond.classLink RL 7 RX4 ∈ lw_gd := gd_of (in_t1 (List.mem_of_getElem? (i := 10) (by decide +kernel))) rfl
theorem is_X4 : Cond.instantiable RX4 8 ∈ lw_gd := gd_of (in_t1 (List.mem_of_getElem? (i := 11) (by decide +kernel))) rfl
theorem ml_L_9 : Cond.methodLink RL 9 yX4_init ∈ lw_gd := gd_of (in_t1 (List.mem_of_getElem? (i := 12) (by decide +kernel))) rfl
theorem mi_X4_init : Cond.instanceMethod yX4_init ∈ lw_gd := gd_of (in_t1 (List.mem_of_getElem? (i := 13) (by decide +kernel))) rfl
theorem mc_X4_init : Cond.code yX4_init cX4_init 2 none ∈ lw_gd := gd_of (in_t1 (List.mem_of_getElem? (i := 14) (by decide +kernel))) rfl
theorem ml_X4_3 : Cond.methodLink RX4 3 objectInit ∈ lw_gd := gd_of (in_t1 (List.mem_of_getElem? (i := 15) (by decide +kernel))) rfl
theorem mi_obj : Cond.instanceMethod objectInit ∈ lw_gd := gd_of (in_t1 (List.mem_of_getElem? (i := 16) (by decide +kernel))) rfl
theorem mc_obj : Cond.code objectInit ⟨#[0xb1]⟩ 1 none ∈ lw_gd := gd_of (in_t1 (List.mem_of_getElem? (i := 17) (by decide +kernel))) rfl
theorem cl_X4_9 : Cond.classLink RX4 9 RX2 ∈ lw_gd := gd_of (in_t1 (List.mem_of_getElem? (i := 18) (by decide +kernel))) rfl
theorem is_X2 : Cond.instantiable RX2 9 ∈ lw_gd := gd_of (in_t1 (List.mem_of_getElem? (i := 19) (by decide +kernel))) rfl
theorem ml_X4_11 : Cond.methodLink RX4 11 yX2_init ∈ lw_gd := gd_of (in_t1 (List.mem_of_getElem? (i := 20) (by decide +kernel))) rfl
theorem mi_X2_init : Cond.instanceMethod yX2_init ∈ lw_gd := gd_of (in_t1 (List.mem_of_getElem? (i := 21) (by decide +kernel))) rfl
theorem mc_X2_init : Cond.code yX2_init cX2_init 2 none ∈ lw_gd := gd_of (in_t1 (List.mem_of_getElem? (i := 22) (by decide +kernel))) rfl
theorem ml_X2_3 : Cond.methodLink RX2 3 objectInit ∈ lw_gd := gd_of (in_t1 (List.mem_of_getElem? (i := 23) (by decide +kernel))) rfl
theorem cl_X2_15 : Cond.classLink RX2 15 RX0 ∈ lw_gd := gd_of (in_t1 (List.mem_of_getElem? (i := 24) (by decide +kernel))) rfl
theorem ao_X0 : Cond.arrayOver (.object RX0) ∈ lw_tbl := in_t1 (List.mem_of_getElem? (i := 25) (by decide +kernel))
theorem cl_X2_24 : Cond.classLink RX2 24 RX1 ∈ lw_gd := gd_of (in_t1 (List.mem_of_getElem? (i := 26) (by decide +kernel))) rfl
theorem ao_X1 : Cond.arrayOver (.object RX1) ∈ lw_tbl := in_t1 (List.mem_of_getElem? (i := 27) (by decide +kernel))
theorem cl_X2_30 : Cond.classLink RX2 30 RX3 ∈ lw_gd := gd_of (in_t1 (List.mem_of_getElem? (i := 28) (by decide +kernel))) rfl
theorem ao_X3 : Cond.arrayOver (.object RX3) ∈ lw_tbl := in_t1 (List.mem_of_getElem? (i := 29) (by decide +kernel))
theorem is_X3 : Cond.instantiable RX3 2 ∈ lw_gd := gd_of (in_t1 (List.mem_of_getElem? (i := 30) (by decide +kernel))) rfl
theorem ml_X2_36 : Cond.methodLinkNest RX2 36 yX3_init RX4 ∈ lw_tbl := in_t1 (List.mem_of_getElem? (i := 31) (by decide +kernel))
theorem mi_X3_init : Cond.instanceMethod yX3_init ∈ lw_gd := gd_of (in_t1 (List.mem_of_getElem? (i := 32) (by decide +kernel))) rfl
theorem mc_X3_init : Cond.code yX3_init cX3_init 1 none ∈ lw_gd := gd_of (in_t1 (List.mem_of_getElem? (i := 33) (by decide +kernel))) rfl
theorem ml_X3_3 : Cond.methodLink RX3 3 objectInit ∈ lw_gd := gd_of (in_t1 (List.mem_of_getElem? (i := 34) (by decide +kernel))) rfl
theorem lk_X3_9 : Cond.fieldLink RX3 9 RX3 (TX3 0).2.1 (TX3 0).2.2.1 ∈ lw_gd := gd_of (in_t1 (List.mem_of_getElem? (i := 35) (by decide +kernel))) rfl
theorem lk_X2_114 : Cond.fieldLink RX2 114 RX3 (TX3 0).2.1 (TX3 0).2.2.1 ∈ lw_gd := gd_of (in_t1 (List.mem_of_getElem? (i := 36) (by decide +kernel))) rfl
theorem lk_X3_15 : Cond.fieldLink RX3 15 RX3 (TX3 1).2.1 (TX3 1).2.2.1 ∈ lw_gd := gd_of (in_t1 (List.mem_of_getElem? (i := 37) (by decide +kernel))) rfl
theorem lk_X4_176 : Cond.fieldLink RX4 176 RX3 (TX3 1).2.1 (TX3 1).2.2.1 ∈ lw_gd := gd_of (in_t1 (List.mem_of_getElem? (i := 38) (by decide +kernel))) rfl
theorem lk_X2_111 : Cond.fieldLink RX2 111 RX3 (TX3 1).2.1 (TX3 1).2.2.1 ∈ lw_gd := gd_of (in_t1 (List.mem_of_getElem? (i := 39) (by decide +kernel))) rfl
theorem ac_int : Cond.arrayClass .int ∈ lw_gd := gd_of (in_t1 (List.mem_of_getElem? (i := 45) (by decide +kernel))) rfl
theorem is_X0 : Cond.instantiable RX0 4 ∈ lw_gd := gd_of (in_t1 (List.mem_of_getElem? (i := 46) (by decide +kernel))) rfl
theorem ml_X2_44 : Cond.methodLinkNest RX2 44 yX0_init RX4 ∈ lw_tbl := in_t1 (List.mem_of_getElem? (i := 47) (by decide +kernel))
theorem mi_X0_init : Cond.instanceMethod yX0_init ∈ lw_gd := gd_of (in_t1 (List.mem_of_getElem? (i := 48) (by decide +kernel))) rfl
theorem mc_X0_init : Cond.code yX0_init cX0_init 1 none ∈ lw_gd := gd_of (in_t1 (List.mem_of_getElem? (i := 49) (by decide +kernel))) rfl
theorem ml_X0_1 : Cond.methodLink RX0 1 objectInit ∈ lw_gd := gd_of (in_t1 (List.mem_of_getElem? (i := 50) (by decide +kernel))) rfl
theorem lk_X0_7 : Cond.fieldLink RX0 7 RX0 (TX0 0).2.1 (TX0 0).2.2.1 ∈ lw_gd := gd_of (in_t1 (List.mem_of_getElem? (i := 51) (by decide +kernel))) rfl
theorem lk_X4_51 : Cond.fieldLink RX4 51 RX0 (TX0 0).2.1 (TX0 0).2.2.1 ∈ lw_gd := gd_of (in_t1 (List.mem_of_getElem? (i := 52) (by decide +kernel))) rfl
theorem lk_X2_123 : Cond.fieldLink RX2 123 RX0 (TX0 0).2.1 (TX0 0).2.2.1 ∈ lw_gd := gd_of (in_t1 (List.mem_of_getElem? (i := 53) (by decide +kernel))) rfl
theorem lk_X0_13 : Cond.fieldLink RX0 13 RX0 (TX0 1).2.1 (TX0 1).2.2.1 ∈ lw_gd := gd_of (in_t1 (List.mem_of_getElem? (i := 54) (by decide +kernel))) rfl
theorem lk_X4_160 : Cond.fieldLink RX4 160 RX0 (TX0 1).2.1 (TX0 1).2.2.1 ∈ lw_gd := gd_of (in_t1 (List.mem_of_getElem? (i := 55) (by decide +kernel))) rfl
theorem lk_X2_174 : Cond.fieldLink RX2 174 RX0 (TX0 1).2.1 (TX0 1).2.2.1 ∈ lw_gd := gd_of (in_t1 (List.mem_of_getElem? (i := 56) (by decide +kernel))) rfl
theorem lk_X0_16 : Cond.fieldLink RX0 16 RX0 (TX0 2).2.1 (TX0 2).2.2.1 ∈ lw_gd := gd_of (in_t1 (List.mem_of_getElem? (i := 57) (by decide +kernel))) rfl
theorem lk_X4_163 : Cond.fieldLink RX4 163 RX0 (TX0 2).2.1 (TX0 2).2.2.1 ∈ lw_gd := gd_of (in_t1 (List.mem_of_getElem? (i := 58) (by decide +kernel))) rfl
theorem lk_X2_177 : Cond.fieldLink RX2 177 RX0 (TX0 2).2.1 (TX0 2).2.2.1 ∈ lw_gd := gd_of (in_t1 (List.mem_of_getElem? (i := 59) (by decide +kernel))) rfl
theorem lk_X0_19 : Cond.fieldLink RX0 19 RX0 (TX0 3).2.1 (TX0 3).2.2.1 ∈ lw_gd := gd_of (in_t1 (List.mem_of_getElem? (i := 60) (by decide +kernel))) rfl
theorem lk_X4_166 : Cond.fieldLink RX4 166 RX0 (TX0 3).2.1 (TX0 3).2.2.1 ∈ lw_gd := gd_of (in_t1 (List.mem_of_getElem? (i := 61) (by decide +kernel))) rfl
theorem lk_X2_105 : Cond.fieldLink RX2 105 RX0 (TX0 3).2.1 (TX0 3).2.2.1 ∈ lw_gd := gd_of (in_t1 (List.mem_of_getElem? (i := 62) (by decide +kernel))) rfl
theorem is_X1 : Cond.instantiable RX1 11 ∈ lw_gd := gd_of (in_t1 (List.mem_of_getElem? (i := 72) (by decide +kernel))) rfl
theorem ml_X2_45 : Cond.methodLinkNest RX2 45 yX1_init RX4 ∈ lw_tbl := in_t1 (List.mem_of_getElem? (i := 73) (by decide +kernel))
theorem mi_X1_init : Cond.instanceMethod yX1_init ∈ lw_gd := gd_of (in_t1 (List.mem_of_getElem? (i := 74) (by decide +kernel))) rfl
theorem mc_X1_init : Cond.code yX1_init cX1_init 1 none ∈ lw_gd := gd_of (in_t1 (List.mem_of_getElem? (i := 75) (by decide +kernel))) rfl
theorem ml_X1_3 : Cond.methodLink RX1 3 objectInit ∈ lw_gd := gd_of (in_t1 (List.mem_of_getElem? (i := 76) (by decide +kernel))) rfl
theorem lk_X1_9 : Cond.fieldLink RX1 9 RX1 (TX1 0).2.1 (TX1 0).2.2.1 ∈ lw_gd := gd_of (in_t1 (List.mem_of_getElem? (i := 77) (by decide +kernel))) rfl
theorem lk_X4_112 : Cond.fieldLink RX4 112 RX1 (TX1 0).2.1 (TX1 0).2.2.1 ∈ lw_gd := gd_of (in_t1 (List.mem_of_getElem? (i := 78) (by decide +kernel))) rfl
theorem lk_X2_86 : Cond.fieldLink RX2 86 RX1 (TX1 0).2.1 (TX1 0).2.2.1 ∈ lw_gd := gd_of (in_t1 (List.mem_of_getElem? (i := 79) (by decide +kernel))) rfl
theorem lk_X1_15 : Cond.fieldLink RX1 15 RX1 (TX1 1).2.1 (TX1 1).2.2.1 ∈ lw_gd := gd_of (in_t1 (List.mem_of_getElem? (i := 80) (by decide +kernel))) rfl
theorem lk_X2_73 : Cond.fieldLink RX2 73 RX1 (TX1 1).2.1 (TX1 1).2.2.1 ∈ lw_gd := gd_of (in_t1 (List.mem_of_getElem? (i := 81) (by decide +kernel))) rfl
theorem lk_X4_115 : Cond.fieldLink RX4 115 RX1 (TX1 1).2.1 (TX1 1).2.2.1 ∈ lw_gd := gd_of (in_t1 (List.mem_of_getElem? (i := 82) (by decide +kernel))) rfl
theorem lk_X1_18 : Cond.fieldLink RX1 18 RX1 (TX1 2).2.1 (TX1 2).2.2.1 ∈ lw_gd := gd_of (in_t1 (List.mem_of_getElem? (i := 83) (by decide +kernel))) rfl
theorem lk_X1_22 : Cond.fieldLink RX1 22 RX1 (TX1 3).2.1 (TX1 3).2.2.1 ∈ lw_gd := gd_of (in_t1 (List.mem_of_getElem? (i := 84) (by decide +kernel))) rfl
theorem lk_X4_142 : Cond.fieldLink RX4 142 RX1 (TX1 3).2.1 (TX1 3).2.2.1 ∈ lw_gd := gd_of (in_t1 (List.mem_of_getElem? (i := 85) (by decide +kernel))) rfl
theorem lk_X1_25 : Cond.fieldLink RX1 25 RX1 (TX1 4).2.1 (TX1 4).2.2.1 ∈ lw_gd := gd_of (in_t1 (List.mem_of_getElem? (i := 86) (by decide +kernel))) rfl
theorem lk_X4_106 : Cond.fieldLink RX4 106 RX1 (TX1 4).2.1 (TX1 4).2.2.1 ∈ lw_gd := gd_of (in_t1 (List.mem_of_getElem? (i := 87) (by decide +kernel))) rfl
theorem lk_X2_168 : Cond.fieldLink RX2 168 RX1 (TX1 4).2.1 (TX1 4).2.2.1 ∈ lw_gd := gd_of (in_t1 (List.mem_of_getElem? (i := 88) (by decide +kernel))) rfl
theorem lk_X1_28 : Cond.fieldLink RX1 28 RX1 (TX1 5).2.1 (TX1 5).2.2.1 ∈ lw_gd := gd_of (in_t1 (List.mem_of_getElem? (i := 89) (by decide +kernel))) rfl
theorem lk_X2_80 : Cond.fieldLink RX2 80 RX1 (TX1 5).2.1 (TX1 5).2.2.1 ∈ lw_gd := gd_of (in_t1 (List.mem_of_getElem? (i := 90) (by decide +kernel))) rfl
theorem lk_X4_94 : Cond.fieldLink RX4 94 RX1 (TX1 5).2.1 (TX1 5).2.2.1 ∈ lw_gd := gd_of (in_t1 (List.mem_of_getElem? (i := 91) (by decide +kernel))) rfl
theorem lk_X1_31 : Cond.fieldLink RX1 31 RX1 (TX1 6).2.1 (TX1 6).2.2.1 ∈ lw_gd := gd_of (in_t1 (List.mem_of_getElem? (i := 92) (by decide +kernel))) rfl
theorem lk_X4_127 : Cond.fieldLink RX4 127 RX1 (TX1 6).2.1 (TX1 6).2.2.1 ∈ lw_gd := gd_of (in_t1 (List.mem_of_getElem? (i := 93) (by decide +kernel))) rfl
theorem lk_X2_89 : Cond.fieldLink RX2 89 RX1 (TX1 6).2.1 (TX1 6).2.2.1 ∈ lw_gd := gd_of (in_t1 (List.mem_of_getElem? (i := 94) (by decide +kernel))) rfl
theorem lk_X1_34 : Cond.fieldLink RX1 34 RX1 (TX1 7).2.1 (TX1 7).2.2.1 ∈ lw_gd := gd_of (in_t1 (List.mem_of_getElem? (i := 95) (by decide +kernel))) rfl
theorem lk_X4_133 : Cond.fieldLink RX4 133 RX1 (TX1 7).2.1 (TX1 7).2.2.1 ∈ lw_gd := gd_of (in_t1 (List.mem_of_getElem? (i := 96) (by decide +kernel))) rfl
theorem lk_X2_142 : Cond.fieldLink RX2 142 RX1 (TX1 7).2.1 (TX1 7).2.2.1 ∈ lw_gd := gd_of (in_t1 (List.mem_of_getElem? (i := 97) (by decide +kernel))) rfl
theorem lk_X1_37 : Cond.fieldLink RX1 37 RX1 (TX1 8).2.1 (TX1 8).2.2.1 ∈ lw_gd := gd_of (in_t1 (List.mem_of_getElem? (i := 98) (by decide +kernel))) rfl
theorem lk_X2_165 : Cond.fieldLink RX2 165 RX1 (TX1 8).2.1 (TX1 8).2.2.1 ∈ lw_gd := gd_of (in_t1 (List.mem_of_getElem? (i := 99) (by decide +kernel))) rfl
theorem lk_X1_40 : Cond.fieldLink RX1 40 RX1 (TX1 9).2.1 (TX1 9).2.2.1 ∈ lw_gd := gd_of (in_t1 (List.mem_of_getElem? (i := 100) (by decide +kernel))) rfl
theorem lk_X4_136 : Cond.fieldLink RX4 136 RX1 (TX1 9).2.1 (TX1 9).2.2.1 ∈ lw_gd := gd_of (in_t1 (List.mem_of_getElem? (i := 101) (by decide +kernel))) rfl
theorem lk_X2_171 : Cond.fieldLink RX2 171 RX1 (TX1 9).2.1 (TX1 9).2.2.1 ∈ lw_gd := gd_of (in_t1 (List.mem_of_getElem? (i := 102) (by decide +kernel))) rfl
theorem lk_X4_154 : Cond.fieldLink RX4 154 RX1 (TX1 10).2.1 (TX1 10).2.2.1 ∈ lw_gd := gd_of (in_t1 (List.mem_of_getElem? (i := 103) (by decide +kernel))) rfl
theorem lk_X2_126 : Cond.fieldLink RX2 126 RX1 (TX1 10).2.1 (TX1 10).2.2.1 ∈ lw_gd := gd_of (in_t1 (List.mem_of_getElem? (i := 104) (by decide +kernel))) rfl
theorem lk_X2_9 : Cond.fieldLink RX2 9 RX2 (TX2 0).2.1 (TX2 0).2.2.1 ∈ lw_gd := gd_of (in_t1 (List.mem_of_getElem? (i := 128) (by decide +kernel))) rfl
theorem lk_X4_44 : Cond.fieldLink RX4 44 RX2 (TX2 0).2.1 (TX2 0).2.2.1 ∈ lw_gd := gd_of (in_t1 (List.mem_of_getElem? (i := 129) (by decide +kernel))) rfl
theorem lk_X2_17 : Cond.fieldLink RX2 17 RX2 (TX2 1).2.1 (TX2 1).2.2.1 ∈ lw_gd := gd_of (in_t1 (List.mem_of_getElem? (i := 130) (by decide +kernel))) rfl
theorem lk_X4_47 : Cond.fieldLink RX4 47 RX2 (TX2 1).2.1 (TX2 1).2.2.1 ∈ lw_gd := gd_of (in_t1 (List.mem_of_getElem? (i := 131) (by decide +kernel))) rfl
theorem lk_X2_21 : Cond.fieldLink RX2 21 RX2 (TX2 2).2.1 (TX2 2).2.2.1 ∈ lw_gd := gd_of (in_t1 (List.mem_of_getElem? (i := 132) (by decide +kernel))) rfl
theorem lk_X4_63 : Cond.fieldLink RX4 63 RX2 (TX2 2).2.1 (TX2 2).2.2.1 ∈ lw_gd := gd_of (in_t1 (List.mem_of_getElem? (i := 133) (by decide +kernel))) rfl
theorem lk_X2_26 : Cond.fieldLink RX2 26 RX2 (TX2 3).2.1 (TX2 3).2.2.1 ∈ lw_gd := gd_of (in_t1 (List.mem_of_getElem? (i := 134) (by decide +kernel))) rfl
theorem lk_X4_90 : Cond.fieldLink RX4 90 RX2 (TX2 3).2.1 (TX2 3).2.2.1 ∈ lw_gd := gd_of (in_t1 (List.mem_of_getElem? (i := 135) (by decide +kernel))) rfl
theorem lk_X2_32 : Cond.fieldLink RX2 32 RX2 (TX2 4).2.1 (TX2 4).2.2.1 ∈ lw_gd := gd_of (in_t1 (List.mem_of_getElem? (i := 136) (by decide +kernel))) rfl
theorem lk_X4_118 : Cond.fieldLink RX4 118 RX2 (TX2 4).2.1 (TX2 4).2.2.1 ∈ lw_gd := gd_of (in_t1 (List.mem_of_getElem? (i := 137) (by decide +kernel))) rfl
theorem lk_X2_37 : Cond.fieldLink RX2 37 RX2 (TX2 5).2.1 (TX2 5).2.2.1 ∈ lw_gd := gd_of (in_t1 (List.mem_of_getElem? (i := 138) (by decide +kernel))) rfl
theorem lk_X2_41 : Cond.fieldLink RX2 41 RX2 (TX2 6).2.1 (TX2 6).2.2.1 ∈ lw_gd := gd_of (in_t1 (List.mem_of_getElem? (i := 139) (by decide +kernel))) rfl
theorem lk_X2_56 : Cond.fieldLink RX2 56 RX2 (TX2 7).2.1 (TX2 7).2.2.1 ∈ lw_gd := gd_of (in_t1 (List.mem_of_getElem? (i := 140) (by decide +kernel))) rfl
theorem lk_X4_74 : Cond.fieldLink RX4 74 RX2 (TX2 7).2.1 (TX2 7).2.2.1 ∈ lw_gd := gd_of (in_t1 (List.mem_of_getElem? (i := 141) (by decide +kernel))) rfl
theorem lk_X2_66 : Cond.fieldLink RX2 66 RX2 (TX2 8).2.1 (TX2 8).2.2.1 ∈ lw_gd := gd_of (in_t1 (List.mem_of_getElem? (i := 142) (by decide +kernel))) rfl
theorem lk_X4_103 : Cond.fieldLink RX4 103 RX2 (TX2 8).2.1 (TX2 8).2.2.1 ∈ lw_gd := gd_of (in_t1 (List.mem_of_getElem? (i := 143) (by decide +kernel))) rfl
theorem ao_X2 : Cond.arrayOver (.object RX2) ∈ lw_tbl := in_t1 (List.mem_of_getElem? (i := 163) (by decide +kernel))
theorem lk_X4_12 : Cond.fieldLink RX4 12 RX4 (TX4 0).2.1 (TX4 0).2.2.1 ∈ lw_gd := gd_of (in_t1 (List.mem_of_getElem? (i := 164) (by decide +kernel))) rfl
theorem lk_X4_16 : Cond.fieldLink RX4 16 RX4 (TX4 1).2.1 (TX4 1).2.2.1 ∈ lw_gd := gd_of (in_t1 (List.mem_of_getElem? (i := 165) (by decide +kernel))) rfl
theorem lk_X4_19 : Cond.fieldLink RX4 19 RX4 (TX4 2).2.1 (TX4 2).2.2.1 ∈ lw_gd := gd_of (in_t1 (List.mem_of_getElem? (i := 166) (by decide +kernel))) rfl
theorem lk_X4_23 : Cond.fieldLink RX4 23 RX4 (TX4 3).2.1 (TX4 3).2.2.1 ∈ lw_gd := gd_of (in_t1 (List.mem_of_getElem? (i := 167) (by decide +kernel))) rfl
theorem lk_X4_26 : Cond.fieldLink RX4 26 RX4 (TX4 4).2.1 (TX4 4).2.2.1 ∈ lw_gd := gd_of (in_t1 (List.mem_of_getElem? (i := 168) (by decide +kernel))) rfl
theorem lk_X4_30 : Cond.fieldLink RX4 30 RX4 (TX4 5).2.1 (TX4 5).2.2.1 ∈ lw_gd := gd_of (in_t1 (List.mem_of_getElem? (i := 169) (by decide +kernel))) rfl
theorem lk_X4_191 : Cond.fieldLink RX4 191 RX4 (TX4 6).2.1 (TX4 6).2.2.1 ∈ lw_gd := gd_of (in_t1 (List.mem_of_getElem? (i := 170) (by decide +kernel))) rfl
theorem lk_X4_83 : Cond.fieldLink RX4 83 RX4 (TX4 7).2.1 (TX4 7).2.2.1 ∈ lw_gd := gd_of (in_t1 (List.mem_of_getElem? (i := 171) (by decide +kernel))) rfl
theorem ac_boolean : Cond.arrayClass .boolean ∈ lw_gd := gd_of (in_t1 (List.mem_of_getElem? (i := 189) (by decide +kernel))) rfl
theorem ac_char : Cond.arrayClass .char ∈ lw_gd := gd_of (in_t1 (List.mem_of_getElem? (i := 190) (by decide +kernel))) rfl
theorem ml_L_13 : Cond.methodLink RL 13 yX4_set ∈ lw_gd := gd_of (in_t1 (List.mem_of_getElem? (i := 191) (by decide +kernel))) rfl
theorem mi_X4_set : Cond.instanceMethod yX4_set ∈ lw_gd := gd_of (in_t1 (List.mem_of_getElem? (i := 192) (by decide +kernel))) rfl
theorem ms_X4_set : Cond.selects RX4 yX4_set yX4_set ∈ lw_gd := gd_of (in_t1 (List.mem_of_getElem? (i := 193) (by decide +kernel))) rfl
theorem mc_X4_set : Cond.code yX4_set cX4_set 4 (some .int) ∈ lw_gd := gd_of (in_t1 (List.mem_of_getElem? (i := 194) (by decide +kernel))) rfl
theorem lk_X4_34 : Cond.fieldLink RX4 34 RX4 "LEAST_VALUES" "[I" ∈ lw_gd := gd_of (in_t1 (List.mem_of_getElem? (i := 195) (by decide +kernel))) rfl
theorem ls_LEAST_VALUES : Cond.laysStatic RX4 "LEAST_VALUES" "[I" ∈ lw_tbl := in_t1 (List.mem_of_getElem? (i := 196) (by decide +kernel))
theorem lk_X4_38 : Cond.fieldLink RX4 38 RX4 "MOST_VALUES" "[I" ∈ lw_gd := gd_of (in_t1 (List.mem_of_getElem? (i := 197) (by decide +kernel))) rfl
theorem ls_MOST_VALUES : Cond.laysStatic RX4 "MOST_VALUES" "[I" ∈ lw_tbl := in_t1 (List.mem_of_getElem? (i := 198) (by decide +kernel))
theorem ml_X4_41 : Cond.methodLink RX4 41 yX4_remember ∈ lw_gd := gd_of (in_t1 (List.mem_of_getElem? (i := 199) (by decide +kernel))) rfl
theorem mi_X4_remember : Cond.instanceMethod yX4_remember ∈ lw_gd := gd_of (in_t1 (List.mem_of_getElem? (i := 201) (by decide +kernel))) rfl
theorem mc_X4_remember : Cond.code yX4_remember cX4_remember 3 none ∈ lw_gd := gd_of (in_t1 (List.mem_of_getElem? (i := 202) (by decide +kernel))) rfl
theorem ml_X4_194 : Cond.methodLink RX4 194 yX2_copyFrom ∈ lw_gd := gd_of (in_t1 (List.mem_of_getElem? (i := 203) (by decide +kernel))) rfl
theorem mi_X2_copyFrom : Cond.instanceMethod yX2_copyFrom ∈ lw_gd := gd_of (in_t1 (List.mem_of_getElem? (i := 204) (by decide +kernel))) rfl
theorem ms_X2_copyFrom : Cond.selects RX2 yX2_copyFrom yX2_copyFrom ∈ lw_gd := gd_of (in_t1 (List.mem_of_getElem? (i := 205) (by decide +kernel))) rfl
theorem mc_X2_copyFrom : Cond.code yX2_copyFrom cX2_copyFrom 3 none ∈ lw_gd := gd_of (in_t1 (List.mem_of_getElem? (i := 206) (by decide +kernel))) rfl
theorem ml_X2_46 : Cond.methodLink RX2 46 arraycopyName ∈ lw_gd := gd_of (in_t1 (List.mem_of_getElem? (i := 207) (by decide +kernel))) rfl
theorem mt_acopy : Cond.static arraycopyName ∈ lw_gd := gd_of (in_t1 (List.mem_of_getElem? (i := 208) (by decide +kernel))) rfl
theorem mn_acopy : Cond.native arraycopyName ∈ lw_gd := gd_of (in_t1 (List.mem_of_getElem? (i := 209) (by decide +kernel))) rfl
theorem ml_X2_52 : Cond.methodLink RX2 52 yX0_copyFrom ∈ lw_gd := gd_of (in_t1 (List.mem_of_getElem? (i := 210) (by decide +kernel))) rfl
theorem mi_X0_copyFrom : Cond.instanceMethod yX0_copyFrom ∈ lw_gd := gd_of (in_t1 (List.mem_of_getElem? (i := 211) (by decide +kernel))) rfl
theorem ms_X0_copyFrom : Cond.selects RX0 yX0_copyFrom yX0_copyFrom ∈ lw_gd := gd_of (in_t1 (List.mem_of_getElem? (i := 212) (by decide +kernel))) rfl
theorem mc_X0_copyFrom : Cond.code yX0_copyFrom cX0_copyFrom 2 none ∈ lw_gd := gd_of (in_t1 (List.mem_of_getElem? (i := 213) (by decide +kernel))) rfl
theorem ml_X2_60 : Cond.methodLink RX2 60 yX1_copyFrom ∈ lw_gd := gd_of (in_t1 (List.mem_of_getElem? (i := 214) (by decide +kernel))) rfl
theorem mi_X1_copyFrom : Cond.instanceMethod yX1_copyFrom ∈ lw_gd := gd_of (in_t1 (List.mem_of_getElem? (i := 215) (by decide +kernel))) rfl
theorem ms_X1_copyFrom : Cond.selects RX1 yX1_copyFrom yX1_copyFrom ∈ lw_gd := gd_of (in_t1 (List.mem_of_getElem? (i := 216) (by decide +kernel))) rfl
theorem mc_X1_copyFrom : Cond.code yX1_copyFrom cX1_copyFrom 2 none ∈ lw_gd := gd_of (in_t1 (List.mem_of_getElem? (i := 217) (by decide +kernel))) rfl
theorem ml_X2_63 : Cond.methodLink RX2 63 yX3_copyFrom ∈ lw_gd := gd_of (in_t1 (List.mem_of_getElem? (i := 218) (by decide +kernel))) rfl
theorem mi_X3_copyFrom : Cond.instanceMethod yX3_copyFrom ∈ lw_gd := gd_of (in_t1 (List.mem_of_getElem? (i := 219) (by decide +kernel))) rfl
theorem ms_X3_copyFrom : Cond.selects RX3 yX3_copyFrom yX3_copyFrom ∈ lw_gd := gd_of (in_t1 (List.mem_of_getElem? (i := 220) (by decide +kernel))) rfl
theorem mc_X3_copyFrom : Cond.code yX3_copyFrom cX3_copyFrom 2 none ∈ lw_gd := gd_of (in_t1 (List.mem_of_getElem? (i := 221) (by decide +kernel))) rfl
theorem ml_X3_19 : Cond.methodLink RX3 19 arraycopyName ∈ lw_gd := gd_of (in_t1 (List.mem_of_getElem? (i := 222) (by decide +kernel))) rfl
theorem ml_L_18 : Cond.methodLink RL 18 yX4_strike ∈ lw_gd := gd_of (in_t1 (List.mem_of_getElem? (i := 223) (by decide +kernel))) rfl
theorem mi_X4_strike : Cond.instanceMethod yX4_strike ∈ lw_gd := gd_of (in_t1 (List.mem_of_getElem? (i := 224) (by decide +kernel))) rfl
theorem ms_X4_strike : Cond.selects RX4 yX4_strike yX4_strike ∈ lw_gd := gd_of (in_t1 (List.mem_of_getElem? (i := 225) (by decide +kernel))) rfl
theorem mc_X4_strike : Cond.code yX4_strike cX4_strike 4 (some .int) ∈ lw_gd := gd_of (in_t1 (List.mem_of_getElem? (i := 226) (by decide +kernel))) rfl
theorem ml_X4_57 : Cond.methodLink RX4 57 yJ6_bitCount_0f7a4 ∈ lw_gd := gd_of (in_t1 (List.mem_of_getElem? (i := 227) (by decide +kernel))) rfl
theorem mt_J6_bitCount_0f7a4 : Cond.static yJ6_bitCount_0f7a4 ∈ lw_gd := gd_of (in_t1 (List.mem_of_getElem? (i := 228) (by decide +kernel))) rfl
theorem mc_J6_bitCount_0f7a4 : Cond.code yJ6_bitCount_0f7a4 cJ6_bitCount_0f7a4 1 (some .int) ∈ lw_gd := gd_of (in_t1 (List.mem_of_getElem? (i := 229) (by decide +kernel))) rfl
theorem lc_J6_265 : Cond.constant RJ6 265 1431655765 ∈ lw_gd := gd_of (in_t1 (List.mem_of_getElem? (i := 230) (by decide +kernel))) rfl
theorem lc_J6_266 : Cond.constant RJ6 266 858993459 ∈ lw_gd := gd_of (in_t1 (List.mem_of_getElem? (i := 231) (by decide +kernel))) rfl
theorem lc_J6_267 : Cond.constant RJ6 267 252645135 ∈ lw_gd := gd_of (in_t1 (List.mem_of_getElem? (i := 232) (by decide +kernel))) rfl
theorem ml_L_22 : Cond.methodLink RL 22 yX4_trade ∈ lw_gd := gd_of (in_t1 (List.mem_of_getElem? (i := 233) (by decide +kernel))) rfl
theorem mi_X4_trade : Cond.instanceMethod yX4_trade ∈ lw_gd := gd_of (in_t1 (List.mem_of_getElem? (i := 234) (by decide +kernel))) rfl
theorem ms_X4_trade : Cond.selects RX4 yX4_trade yX4_trade ∈ lw_gd := gd_of (in_t1 (List.mem_of_getElem? (i := 235) (by decide +kernel))) rfl
theorem mc_X4_trade : Cond.code yX4_trade cX4_trade 3 (some .int) ∈ lw_gd := gd_of (in_t1 (List.mem_of_getElem? (i := 236) (by decide +kernel))) rfl
theorem ml_X4_66 : Cond.methodLink RX4 66 yX2_tradeShifts ∈ lw_gd := gd_of (in_t1 (List.mem_of_getElem? (i := 237) (by decide +kernel))) rfl
theorem mi_X2_tradeShifts : Cond.instanceMethod yX2_tradeShifts ∈ lw_gd := gd_of (in_t1 (List.mem_of_getElem? (i := 238) (by decide +kernel))) rfl
theorem ms_X2_tradeShifts : Cond.selects RX2 yX2_tradeShifts yX2_tradeShifts ∈ lw_gd := gd_of (in_t1 (List.mem_of_getElem? (i := 239) (by decide +kernel))) rfl
theorem mc_X2_tradeShifts : Cond.code yX2_tradeShifts cX2_tradeShifts 4 none ∈ lw_gd := gd_of (in_t2 (List.mem_of_getElem? (i := 0) (by decide +kernel))) rfl
theorem ml_L_26 : Cond.methodLink RL 26 yX4_read ∈ lw_gd := gd_of (in_t2 (List.mem_of_getElem? (i := 1) (by decide +kernel))) rfl
theorem mi_X4_read : Cond.instanceMethod yX4_read ∈ lw_gd := gd_of (in_t2 (List.mem_of_getElem? (i := 2) (by decide +kernel))) rfl
theorem ms_X4_read : Cond.selects RX4 yX4_read yX4_read ∈ lw_gd := gd_of (in_t2 (List.mem_of_getElem? (i := 3) (by decide +kernel))) rfl
theorem mc_X4_read : Cond.code yX4_read cX4_read 1 (some .int) ∈ lw_gd := gd_of (in_t2 (List.mem_of_getElem? (i := 4) (by decide +kernel))) rfl
theorem ml_X4_70 : Cond.methodLink RX4 70 yX4_faultOfPad ∈ lw_gd := gd_of (in_t2 (List.mem_of_getElem? (i := 5) (by decide +kernel))) rfl
theorem mi_X4_faultOfPad : Cond.instanceMethod yX4_faultOfPad ∈ lw_gd := gd_of (in_t2 (List.mem_of_getElem? (i := 7) (by decide +kernel))) rfl
theorem mc_X4_faultOfPad : Cond.code yX4_faultOfPad cX4_faultOfPad 3 (some .int) ∈ lw_gd := gd_of (in_t2 (List.mem_of_getElem? (i := 8) (by decide +kernel))) rfl
theorem ml_X4_213 : Cond.methodLink RX4 213 yX4_stageBehind ∈ lw_gd := gd_of (in_t2 (List.mem_of_getElem? (i := 9) (by decide +kernel))) rfl
theorem mt_X4_stageBehind : Cond.static yX4_stageBehind ∈ lw_gd := gd_of (in_t2 (List.mem_of_getElem? (i := 10) (by decide +kernel))) rfl
theorem mc_X4_stageBehind : Cond.code yX4_stageBehind cX4_stageBehind 2 (some .int) ∈ lw_gd := gd_of (in_t2 (List.mem_of_getElem? (i := 11) (by decide +kernel))) rfl
theorem ml_X4_217 : Cond.methodLink RX4 217 yX4_isWord ∈ lw_gd := gd_of (in_t2 (List.mem_of_getElem? (i := 12) (by decide +kernel))) rfl
theorem mt_X4_isWord : Cond.static yX4_isWord ∈ lw_gd := gd_of (in_t2 (List.mem_of_getElem? (i := 13) (by decide +kernel))) rfl
theorem mc_X4_isWord : Cond.code yX4_isWord cX4_isWord 1 (some .boolean) ∈ lw_gd := gd_of (in_t2 (List.mem_of_getElem? (i := 14) (by decide +kernel))) rfl
theorem ml_X4_77 : Cond.methodLink RX4 77 yX4_lettersOfPad ∈ lw_gd := gd_of (in_t2 (List.mem_of_getElem? (i := 15) (by decide +kernel))) rfl
theorem mi_X4_lettersOfPad : Cond.instanceMethod yX4_lettersOfPad ∈ lw_gd := gd_of (in_t2 (List.mem_of_getElem? (i := 17) (by decide +kernel))) rfl
theorem mc_X4_lettersOfPad : Cond.code yX4_lettersOfPad cX4_lettersOfPad 3 (some .int) ∈ lw_gd := gd_of (in_t2 (List.mem_of_getElem? (i := 18) (by decide +kernel))) rfl
theorem ml_X4_80 : Cond.methodLink RX4 80 yX4_writeLettersOfPad ∈ lw_gd := gd_of (in_t2 (List.mem_of_getElem? (i := 19) (by decide +kernel))) rfl
theorem mi_X4_writeLettersOfPad : Cond.instanceMethod yX4_writeLettersOfPad ∈ lw_gd := gd_of (in_t2 (List.mem_of_getElem? (i := 21) (by decide +kernel))) rfl
theorem mc_X4_writeLettersOfPad : Cond.code yX4_writeLettersOfPad cX4_writeLettersOfPad 4 none ∈ lw_gd := gd_of (in_t2 (List.mem_of_getElem? (i := 22) (by decide +kernel))) rfl
theorem ml_X4_221 : Cond.methodLink RX4 221 yX1_addWord ∈ lw_gd := gd_of (in_t2 (List.mem_of_getElem? (i := 23) (by decide +kernel))) rfl
theorem mi_X1_addWord : Cond.instanceMethod yX1_addWord ∈ lw_gd := gd_of (in_t2 (List.mem_of_getElem? (i := 24) (by decide +kernel))) rfl
theorem ms_X1_addWord : Cond.selects RX1 yX1_addWord yX1_addWord ∈ lw_gd := gd_of (in_t2 (List.mem_of_getElem? (i := 25) (by decide +kernel))) rfl
theorem mc_X1_addWord : Cond.code yX1_addWord cX1_addWord 2 none ∈ lw_gd := gd_of (in_t2 (List.mem_of_getElem? (i := 26) (by decide +kernel))) rfl
theorem ml_X4_224 : Cond.methodLink RX4 224 yX2_sendNewest ∈ lw_gd := gd_of (in_t2 (List.mem_of_getElem? (i := 27) (by decide +kernel))) rfl
theorem mi_X2_sendNewest : Cond.instanceMethod yX2_sendNewest ∈ lw_gd := gd_of (in_t2 (List.mem_of_getElem? (i := 28) (by decide +kernel))) rfl
theorem ms_X2_sendNewest : Cond.selects RX2 yX2_sendNewest yX2_sendNewest ∈ lw_gd := gd_of (in_t2 (List.mem_of_getElem? (i := 29) (by decide +kernel))) rfl
theorem mc_X2_sendNewest : Cond.code yX2_sendNewest cX2_sendNewest 2 none ∈ lw_gd := gd_of (in_t2 (List.mem_of_getElem? (i := 30) (by decide +kernel))) rfl
theorem ml_X2_76 : Cond.methodLink RX2 76 yX3_append ∈ lw_gd := gd_of (in_t2 (List.mem_of_getElem? (i := 31) (by decide +kernel))) rfl
theorem mi_X3_append : Cond.instanceMethod yX3_append ∈ lw_gd := gd_of (in_t2 (List.mem_of_getElem? (i := 32) (by decide +kernel))) rfl
theorem ms_X3_append : Cond.selects RX3 yX3_append yX3_append ∈ lw_gd := gd_of (in_t2 (List.mem_of_getElem? (i := 33) (by decide +kernel))) rfl
theorem mc_X3_append : Cond.code yX3_append cX3_append 2 none ∈ lw_gd := gd_of (in_t2 (List.mem_of_getElem? (i := 34) (by decide +kernel))) rfl
theorem ml_X4_227 : Cond.methodLink RX4 227 yX2_beginLetter ∈ lw_gd := gd_of (in_t2 (List.mem_of_getElem? (i := 35) (by decide +kernel))) rfl
theorem mi_X2_beginLetter : Cond.instanceMethod yX2_beginLetter ∈ lw_gd := gd_of (in_t2 (List.mem_of_getElem? (i := 36) (by decide +kernel))) rfl
theorem ms_X2_beginLetter : Cond.selects RX2 yX2_beginLetter yX2_beginLetter ∈ lw_gd := gd_of (in_t2 (List.mem_of_getElem? (i := 37) (by decide +kernel))) rfl
theorem mc_X2_beginLetter : Cond.code yX2_beginLetter cX2_beginLetter 3 (some (FieldType.object "CensoredThreads$Letter")) ∈ lw_gd := gd_of (in_t2 (List.mem_of_getElem? (i := 38) (by decide +kernel))) rfl
theorem ml_X2_69 : Cond.methodLink RX2 69 yX1_begin ∈ lw_gd := gd_of (in_t2 (List.mem_of_getElem? (i := 39) (by decide +kernel))) rfl
theorem mi_X1_begin : Cond.instanceMethod yX1_begin ∈ lw_gd := gd_of (in_t2 (List.mem_of_getElem? (i := 40) (by decide +kernel))) rfl
theorem ms_X1_begin : Cond.selects RX1 yX1_begin yX1_begin ∈ lw_gd := gd_of (in_t2 (List.mem_of_getElem? (i := 41) (by decide +kernel))) rfl
theorem mc_X1_begin : Cond.code yX1_begin cX1_begin 3 none ∈ lw_gd := gd_of (in_t2 (List.mem_of_getElem? (i := 42) (by decide +kernel))) rfl
theorem ml_L_31 : Cond.methodLink RL 31 yX4_burn ∈ lw_gd := gd_of (in_t2 (List.mem_of_getElem? (i := 43) (by decide +kernel))) rfl
theorem mi_X4_burn : Cond.instanceMethod yX4_burn ∈ lw_gd := gd_of (in_t2 (List.mem_of_getElem? (i := 44) (by decide +kernel))) rfl
theorem ms_X4_burn : Cond.selects RX4 yX4_burn yX4_burn ∈ lw_gd := gd_of (in_t2 (List.mem_of_getElem? (i := 45) (by decide +kernel))) rfl
theorem mc_X4_burn : Cond.code yX4_burn cX4_burn 2 (some .int) ∈ lw_gd := gd_of (in_t2 (List.mem_of_getElem? (i := 46) (by decide +kernel))) rfl
theorem ml_X4_86 : Cond.methodLink RX4 86 yX2_hasLetter ∈ lw_gd := gd_of (in_t2 (List.mem_of_getElem? (i := 47) (by decide +kernel))) rfl
theorem mi_X2_hasLetter : Cond.instanceMethod yX2_hasLetter ∈ lw_gd := gd_of (in_t2 (List.mem_of_getElem? (i := 48) (by decide +kernel))) rfl
theorem ms_X2_hasLetter : Cond.selects RX2 yX2_hasLetter yX2_hasLetter ∈ lw_gd := gd_of (in_t2 (List.mem_of_getElem? (i := 49) (by decide +kernel))) rfl
theorem mc_X2_hasLetter : Cond.code yX2_hasLetter cX2_hasLetter 2 (some .boolean) ∈ lw_gd := gd_of (in_t2 (List.mem_of_getElem? (i := 50) (by decide +kernel))) rfl
theorem ml_X4_99 : Cond.methodLink RX4 99 yX2_burnWaiting ∈ lw_gd := gd_of (in_t2 (List.mem_of_getElem? (i := 51) (by decide +kernel))) rfl
theorem mi_X2_burnWaiting : Cond.instanceMethod yX2_burnWaiting ∈ lw_gd := gd_of (in_t2 (List.mem_of_getElem? (i := 52) (by decide +kernel))) rfl
theorem ms_X2_burnWaiting : Cond.selects RX2 yX2_burnWaiting yX2_burnWaiting ∈ lw_gd := gd_of (in_t2 (List.mem_of_getElem? (i := 53) (by decide +kernel))) rfl
theorem mc_X2_burnWaiting : Cond.code yX2_burnWaiting cX2_burnWaiting 2 none ∈ lw_gd := gd_of (in_t2 (List.mem_of_getElem? (i := 54) (by decide +kernel))) rfl
theorem ml_X2_83 : Cond.methodLink RX2 83 yX3_takeOut ∈ lw_gd := gd_of (in_t2 (List.mem_of_getElem? (i := 55) (by decide +kernel))) rfl
theorem mi_X3_takeOut : Cond.instanceMethod yX3_takeOut ∈ lw_gd := gd_of (in_t2 (List.mem_of_getElem? (i := 56) (by decide +kernel))) rfl
theorem ms_X3_takeOut : Cond.selects RX3 yX3_takeOut yX3_takeOut ∈ lw_gd := gd_of (in_t2 (List.mem_of_getElem? (i := 57) (by decide +kernel))) rfl
theorem mc_X3_takeOut : Cond.code yX3_takeOut cX3_takeOut 4 none ∈ lw_gd := gd_of (in_t2 (List.mem_of_getElem? (i := 58) (by decide +kernel))) rfl
theorem ml_L_36 : Cond.methodLink RL 36 yX4_pass ∈ lw_gd := gd_of (in_t2 (List.mem_of_getElem? (i := 59) (by decide +kernel))) rfl
theorem mi_X4_pass : Cond.instanceMethod yX4_pass ∈ lw_gd := gd_of (in_t2 (List.mem_of_getElem? (i := 60) (by decide +kernel))) rfl
theorem ms_X4_pass : Cond.selects RX4 yX4_pass yX4_pass ∈ lw_gd := gd_of (in_t2 (List.mem_of_getElem? (i := 61) (by decide +kernel))) rfl
theorem mc_X4_pass : Cond.code yX4_pass cX4_pass 2 (some .int) ∈ lw_gd := gd_of (in_t2 (List.mem_of_getElem? (i := 62) (by decide +kernel))) rfl
theorem ml_X4_109 : Cond.methodLink RX4 109 yX2_passWeeks ∈ lw_gd := gd_of (in_t2 (List.mem_of_getElem? (i := 63) (by decide +kernel))) rfl
theorem mi_X2_passWeeks : Cond.instanceMethod yX2_passWeeks ∈ lw_gd := gd_of (in_t2 (List.mem_of_getElem? (i := 64) (by decide +kernel))) rfl
theorem ms_X2_passWeeks : Cond.selects RX2 yX2_passWeeks yX2_passWeeks ∈ lw_gd := gd_of (in_t2 (List.mem_of_getElem? (i := 65) (by decide +kernel))) rfl
theorem mc_X2_passWeeks : Cond.code yX2_passWeeks cX2_passWeeks 4 (some .int) ∈ lw_gd := gd_of (in_t2 (List.mem_of_getElem? (i := 66) (by decide +kernel))) rfl
theorem ml_X2_145 : Cond.methodLink RX2 145 yX2_passWeek ∈ lw_gd := gd_of (in_t2 (List.mem_of_getElem? (i := 67) (by decide +kernel))) rfl
theorem mi_X2_passWeek : Cond.instanceMethod yX2_passWeek ∈ lw_gd := gd_of (in_t2 (List.mem_of_getElem? (i := 68) (by decide +kernel))) rfl
theorem ms_X2_passWeek : Cond.selects RX2 yX2_passWeek yX2_passWeek ∈ lw_gd := gd_of (in_t2 (List.mem_of_getElem? (i := 69) (by decide +kernel))) rfl
theorem mc_X2_passWeek : Cond.code yX2_passWeek cX2_passWeek 3 (some .int) ∈ lw_gd := gd_of (in_t2 (List.mem_of_getElem? (i := 70) (by decide +kernel))) rfl
theorem ml_X2_148 : Cond.methodLink RX2 148 yX2_judgeWeek ∈ lw_gd := gd_of (in_t2 (List.mem_of_getElem? (i := 71) (by decide +kernel))) rfl
theorem mi_X2_judgeWeek : Cond.instanceMethod yX2_judgeWeek ∈ lw_gd := gd_of (in_t2 (List.mem_of_getElem? (i := 72) (by decide +kernel))) rfl
theorem ms_X2_judgeWeek : Cond.selects RX2 yX2_judgeWeek yX2_judgeWeek ∈ lw_gd := gd_of (in_t2 (List.mem_of_getElem? (i := 73) (by decide +kernel))) rfl
theorem mc_X2_judgeWeek : Cond.code yX2_judgeWeek cX2_judgeWeek 2 none ∈ lw_gd := gd_of (in_t2 (List.mem_of_getElem? (i := 74) (by decide +kernel))) rfl
theorem ml_X2_102 : Cond.methodLink RX2 102 yX2_findHeads ∈ lw_gd := gd_of (in_t2 (List.mem_of_getElem? (i := 75) (by decide +kernel))) rfl
theorem mi_X2_findHeads : Cond.instanceMethod yX2_findHeads ∈ lw_gd := gd_of (in_t2 (List.mem_of_getElem? (i := 76) (by decide +kernel))) rfl
theorem ms_X2_findHeads : Cond.selects RX2 yX2_findHeads yX2_findHeads ∈ lw_gd := gd_of (in_t2 (List.mem_of_getElem? (i := 77) (by decide +kernel))) rfl
theorem mc_X2_findHeads : Cond.code yX2_findHeads cX2_findHeads 2 none ∈ lw_gd := gd_of (in_t2 (List.mem_of_getElem? (i := 78) (by decide +kernel))) rfl
theorem ml_X2_108 : Cond.methodLink RX2 108 yX2_findHeadsIn ∈ lw_gd := gd_of (in_t2 (List.mem_of_getElem? (i := 79) (by decide +kernel))) rfl
theorem mi_X2_findHeadsIn : Cond.instanceMethod yX2_findHeadsIn ∈ lw_gd := gd_of (in_t2 (List.mem_of_getElem? (i := 80) (by decide +kernel))) rfl
theorem ms_X2_findHeadsIn : Cond.selects RX2 yX2_findHeadsIn yX2_findHeadsIn ∈ lw_gd := gd_of (in_t2 (List.mem_of_getElem? (i := 81) (by decide +kernel))) rfl
theorem mc_X2_findHeadsIn : Cond.code yX2_findHeadsIn cX2_findHeadsIn 5 none ∈ lw_gd := gd_of (in_t2 (List.mem_of_getElem? (i := 82) (by decide +kernel))) rfl
theorem ml_X2_117 : Cond.methodLink RX2 117 yX2_judgeRow ∈ lw_gd := gd_of (in_t2 (List.mem_of_getElem? (i := 83) (by decide +kernel))) rfl
theorem mi_X2_judgeRow : Cond.instanceMethod yX2_judgeRow ∈ lw_gd := gd_of (in_t2 (List.mem_of_getElem? (i := 84) (by decide +kernel))) rfl
theorem ms_X2_judgeRow : Cond.selects RX2 yX2_judgeRow yX2_judgeRow ∈ lw_gd := gd_of (in_t2 (List.mem_of_getElem? (i := 85) (by decide +kernel))) rfl
theorem mc_X2_judgeRow : Cond.code yX2_judgeRow cX2_judgeRow 8 none ∈ lw_gd := gd_of (in_t2 (List.mem_of_getElem? (i := 86) (by decide +kernel))) rfl
theorem ml_X2_120 : Cond.methodLink RX2 120 yX2_censorNumber ∈ lw_gd := gd_of (in_t2 (List.mem_of_getElem? (i := 87) (by decide +kernel))) rfl
theorem mi_X2_censorNumber : Cond.instanceMethod yX2_censorNumber ∈ lw_gd := gd_of (in_t2 (List.mem_of_getElem? (i := 88) (by decide +kernel))) rfl
theorem ms_X2_censorNumber : Cond.selects RX2 yX2_censorNumber yX2_censorNumber ∈ lw_gd := gd_of (in_t2 (List.mem_of_getElem? (i := 89) (by decide +kernel))) rfl
theorem mc_X2_censorNumber : Cond.code yX2_censorNumber cX2_censorNumber 3 (some .int) ∈ lw_gd := gd_of (in_t2 (List.mem_of_getElem? (i := 90) (by decide +kernel))) rfl
theorem ml_X2_129 : Cond.methodLink RX2 129 yX2_fateIfRead ∈ lw_gd := gd_of (in_t2 (List.mem_of_getElem? (i := 91) (by decide +kernel))) rfl
theorem mi_X2_fateIfRead : Cond.instanceMethod yX2_fateIfRead ∈ lw_gd := gd_of (in_t2 (List.mem_of_getElem? (i := 92) (by decide +kernel))) rfl
theorem ms_X2_fateIfRead : Cond.selects RX2 yX2_fateIfRead yX2_fateIfRead ∈ lw_gd := gd_of (in_t2 (List.mem_of_getElem? (i := 93) (by decide +kernel))) rfl
theorem mc_X2_fateIfRead : Cond.code yX2_fateIfRead cX2_fateIfRead 3 (some .int) ∈ lw_gd := gd_of (in_t2 (List.mem_of_getElem? (i := 94) (by decide +kernel))) rfl
theorem ml_X2_133 : Cond.methodLink RX2 133 yX1_placesOf ∈ lw_gd := gd_of (in_t2 (List.mem_of_getElem? (i := 95) (by decide +kernel))) rfl
theorem mi_X1_placesOf : Cond.instanceMethod yX1_placesOf ∈ lw_gd := gd_of (in_t2 (List.mem_of_getElem? (i := 96) (by decide +kernel))) rfl
theorem ms_X1_placesOf : Cond.selects RX1 yX1_placesOf yX1_placesOf ∈ lw_gd := gd_of (in_t2 (List.mem_of_getElem? (i := 97) (by decide +kernel))) rfl
theorem mc_X1_placesOf : Cond.code yX1_placesOf cX1_placesOf 7 (some .int) ∈ lw_gd := gd_of (in_t2 (List.mem_of_getElem? (i := 98) (by decide +kernel))) rfl
theorem lc_X1_49 : Cond.constantLong RX1 49 255 ∈ lw_gd := gd_of (in_t2 (List.mem_of_getElem? (i := 99) (by decide +kernel))) rfl
theorem ml_X2_137 : Cond.methodLink RX2 137 yJ6_bitCount_0f7a4 ∈ lw_gd := gd_of (in_t2 (List.mem_of_getElem? (i := 100) (by decide +kernel))) rfl
theorem ml_X2_151 : Cond.methodLink RX2 151 yX2_readRow ∈ lw_gd := gd_of (in_t2 (List.mem_of_getElem? (i := 101) (by decide +kernel))) rfl
theorem mi_X2_readRow : Cond.instanceMethod yX2_readRow ∈ lw_gd := gd_of (in_t2 (List.mem_of_getElem? (i := 102) (by decide +kernel))) rfl
theorem ms_X2_readRow : Cond.selects RX2 yX2_readRow yX2_readRow ∈ lw_gd := gd_of (in_t2 (List.mem_of_getElem? (i := 103) (by decide +kernel))) rfl
theorem mc_X2_readRow : Cond.code yX2_readRow cX2_readRow 7 (some .int) ∈ lw_gd := gd_of (in_t2 (List.mem_of_getElem? (i := 104) (by decide +kernel))) rfl
theorem ml_X2_154 : Cond.methodLink RX2 154 yX2_letThrough ∈ lw_gd := gd_of (in_t2 (List.mem_of_getElem? (i := 105) (by decide +kernel))) rfl
theorem mi_X2_letThrough : Cond.instanceMethod yX2_letThrough ∈ lw_gd := gd_of (in_t2 (List.mem_of_getElem? (i := 106) (by decide +kernel))) rfl
theorem ms_X2_letThrough : Cond.selects RX2 yX2_letThrough yX2_letThrough ∈ lw_gd := gd_of (in_t2 (List.mem_of_getElem? (i := 107) (by decide +kernel))) rfl
theorem mc_X2_letThrough : Cond.code yX2_letThrough cX2_letThrough 3 none ∈ lw_gd := gd_of (in_t2 (List.mem_of_getElem? (i := 108) (by decide +kernel))) rfl
theorem ml_X2_98 : Cond.methodLink RX2 98 yX1_struckCount ∈ lw_gd := gd_of (in_t2 (List.mem_of_getElem? (i := 109) (by decide +kernel))) rfl
theorem mi_X1_struckCount : Cond.instanceMethod yX1_struckCount ∈ lw_gd := gd_of (in_t2 (List.mem_of_getElem? (i := 110) (by decide +kernel))) rfl
theorem ms_X1_struckCount : Cond.selects RX1 yX1_struckCount yX1_struckCount ∈ lw_gd := gd_of (in_t2 (List.mem_of_getElem? (i := 111) (by decide +kernel))) rfl
theorem mc_X1_struckCount : Cond.code yX1_struckCount cX1_struckCount 1 (some .int) ∈ lw_gd := gd_of (in_t2 (List.mem_of_getElem? (i := 112) (by decide +kernel))) rfl
theorem ml_X1_43 : Cond.methodLink RX1 43 yJ6_bitCount_0f7a4 ∈ lw_gd := gd_of (in_t2 (List.mem_of_getElem? (i := 113) (by decide +kernel))) rfl
theorem ml_X2_158 : Cond.methodLink RX2 158 yX2_turnBack ∈ lw_gd := gd_of (in_t2 (List.mem_of_getElem? (i := 114) (by decide +kernel))) rfl
theorem mi_X2_turnBack : Cond.instanceMethod yX2_turnBack ∈ lw_gd := gd_of (in_t2 (List.mem_of_getElem? (i := 115) (by decide +kernel))) rfl
theorem ms_X2_turnBack : Cond.selects RX2 yX2_turnBack yX2_turnBack ∈ lw_gd := gd_of (in_t2 (List.mem_of_getElem? (i := 116) (by decide +kernel))) rfl
theorem mc_X2_turnBack : Cond.code yX2_turnBack cX2_turnBack 3 none ∈ lw_gd := gd_of (in_t2 (List.mem_of_getElem? (i := 117) (by decide +kernel))) rfl
theorem ml_X2_161 : Cond.methodLink RX2 161 yX2_appendIfFate ∈ lw_gd := gd_of (in_t2 (List.mem_of_getElem? (i := 118) (by decide +kernel))) rfl
theorem mi_X2_appendIfFate : Cond.instanceMethod yX2_appendIfFate ∈ lw_gd := gd_of (in_t2 (List.mem_of_getElem? (i := 119) (by decide +kernel))) rfl
theorem ms_X2_appendIfFate : Cond.selects RX2 yX2_appendIfFate yX2_appendIfFate ∈ lw_gd := gd_of (in_t2 (List.mem_of_getElem? (i := 120) (by decide +kernel))) rfl
theorem mc_X2_appendIfFate : Cond.code yX2_appendIfFate cX2_appendIfFate 6 none ∈ lw_gd := gd_of (in_t2 (List.mem_of_getElem? (i := 121) (by decide +kernel))) rfl
theorem ml_L_40 : Cond.methodLink RL 40 yX4_letter ∈ lw_gd := gd_of (in_t2 (List.mem_of_getElem? (i := 122) (by decide +kernel))) rfl
theorem mi_X4_letter : Cond.instanceMethod yX4_letter ∈ lw_gd := gd_of (in_t2 (List.mem_of_getElem? (i := 123) (by decide +kernel))) rfl
theorem ms_X4_letter : Cond.selects RX4 yX4_letter yX4_letter ∈ lw_gd := gd_of (in_t2 (List.mem_of_getElem? (i := 124) (by decide +kernel))) rfl
theorem mc_X4_letter : Cond.code yX4_letter cX4_letter 4 (some .int) ∈ lw_gd := gd_of (in_t2 (List.mem_of_getElem? (i := 125) (by decide +kernel))) rfl
theorem ml_X4_122 : Cond.methodLink RX4 122 yX3_placeOf ∈ lw_gd := gd_of (in_t2 (List.mem_of_getElem? (i := 126) (by decide +kernel))) rfl
theorem mi_X3_placeOf : Cond.instanceMethod yX3_placeOf ∈ lw_gd := gd_of (in_t2 (List.mem_of_getElem? (i := 127) (by decide +kernel))) rfl
theorem ms_X3_placeOf : Cond.selects RX3 yX3_placeOf yX3_placeOf ∈ lw_gd := gd_of (in_t2 (List.mem_of_getElem? (i := 128) (by decide +kernel))) rfl
theorem mc_X3_placeOf : Cond.code yX3_placeOf cX3_placeOf 3 (some .int) ∈ lw_gd := gd_of (in_t2 (List.mem_of_getElem? (i := 129) (by decide +kernel))) rfl
theorem ml_X4_130 : Cond.methodLink RX4 130 yX1_struckCount ∈ lw_gd := gd_of (in_t2 (List.mem_of_getElem? (i := 130) (by decide +kernel))) rfl
theorem ml_X4_139 : Cond.methodLink RX4 139 yX2_aheadOf ∈ lw_gd := gd_of (in_t2 (List.mem_of_getElem? (i := 131) (by decide +kernel))) rfl
theorem mi_X2_aheadOf : Cond.instanceMethod yX2_aheadOf ∈ lw_gd := gd_of (in_t2 (List.mem_of_getElem? (i := 132) (by decide +kernel))) rfl
theorem ms_X2_aheadOf : Cond.selects RX2 yX2_aheadOf yX2_aheadOf ∈ lw_gd := gd_of (in_t2 (List.mem_of_getElem? (i := 133) (by decide +kernel))) rfl
theorem mc_X2_aheadOf : Cond.code yX2_aheadOf cX2_aheadOf 3 (some .int) ∈ lw_gd := gd_of (in_t2 (List.mem_of_getElem? (i := 134) (by decide +kernel))) rfl
theorem ml_L_44 : Cond.methodLink RL 44 yX4_word ∈ lw_gd := gd_of (in_t2 (List.mem_of_getElem? (i := 135) (by decide +kernel))) rfl
theorem mi_X4_word : Cond.instanceMethod yX4_word ∈ lw_gd := gd_of (in_t2 (List.mem_of_getElem? (i := 136) (by decide +kernel))) rfl
theorem ms_X4_word : Cond.selects RX4 yX4_word yX4_word ∈ lw_gd := gd_of (in_t2 (List.mem_of_getElem? (i := 137) (by decide +kernel))) rfl
theorem mc_X4_word : Cond.code yX4_word cX4_word 4 (some .int) ∈ lw_gd := gd_of (in_t2 (List.mem_of_getElem? (i := 138) (by decide +kernel))) rfl
theorem ml_X4_145 : Cond.methodLink RX4 145 yX1_isStruckAt ∈ lw_gd := gd_of (in_t2 (List.mem_of_getElem? (i := 139) (by decide +kernel))) rfl
theorem mi_X1_isStruckAt : Cond.instanceMethod yX1_isStruckAt ∈ lw_gd := gd_of (in_t2 (List.mem_of_getElem? (i := 140) (by decide +kernel))) rfl
theorem ms_X1_isStruckAt : Cond.selects RX1 yX1_isStruckAt yX1_isStruckAt ∈ lw_gd := gd_of (in_t2 (List.mem_of_getElem? (i := 141) (by decide +kernel))) rfl
theorem mc_X1_isStruckAt : Cond.code yX1_isStruckAt cX1_isStruckAt 2 (some .boolean) ∈ lw_gd := gd_of (in_t2 (List.mem_of_getElem? (i := 142) (by decide +kernel))) rfl
theorem ml_X4_148 : Cond.methodLink RX4 148 yX1_codeAt ∈ lw_gd := gd_of (in_t2 (List.mem_of_getElem? (i := 143) (by decide +kernel))) rfl
theorem mi_X1_codeAt : Cond.instanceMethod yX1_codeAt ∈ lw_gd := gd_of (in_t2 (List.mem_of_getElem? (i := 144) (by decide +kernel))) rfl
theorem ms_X1_codeAt : Cond.selects RX1 yX1_codeAt yX1_codeAt ∈ lw_gd := gd_of (in_t2 (List.mem_of_getElem? (i := 145) (by decide +kernel))) rfl
theorem mc_X1_codeAt : Cond.code yX1_codeAt cX1_codeAt 2 (some .int) ∈ lw_gd := gd_of (in_t2 (List.mem_of_getElem? (i := 146) (by decide +kernel))) rfl
theorem ml_L_48 : Cond.methodLink RL 48 yX4_why ∈ lw_gd := gd_of (in_t2 (List.mem_of_getElem? (i := 147) (by decide +kernel))) rfl
theorem mi_X4_why : Cond.instanceMethod yX4_why ∈ lw_gd := gd_of (in_t2 (List.mem_of_getElem? (i := 148) (by decide +kernel))) rfl
theorem ms_X4_why : Cond.selects RX4 yX4_why yX4_why ∈ lw_gd := gd_of (in_t2 (List.mem_of_getElem? (i := 149) (by decide +kernel))) rfl
theorem mc_X4_why : Cond.code yX4_why cX4_why 3 (some .int) ∈ lw_gd := gd_of (in_t2 (List.mem_of_getElem? (i := 150) (by decide +kernel))) rfl
theorem ml_X4_151 : Cond.methodLink RX4 151 yX2_judgeWeek ∈ lw_gd := gd_of (in_t2 (List.mem_of_getElem? (i := 151) (by decide +kernel))) rfl
theorem ml_L_52 : Cond.methodLink RL 52 yX4_censor ∈ lw_gd := gd_of (in_t2 (List.mem_of_getElem? (i := 152) (by decide +kernel))) rfl
theorem mi_X4_censor : Cond.instanceMethod yX4_censor ∈ lw_gd := gd_of (in_t2 (List.mem_of_getElem? (i := 153) (by decide +kernel))) rfl
theorem ms_X4_censor : Cond.selects RX4 yX4_censor yX4_censor ∈ lw_gd := gd_of (in_t2 (List.mem_of_getElem? (i := 154) (by decide +kernel))) rfl
theorem mc_X4_censor : Cond.code yX4_censor cX4_censor 4 (some .int) ∈ lw_gd := gd_of (in_t2 (List.mem_of_getElem? (i := 155) (by decide +kernel))) rfl
theorem ml_X4_157 : Cond.methodLink RX4 157 yX2_shiftsOf ∈ lw_gd := gd_of (in_t2 (List.mem_of_getElem? (i := 156) (by decide +kernel))) rfl
theorem mi_X2_shiftsOf : Cond.instanceMethod yX2_shiftsOf ∈ lw_gd := gd_of (in_t2 (List.mem_of_getElem? (i := 157) (by decide +kernel))) rfl
theorem ms_X2_shiftsOf : Cond.selects RX2 yX2_shiftsOf yX2_shiftsOf ∈ lw_gd := gd_of (in_t2 (List.mem_of_getElem? (i := 158) (by decide +kernel))) rfl
theorem mc_X2_shiftsOf : Cond.code yX2_shiftsOf cX2_shiftsOf 4 (some .int) ∈ lw_gd := gd_of (in_t2 (List.mem_of_getElem? (i := 159) (by decide +kernel))) rfl
theorem ml_L_56 : Cond.methodLink RL 56 yX4_onShift ∈ lw_gd := gd_of (in_t2 (List.mem_of_getElem? (i := 160) (by decide +kernel))) rfl
theorem mi_X4_onShift : Cond.instanceMethod yX4_onShift ∈ lw_gd := gd_of (in_t2 (List.mem_of_getElem? (i := 161) (by decide +kernel))) rfl
theorem ms_X4_onShift : Cond.selects RX4 yX4_onShift yX4_onShift ∈ lw_gd := gd_of (in_t2 (List.mem_of_getElem? (i := 162) (by decide +kernel))) rfl
theorem mc_X4_onShift : Cond.code yX4_onShift cX4_onShift 3 (some .int) ∈ lw_gd := gd_of (in_t2 (List.mem_of_getElem? (i := 163) (by decide +kernel))) rfl
theorem ml_X4_169 : Cond.methodLink RX4 169 yX2_censorNumber ∈ lw_gd := gd_of (in_t2 (List.mem_of_getElem? (i := 164) (by decide +kernel))) rfl
theorem ml_L_60 : Cond.methodLink RL 60 yX4_count ∈ lw_gd := gd_of (in_t2 (List.mem_of_getElem? (i := 165) (by decide +kernel))) rfl
theorem mi_X4_count : Cond.instanceMethod yX4_count ∈ lw_gd := gd_of (in_t2 (List.mem_of_getElem? (i := 166) (by decide +kernel))) rfl
theorem ms_X4_count : Cond.selects RX4 yX4_count yX4_count ∈ lw_gd := gd_of (in_t2 (List.mem_of_getElem? (i := 167) (by decide +kernel))) rfl
theorem mc_X4_count : Cond.code yX4_count cX4_count 2 (some .int) ∈ lw_gd := gd_of (in_t2 (List.mem_of_getElem? (i := 168) (by decide +kernel))) rfl
theorem ml_X4_173 : Cond.methodLink RX4 173 yX2_lettersThatAre ∈ lw_gd := gd_of (in_t2 (List.mem_of_getElem? (i := 169) (by decide +kernel))) rfl
theorem mi_X2_lettersThatAre : Cond.instanceMethod yX2_lettersThatAre ∈ lw_gd := gd_of (in_t2 (List.mem_of_getElem? (i := 170) (by decide +kernel))) rfl
theorem ms_X2_lettersThatAre : Cond.selects RX2 yX2_lettersThatAre yX2_lettersThatAre ∈ lw_gd := gd_of (in_t2 (List.mem_of_getElem? (i := 171) (by decide +kernel))) rfl
theorem mc_X2_lettersThatAre : Cond.code yX2_lettersThatAre cX2_lettersThatAre 4 (some .int) ∈ lw_gd := gd_of (in_t2 (List.mem_of_getElem? (i := 172) (by decide +kernel))) rfl
theorem ml_X4_179 : Cond.methodLink RX4 179 yX2_allDelays ∈ lw_gd := gd_of (in_t2 (List.mem_of_getElem? (i := 173) (by decide +kernel))) rfl
theorem mi_X2_allDelays : Cond.instanceMethod yX2_allDelays ∈ lw_gd := gd_of (in_t2 (List.mem_of_getElem? (i := 174) (by decide +kernel))) rfl
theorem ms_X2_allDelays : Cond.selects RX2 yX2_allDelays yX2_allDelays ∈ lw_gd := gd_of (in_t2 (List.mem_of_getElem? (i := 175) (by decide +kernel))) rfl
theorem mc_X2_allDelays : Cond.code yX2_allDelays cX2_allDelays 3 (some .int) ∈ lw_gd := gd_of (in_t2 (List.mem_of_getElem? (i := 176) (by decide +kernel))) rfl
theorem ml_X4_182 : Cond.methodLink RX4 182 yX2_longestDelay ∈ lw_gd := gd_of (in_t2 (List.mem_of_getElem? (i := 177) (by decide +kernel))) rfl
theorem mi_X2_longestDelay : Cond.instanceMethod yX2_longestDelay ∈ lw_gd := gd_of (in_t2 (List.mem_of_getElem? (i := 178) (by decide +kernel))) rfl
theorem ms_X2_longestDelay : Cond.selects RX2 yX2_longestDelay yX2_longestDelay ∈ lw_gd := gd_of (in_t2 (List.mem_of_getElem? (i := 179) (by decide +kernel))) rfl
theorem mc_X2_longestDelay : Cond.code yX2_longestDelay cX2_longestDelay 3 (some .int) ∈ lw_gd := gd_of (in_t2 (List.mem_of_getElem? (i := 180) (by decide +kernel))) rfl
theorem ml_X2_92 : Cond.methodLink RX2 92 Lib.Math.max.name ∈ lw_gd := gd_of (in_t2 (List.mem_of_getElem? (i := 181) (by decide +kernel))) rfl
theorem mt_max : Cond.static Lib.Math.max.name ∈ lw_gd := gd_of (in_t2 (List.mem_of_getElem? (i := 182) (by decide +kernel))) rfl
theorem mc_max : Cond.code Lib.Math.max.name Lib.Math.max.code 2 (some .int) ∈ lw_gd := gd_of (in_t2 (List.mem_of_getElem? (i := 183) (by decide +kernel))) rfl
theorem ml_X4_185 : Cond.methodLink RX4 185 yX2_wordsStruckInLetters ∈ lw_gd := gd_of (in_t2 (List.mem_of_getElem? (i := 184) (by decide +kernel))) rfl
theorem mi_X2_wordsStruckInLetters : Cond.instanceMethod yX2_wordsStruckInLetters ∈ lw_gd := gd_of (in_t2 (List.mem_of_getElem? (i := 185) (by decide +kernel))) rfl
theorem ms_X2_wordsStruckInLetters : Cond.selects RX2 yX2_wordsStruckInLetters yX2_wordsStruckInLetters ∈ lw_gd := gd_of (in_t2 (List.mem_of_getElem? (i := 186) (by decide +kernel))) rfl
theorem mc_X2_wordsStruckInLetters : Cond.code yX2_wordsStruckInLetters cX2_wordsStruckInLetters 3 (some .int) ∈ lw_gd := gd_of (in_t2 (List.mem_of_getElem? (i := 187) (by decide +kernel))) rfl
theorem ml_X4_188 : Cond.methodLink RX4 188 yX2_threadsThatWait ∈ lw_gd := gd_of (in_t2 (List.mem_of_getElem? (i := 188) (by decide +kernel))) rfl
theorem mi_X2_threadsThatWait : Cond.instanceMethod yX2_threadsThatWait ∈ lw_gd := gd_of (in_t2 (List.mem_of_getElem? (i := 189) (by decide +kernel))) rfl
theorem ms_X2_threadsThatWait : Cond.selects RX2 yX2_threadsThatWait yX2_threadsThatWait ∈ lw_gd := gd_of (in_t2 (List.mem_of_getElem? (i := 190) (by decide +kernel))) rfl
theorem mc_X2_threadsThatWait : Cond.code yX2_threadsThatWait cX2_threadsThatWait 3 (some .int) ∈ lw_gd := gd_of (in_t2 (List.mem_of_getElem? (i := 191) (by decide +kernel))) rfl
theorem ml_L_64 : Cond.methodLink RL 64 yX4_untilCome ∈ lw_gd := gd_of (in_t2 (List.mem_of_getElem? (i := 192) (by decide +kernel))) rfl
theorem mi_X4_untilCome : Cond.instanceMethod yX4_untilCome ∈ lw_gd := gd_of (in_t2 (List.mem_of_getElem? (i := 193) (by decide +kernel))) rfl
theorem ms_X4_untilCome : Cond.selects RX4 yX4_untilCome yX4_untilCome ∈ lw_gd := gd_of (in_t2 (List.mem_of_getElem? (i := 194) (by decide +kernel))) rfl
theorem mc_X4_untilCome : Cond.code yX4_untilCome cX4_untilCome 4 (some .int) ∈ lw_gd := gd_of (in_t2 (List.mem_of_getElem? (i := 195) (by decide +kernel))) rfl
theorem ml_X4_198 : Cond.methodLink RX4 198 yX2_passWeek ∈ lw_gd := gd_of (in_t2 (List.mem_of_getElem? (i := 196) (by decide +kernel))) rfl
theorem ml_L_68 : Cond.methodLink RL 68 yX4_ifPassed ∈ lw_gd := gd_of (in_t2 (List.mem_of_getElem? (i := 197) (by decide +kernel))) rfl
theorem mi_X4_ifPassed : Cond.instanceMethod yX4_ifPassed ∈ lw_gd := gd_of (in_t2 (List.mem_of_getElem? (i := 198) (by decide +kernel))) rfl
theorem ms_X4_ifPassed : Cond.selects RX4 yX4_ifPassed yX4_ifPassed ∈ lw_gd := gd_of (in_t2 (List.mem_of_getElem? (i := 199) (by decide +kernel))) rfl
theorem mc_X4_ifPassed : Cond.code yX4_ifPassed cX4_ifPassed 4 (some .int) ∈ lw_gd := gd_of (in_t2 (List.mem_of_getElem? (i := 200) (by decide +kernel))) rfl
theorem ml_L_72 : Cond.methodLink RL 72 yX4_bestTrade ∈ lw_gd := gd_of (in_t2 (List.mem_of_getElem? (i := 201) (by decide +kernel))) rfl
theorem mi_X4_bestTrade : Cond.instanceMethod yX4_bestTrade ∈ lw_gd := gd_of (in_t2 (List.mem_of_getElem? (i := 202) (by decide +kernel))) rfl
theorem ms_X4_bestTrade : Cond.selects RX4 yX4_bestTrade yX4_bestTrade ∈ lw_gd := gd_of (in_t2 (List.mem_of_getElem? (i := 203) (by decide +kernel))) rfl
theorem mc_X4_bestTrade : Cond.code yX4_bestTrade cX4_bestTrade 6 (some .int) ∈ lw_gd := gd_of (in_t2 (List.mem_of_getElem? (i := 204) (by decide +kernel))) rfl
theorem ml_L_76 : Cond.methodLink RL 76 yX4_leastLimit ∈ lw_gd := gd_of (in_t2 (List.mem_of_getElem? (i := 205) (by decide +kernel))) rfl
theorem mi_X4_leastLimit : Cond.instanceMethod yX4_leastLimit ∈ lw_gd := gd_of (in_t2 (List.mem_of_getElem? (i := 206) (by decide +kernel))) rfl
theorem ms_X4_leastLimit : Cond.selects RX4 yX4_leastLimit yX4_leastLimit ∈ lw_gd := gd_of (in_t2 (List.mem_of_getElem? (i := 207) (by decide +kernel))) rfl
theorem mc_X4_leastLimit : Cond.code yX4_leastLimit cX4_leastLimit 2 (some .int) ∈ lw_gd := gd_of (in_t2 (List.mem_of_getElem? (i := 208) (by decide +kernel))) rfl
theorem ml_X4_201 : Cond.methodLink RX4 201 yX4_turnsBackWith ∈ lw_gd := gd_of (in_t2 (List.mem_of_getElem? (i := 209) (by decide +kernel))) rfl
theorem mi_X4_turnsBackWith : Cond.instanceMethod yX4_turnsBackWith ∈ lw_gd := gd_of (in_t2 (List.mem_of_getElem? (i := 211) (by decide +kernel))) rfl
theorem mc_X4_turnsBackWith : Cond.code yX4_turnsBackWith cX4_turnsBackWith 4 (some .boolean) ∈ lw_gd := gd_of (in_t2 (List.mem_of_getElem? (i := 212) (by decide +kernel))) rfl
theorem ml_X4_204 : Cond.methodLink RX4 204 yX2_lettersTurnedByAll ∈ lw_gd := gd_of (in_t2 (List.mem_of_getElem? (i := 213) (by decide +kernel))) rfl
theorem mi_X2_lettersTurnedByAll : Cond.instanceMethod yX2_lettersTurnedByAll ∈ lw_gd := gd_of (in_t2 (List.mem_of_getElem? (i := 214) (by decide +kernel))) rfl
theorem ms_X2_lettersTurnedByAll : Cond.selects RX2 yX2_lettersTurnedByAll yX2_lettersTurnedByAll ∈ lw_gd := gd_of (in_t2 (List.mem_of_getElem? (i := 215) (by decide +kernel))) rfl
theorem mc_X2_lettersTurnedByAll : Cond.code yX2_lettersTurnedByAll cX2_lettersTurnedByAll 3 (some .int) ∈ lw_gd := gd_of (in_t2 (List.mem_of_getElem? (i := 216) (by decide +kernel))) rfl
theorem ml_L_82 : Cond.methodLink RL 82 yX4_put ∈ lw_gd := gd_of (in_t2 (List.mem_of_getElem? (i := 217) (by decide +kernel))) rfl
theorem mi_X4_put : Cond.instanceMethod yX4_put ∈ lw_gd := gd_of (in_t2 (List.mem_of_getElem? (i := 218) (by decide +kernel))) rfl
theorem ms_X4_put : Cond.selects RX4 yX4_put yX4_put ∈ lw_gd := gd_of (in_t2 (List.mem_of_getElem? (i := 219) (by decide +kernel))) rfl
theorem mc_X4_put : Cond.code yX4_put cX4_put 5 (some .int) ∈ lw_gd := gd_of (in_t2 (List.mem_of_getElem? (i := 220) (by decide +kernel))) rfl
theorem ml_X4_207 : Cond.methodLink RX4 207 yX4_lengthOf ∈ lw_gd := gd_of (in_t2 (List.mem_of_getElem? (i := 221) (by decide +kernel))) rfl
theorem mt_X4_lengthOf : Cond.static yX4_lengthOf ∈ lw_gd := gd_of (in_t2 (List.mem_of_getElem? (i := 222) (by decide +kernel))) rfl
theorem mc_X4_lengthOf : Cond.code yX4_lengthOf cX4_lengthOf 6 (some .int) ∈ lw_gd := gd_of (in_t2 (List.mem_of_getElem? (i := 223) (by decide +kernel))) rfl
theorem lc_X4_211 : Cond.constantLong RX4 211 255 ∈ lw_gd := gd_of (in_t2 (List.mem_of_getElem? (i := 224) (by decide +kernel))) rfl
theorem ml_L_87 : Cond.methodLink RL 87 yX4_wipe ∈ lw_gd := gd_of (in_t2 (List.mem_of_getElem? (i := 225) (by decide +kernel))) rfl
theorem mi_X4_wipe : Cond.instanceMethod yX4_wipe ∈ lw_gd := gd_of (in_t2 (List.mem_of_getElem? (i := 226) (by decide +kernel))) rfl
theorem ms_X4_wipe : Cond.selects RX4 yX4_wipe yX4_wipe ∈ lw_gd := gd_of (in_t2 (List.mem_of_getElem? (i := 227) (by decide +kernel))) rfl
theorem mc_X4_wipe : Cond.code yX4_wipe cX4_wipe 2 (some .int) ∈ lw_gd := gd_of (in_t2 (List.mem_of_getElem? (i := 228) (by decide +kernel))) rfl
theorem ml_L_91 : Cond.methodLink RL 91 yX4_fault ∈ lw_gd := gd_of (in_t2 (List.mem_of_getElem? (i := 229) (by decide +kernel))) rfl
theorem mi_X4_fault : Cond.instanceMethod yX4_fault ∈ lw_gd := gd_of (in_t2 (List.mem_of_getElem? (i := 230) (by decide +kernel))) rfl
theorem ms_X4_fault : Cond.selects RX4 yX4_fault yX4_fault ∈ lw_gd := gd_of (in_t2 (List.mem_of_getElem? (i := 231) (by decide +kernel))) rfl
theorem mc_X4_fault : Cond.code yX4_fault cX4_fault 1 (some .int) ∈ lw_gd := gd_of (in_t2 (List.mem_of_getElem? (i := 232) (by decide +kernel))) rfl
theorem ml_L_95 : Cond.methodLink RL 95 yX4_undo ∈ lw_gd := gd_of (in_t2 (List.mem_of_getElem? (i := 233) (by decide +kernel))) rfl
theorem mi_X4_undo : Cond.instanceMethod yX4_undo ∈ lw_gd := gd_of (in_t2 (List.mem_of_getElem? (i := 234) (by decide +kernel))) rfl
theorem ms_X4_undo : Cond.selects RX4 yX4_undo yX4_undo ∈ lw_gd := gd_of (in_t2 (List.mem_of_getElem? (i := 235) (by decide +kernel))) rfl
theorem mc_X4_undo : Cond.code yX4_undo cX4_undo 1 (some .int) ∈ lw_gd := gd_of (in_t2 (List.mem_of_getElem? (i := 236) (by decide +kernel))) rfl
theorem ml_L_99 : Cond.methodLink RL 99 yX4_save ∈ lw_gd := gd_of (in_t2 (List.mem_of_getElem? (i := 237) (by decide +kernel))) rfl
theorem mi_X4_save : Cond.instanceMethod yX4_save ∈ lw_gd := gd_of (in_t2 (List.mem_of_getElem? (i := 238) (by decide +kernel))) rfl
theorem ms_X4_save : Cond.selects RX4 yX4_save yX4_save ∈ lw_gd := gd_of (in_t2 (List.mem_of_getElem? (i := 239) (by decide +kernel))) rfl
theorem mc_X4_save : Cond.code yX4_save cX4_save 2 (some .int) ∈ lw_gd := gd_of (in_t3 (List.mem_of_getElem? (i := 0) (by decide +kernel))) rfl
theorem ml_L_103 : Cond.methodLink RL 103 yX4_restore ∈ lw_gd := gd_of (in_t3 (List.mem_of_getElem? (i := 1) (by decide +kernel))) rfl
theorem mi_X4_restore : Cond.instanceMethod yX4_restore ∈ lw_gd := gd_of (in_t3 (List.mem_of_getElem? (i := 2) (by decide +kernel))) rfl
theorem ms_X4_restore : Cond.selects RX4 yX4_restore yX4_restore ∈ lw_gd := gd_of (in_t3 (List.mem_of_getElem? (i := 3) (by decide +kernel))) rfl
theorem mc_X4_restore : Cond.code yX4_restore cX4_restore 2 (some .int) ∈ lw_gd := gd_of (in_t3 (List.mem_of_getElem? (i := 4) (by decide +kernel))) rfl
theorem cl_L_10 : Cond.classLink RL 10 RX5 ∈ lw_gd := gd_of (in_t3 (List.mem_of_getElem? (i := 5) (by decide +kernel))) rfl
theorem is_X5 : Cond.instantiable RX5 12 ∈ lw_gd := gd_of (in_t3 (List.mem_of_getElem? (i := 6) (by decide +kernel))) rfl
theorem ml_L_12 : Cond.methodLink RL 12 yX5_init ∈ lw_gd := gd_of (in_t3 (List.mem_of_getElem? (i := 7) (by decide +kernel))) rfl
theorem mi_X5_init : Cond.instanceMethod yX5_init ∈ lw_gd := gd_of (in_t3 (List.mem_of_getElem? (i := 8) (by decide +kernel))) rfl
theorem mc_X5_init : Cond.code yX5_init cX5_init 2 none ∈ lw_gd := gd_of (in_t3 (List.mem_of_getElem? (i := 9) (by decide +kernel))) rfl
theorem ml_X5_1 : Cond.methodLink RX5 1 objectInit ∈ lw_gd := gd_of (in_t3 (List.mem_of_getElem? (i := 10) (by decide +kernel))) rfl
theorem lk_X5_7 : Cond.fieldLink RX5 7 RX5 (TX5 0).2.1 (TX5 0).2.2.1 ∈ lw_gd := gd_of (in_t3 (List.mem_of_getElem? (i := 11) (by decide +kernel))) rfl
theorem lk_X5_13 : Cond.fieldLink RX5 13 RX5 (TX5 1).2.1 (TX5 1).2.2.1 ∈ lw_gd := gd_of (in_t3 (List.mem_of_getElem? (i := 12) (by decide +kernel))) rfl
theorem lk_X5_16 : Cond.fieldLink RX5 16 RX5 (TX5 2).2.1 (TX5 2).2.2.1 ∈ lw_gd := gd_of (in_t3 (List.mem_of_getElem? (i := 13) (by decide +kernel))) rfl
theorem lk_X5_46 : Cond.fieldLink RX5 46 RX5 (TX5 3).2.1 (TX5 3).2.2.1 ∈ lw_gd := gd_of (in_t3 (List.mem_of_getElem? (i := 14) (by decide +kernel))) rfl
theorem lk_X5_19 : Cond.fieldLink RX5 19 RX5 (TX5 4).2.1 (TX5 4).2.2.1 ∈ lw_gd := gd_of (in_t3 (List.mem_of_getElem? (i := 15) (by decide +kernel))) rfl
theorem lk_X5_22 : Cond.fieldLink RX5 22 RX5 (TX5 5).2.1 (TX5 5).2.2.1 ∈ lw_gd := gd_of (in_t3 (List.mem_of_getElem? (i := 16) (by decide +kernel))) rfl
theorem lk_X5_26 : Cond.fieldLink RX5 26 RX5 (TX5 6).2.1 (TX5 6).2.2.1 ∈ lw_gd := gd_of (in_t3 (List.mem_of_getElem? (i := 17) (by decide +kernel))) rfl
theorem lk_X5_136 : Cond.fieldLink RX5 136 RX5 (TX5 7).2.1 (TX5 7).2.2.1 ∈ lw_gd := gd_of (in_t3 (List.mem_of_getElem? (i := 18) (by decide +kernel))) rfl
theorem lk_X5_29 : Cond.fieldLink RX5 29 RX5 (TX5 8).2.1 (TX5 8).2.2.1 ∈ lw_gd := gd_of (in_t3 (List.mem_of_getElem? (i := 19) (by decide +kernel))) rfl
theorem lk_X5_32 : Cond.fieldLink RX5 32 RX5 (TX5 9).2.1 (TX5 9).2.2.1 ∈ lw_gd := gd_of (in_t3 (List.mem_of_getElem? (i := 20) (by decide +kernel))) rfl
theorem lk_X5_35 : Cond.fieldLink RX5 35 RX5 (TX5 10).2.1 (TX5 10).2.2.1 ∈ lw_gd := gd_of (in_t3 (List.mem_of_getElem? (i := 21) (by decide +kernel))) rfl
theorem lk_X5_150 : Cond.fieldLink RX5 150 RX5 (TX5 11).2.1 (TX5 11).2.2.1 ∈ lw_gd := gd_of (in_t3 (List.mem_of_getElem? (i := 22) (by decide +kernel))) rfl
theorem ml_L_17 : Cond.methodLink RL 17 yX5_set ∈ lw_gd := gd_of (in_t3 (List.mem_of_getElem? (i := 48) (by decide +kernel))) rfl
theorem mi_X5_set : Cond.instanceMethod yX5_set ∈ lw_gd := gd_of (in_t3 (List.mem_of_getElem? (i := 49) (by decide +kernel))) rfl
theorem ms_X5_set : Cond.selects RX5 yX5_set yX5_set ∈ lw_gd := gd_of (in_t3 (List.mem_of_getElem? (i := 50) (by decide +kernel))) rfl
theorem mc_X5_set : Cond.code yX5_set cX5_set 4 (some .int) ∈ lw_gd := gd_of (in_t3 (List.mem_of_getElem? (i := 51) (by decide +kernel))) rfl
theorem ml_X5_38 : Cond.methodLink RX5 38 yX5_in ∈ lw_gd := gd_of (in_t3 (List.mem_of_getElem? (i := 52) (by decide +kernel))) rfl
theorem mt_X5_in : Cond.static yX5_in ∈ lw_gd := gd_of (in_t3 (List.mem_of_getElem? (i := 53) (by decide +kernel))) rfl
theorem mc_X5_in : Cond.code yX5_in cX5_in 3 (some .boolean) ∈ lw_gd := gd_of (in_t3 (List.mem_of_getElem? (i := 54) (by decide +kernel))) rfl
theorem ml_X5_91 : Cond.methodLink RX5 91 yX5_lays ∈ lw_gd := gd_of (in_t3 (List.mem_of_getElem? (i := 55) (by decide +kernel))) rfl
theorem mi_X5_lays : Cond.instanceMethod yX5_lays ∈ lw_gd := gd_of (in_t3 (List.mem_of_getElem? (i := 57) (by decide +kernel))) rfl
theorem mc_X5_lays : Cond.code yX5_lays cX5_lays 4 (some .int) ∈ lw_gd := gd_of (in_t3 (List.mem_of_getElem? (i := 58) (by decide +kernel))) rfl
theorem ml_X5_88 : Cond.methodLink RX5 88 yX5_record ∈ lw_gd := gd_of (in_t3 (List.mem_of_getElem? (i := 59) (by decide +kernel))) rfl
theorem mi_X5_record : Cond.instanceMethod yX5_record ∈ lw_gd := gd_of (in_t3 (List.mem_of_getElem? (i := 61) (by decide +kernel))) rfl
theorem mc_X5_record : Cond.code yX5_record cX5_record 2 none ∈ lw_gd := gd_of (in_t3 (List.mem_of_getElem? (i := 62) (by decide +kernel))) rfl
theorem ml_L_21 : Cond.methodLink RL 21 yX5_strike ∈ lw_gd := gd_of (in_t3 (List.mem_of_getElem? (i := 63) (by decide +kernel))) rfl
theorem mi_X5_strike : Cond.instanceMethod yX5_strike ∈ lw_gd := gd_of (in_t3 (List.mem_of_getElem? (i := 64) (by decide +kernel))) rfl
theorem ms_X5_strike : Cond.selects RX5 yX5_strike yX5_strike ∈ lw_gd := gd_of (in_t3 (List.mem_of_getElem? (i := 65) (by decide +kernel))) rfl
theorem mc_X5_strike : Cond.code yX5_strike cX5_strike 4 (some .int) ∈ lw_gd := gd_of (in_t3 (List.mem_of_getElem? (i := 66) (by decide +kernel))) rfl
theorem ml_X5_53 : Cond.methodLink RX5 53 yX5_ofCensor ∈ lw_gd := gd_of (in_t3 (List.mem_of_getElem? (i := 67) (by decide +kernel))) rfl
theorem mt_X5_ofCensor : Cond.static yX5_ofCensor ∈ lw_gd := gd_of (in_t3 (List.mem_of_getElem? (i := 68) (by decide +kernel))) rfl
theorem mc_X5_ofCensor : Cond.code yX5_ofCensor cX5_ofCensor 2 (some .int) ∈ lw_gd := gd_of (in_t3 (List.mem_of_getElem? (i := 69) (by decide +kernel))) rfl
theorem ml_X5_62 : Cond.methodLink RX5 62 yX5_bits ∈ lw_gd := gd_of (in_t3 (List.mem_of_getElem? (i := 70) (by decide +kernel))) rfl
theorem mt_X5_bits : Cond.static yX5_bits ∈ lw_gd := gd_of (in_t3 (List.mem_of_getElem? (i := 71) (by decide +kernel))) rfl
theorem mc_X5_bits : Cond.code yX5_bits cX5_bits 3 (some .int) ∈ lw_gd := gd_of (in_t3 (List.mem_of_getElem? (i := 72) (by decide +kernel))) rfl
theorem ml_L_25 : Cond.methodLink RL 25 yX5_trade ∈ lw_gd := gd_of (in_t3 (List.mem_of_getElem? (i := 73) (by decide +kernel))) rfl
theorem mi_X5_trade : Cond.instanceMethod yX5_trade ∈ lw_gd := gd_of (in_t3 (List.mem_of_getElem? (i := 74) (by decide +kernel))) rfl
theorem ms_X5_trade : Cond.selects RX5 yX5_trade yX5_trade ∈ lw_gd := gd_of (in_t3 (List.mem_of_getElem? (i := 75) (by decide +kernel))) rfl
theorem mc_X5_trade : Cond.code yX5_trade cX5_trade 3 (some .int) ∈ lw_gd := gd_of (in_t3 (List.mem_of_getElem? (i := 76) (by decide +kernel))) rfl
theorem ml_X5_94 : Cond.methodLink RX5 94 yX5_isShift ∈ lw_gd := gd_of (in_t3 (List.mem_of_getElem? (i := 77) (by decide +kernel))) rfl
theorem mt_X5_isShift : Cond.static yX5_isShift ∈ lw_gd := gd_of (in_t3 (List.mem_of_getElem? (i := 78) (by decide +kernel))) rfl
theorem mc_X5_isShift : Cond.code yX5_isShift cX5_isShift 1 (some .boolean) ∈ lw_gd := gd_of (in_t3 (List.mem_of_getElem? (i := 79) (by decide +kernel))) rfl
theorem ml_X5_97 : Cond.methodLink RX5 97 yX5_trades ∈ lw_gd := gd_of (in_t3 (List.mem_of_getElem? (i := 80) (by decide +kernel))) rfl
theorem mi_X5_trades : Cond.instanceMethod yX5_trades ∈ lw_gd := gd_of (in_t3 (List.mem_of_getElem? (i := 82) (by decide +kernel))) rfl
theorem mc_X5_trades : Cond.code yX5_trades cX5_trades 4 none ∈ lw_gd := gd_of (in_t3 (List.mem_of_getElem? (i := 83) (by decide +kernel))) rfl
theorem ml_L_35 : Cond.methodLink RL 35 yX5_burn ∈ lw_gd := gd_of (in_t3 (List.mem_of_getElem? (i := 84) (by decide +kernel))) rfl
theorem mi_X5_burn : Cond.instanceMethod yX5_burn ∈ lw_gd := gd_of (in_t3 (List.mem_of_getElem? (i := 85) (by decide +kernel))) rfl
theorem ms_X5_burn : Cond.selects RX5 yX5_burn yX5_burn ∈ lw_gd := gd_of (in_t3 (List.mem_of_getElem? (i := 86) (by decide +kernel))) rfl
theorem mc_X5_burn : Cond.code yX5_burn cX5_burn 5 (some .int) ∈ lw_gd := gd_of (in_t3 (List.mem_of_getElem? (i := 87) (by decide +kernel))) rfl
theorem ml_X5_100 : Cond.methodLink RX5 100 yX5_isLetter ∈ lw_gd := gd_of (in_t3 (List.mem_of_getElem? (i := 88) (by decide +kernel))) rfl
theorem mi_X5_isLetter : Cond.instanceMethod yX5_isLetter ∈ lw_gd := gd_of (in_t3 (List.mem_of_getElem? (i := 90) (by decide +kernel))) rfl
theorem mc_X5_isLetter : Cond.code yX5_isLetter cX5_isLetter 2 (some .boolean) ∈ lw_gd := gd_of (in_t3 (List.mem_of_getElem? (i := 91) (by decide +kernel))) rfl
theorem ml_X5_50 : Cond.methodLink RX5 50 yX5_of ∈ lw_gd := gd_of (in_t3 (List.mem_of_getElem? (i := 92) (by decide +kernel))) rfl
theorem mi_X5_of : Cond.instanceMethod yX5_of ∈ lw_gd := gd_of (in_t3 (List.mem_of_getElem? (i := 94) (by decide +kernel))) rfl
theorem mc_X5_of : Cond.code yX5_of cX5_of 3 (some .int) ∈ lw_gd := gd_of (in_t3 (List.mem_of_getElem? (i := 95) (by decide +kernel))) rfl
theorem ml_X5_42 : Cond.methodLink RX5 42 yX5_at ∈ lw_gd := gd_of (in_t3 (List.mem_of_getElem? (i := 96) (by decide +kernel))) rfl
theorem mt_X5_at : Cond.static yX5_at ∈ lw_gd := gd_of (in_t3 (List.mem_of_getElem? (i := 97) (by decide +kernel))) rfl
theorem mc_X5_at : Cond.code yX5_at cX5_at 2 (some .int) ∈ lw_gd := gd_of (in_t3 (List.mem_of_getElem? (i := 98) (by decide +kernel))) rfl
theorem ml_X5_103 : Cond.methodLink RX5 103 yX5_placeOf ∈ lw_gd := gd_of (in_t3 (List.mem_of_getElem? (i := 99) (by decide +kernel))) rfl
theorem mi_X5_placeOf : Cond.instanceMethod yX5_placeOf ∈ lw_gd := gd_of (in_t3 (List.mem_of_getElem? (i := 101) (by decide +kernel))) rfl
theorem mc_X5_placeOf : Cond.code yX5_placeOf cX5_placeOf 5 (some .int) ∈ lw_gd := gd_of (in_t3 (List.mem_of_getElem? (i := 102) (by decide +kernel))) rfl
theorem ml_X5_69 : Cond.methodLink RX5 69 yX5_inRow ∈ lw_gd := gd_of (in_t3 (List.mem_of_getElem? (i := 103) (by decide +kernel))) rfl
theorem mt_X5_inRow : Cond.static yX5_inRow ∈ lw_gd := gd_of (in_t3 (List.mem_of_getElem? (i := 104) (by decide +kernel))) rfl
theorem mc_X5_inRow : Cond.code yX5_inRow cX5_inRow 2 (some .int) ∈ lw_gd := gd_of (in_t3 (List.mem_of_getElem? (i := 105) (by decide +kernel))) rfl
theorem ml_L_39 : Cond.methodLink RL 39 yX5_pass ∈ lw_gd := gd_of (in_t3 (List.mem_of_getElem? (i := 106) (by decide +kernel))) rfl
theorem mi_X5_pass : Cond.instanceMethod yX5_pass ∈ lw_gd := gd_of (in_t3 (List.mem_of_getElem? (i := 107) (by decide +kernel))) rfl
theorem ms_X5_pass : Cond.selects RX5 yX5_pass yX5_pass ∈ lw_gd := gd_of (in_t3 (List.mem_of_getElem? (i := 108) (by decide +kernel))) rfl
theorem mc_X5_pass : Cond.code yX5_pass cX5_pass 2 (some .int) ∈ lw_gd := gd_of (in_t3 (List.mem_of_getElem? (i := 109) (by decide +kernel))) rfl
theorem ml_X5_106 : Cond.methodLink RX5 106 yX5_passes ∈ lw_gd := gd_of (in_t3 (List.mem_of_getElem? (i := 110) (by decide +kernel))) rfl
theorem mi_X5_passes : Cond.instanceMethod yX5_passes ∈ lw_gd := gd_of (in_t3 (List.mem_of_getElem? (i := 112) (by decide +kernel))) rfl
theorem mc_X5_passes : Cond.code yX5_passes cX5_passes 4 (some .int) ∈ lw_gd := gd_of (in_t3 (List.mem_of_getElem? (i := 113) (by decide +kernel))) rfl
theorem ml_X5_84 : Cond.methodLink RX5 84 yX5_week ∈ lw_gd := gd_of (in_t3 (List.mem_of_getElem? (i := 114) (by decide +kernel))) rfl
theorem mi_X5_week : Cond.instanceMethod yX5_week ∈ lw_gd := gd_of (in_t3 (List.mem_of_getElem? (i := 116) (by decide +kernel))) rfl
theorem mc_X5_week : Cond.code yX5_week cX5_week 3 (some .int) ∈ lw_gd := gd_of (in_t3 (List.mem_of_getElem? (i := 117) (by decide +kernel))) rfl
theorem ml_X5_80 : Cond.methodLink RX5 80 yX5_goesThrough ∈ lw_gd := gd_of (in_t3 (List.mem_of_getElem? (i := 118) (by decide +kernel))) rfl
theorem mi_X5_goesThrough : Cond.instanceMethod yX5_goesThrough ∈ lw_gd := gd_of (in_t3 (List.mem_of_getElem? (i := 120) (by decide +kernel))) rfl
theorem mc_X5_goesThrough : Cond.code yX5_goesThrough cX5_goesThrough 9 none ∈ lw_gd := gd_of (in_t3 (List.mem_of_getElem? (i := 121) (by decide +kernel))) rfl
theorem ml_X5_66 : Cond.methodLink RX5 66 yX5_shiftNow ∈ lw_gd := gd_of (in_t3 (List.mem_of_getElem? (i := 122) (by decide +kernel))) rfl
theorem mi_X5_shiftNow : Cond.instanceMethod yX5_shiftNow ∈ lw_gd := gd_of (in_t3 (List.mem_of_getElem? (i := 124) (by decide +kernel))) rfl
theorem mc_X5_shiftNow : Cond.code yX5_shiftNow cX5_shiftNow 2 (some .int) ∈ lw_gd := gd_of (in_t3 (List.mem_of_getElem? (i := 125) (by decide +kernel))) rfl
theorem ml_X5_72 : Cond.methodLink RX5 72 yX5_isBarred ∈ lw_gd := gd_of (in_t3 (List.mem_of_getElem? (i := 126) (by decide +kernel))) rfl
theorem mi_X5_isBarred : Cond.instanceMethod yX5_isBarred ∈ lw_gd := gd_of (in_t3 (List.mem_of_getElem? (i := 128) (by decide +kernel))) rfl
theorem mc_X5_isBarred : Cond.code yX5_isBarred cX5_isBarred 4 (some .boolean) ∈ lw_gd := gd_of (in_t3 (List.mem_of_getElem? (i := 129) (by decide +kernel))) rfl
theorem ml_X5_76 : Cond.methodLink RX5 76 yX5_reads ∈ lw_gd := gd_of (in_t3 (List.mem_of_getElem? (i := 130) (by decide +kernel))) rfl
theorem mi_X5_reads : Cond.instanceMethod yX5_reads ∈ lw_gd := gd_of (in_t3 (List.mem_of_getElem? (i := 132) (by decide +kernel))) rfl
theorem mc_X5_reads : Cond.code yX5_reads cX5_reads 4 none ∈ lw_gd := gd_of (in_t3 (List.mem_of_getElem? (i := 133) (by decide +kernel))) rfl
theorem ml_X5_59 : Cond.methodLink RX5 59 yX5_strikes ∈ lw_gd := gd_of (in_t3 (List.mem_of_getElem? (i := 134) (by decide +kernel))) rfl
theorem mi_X5_strikes : Cond.instanceMethod yX5_strikes ∈ lw_gd := gd_of (in_t3 (List.mem_of_getElem? (i := 136) (by decide +kernel))) rfl
theorem mc_X5_strikes : Cond.code yX5_strikes cX5_strikes 5 (some .int) ∈ lw_gd := gd_of (in_t3 (List.mem_of_getElem? (i := 137) (by decide +kernel))) rfl
theorem ml_X5_56 : Cond.methodLink RX5 56 yX5_wordOf ∈ lw_gd := gd_of (in_t3 (List.mem_of_getElem? (i := 138) (by decide +kernel))) rfl
theorem mi_X5_wordOf : Cond.instanceMethod yX5_wordOf ∈ lw_gd := gd_of (in_t3 (List.mem_of_getElem? (i := 140) (by decide +kernel))) rfl
theorem mc_X5_wordOf : Cond.code yX5_wordOf cX5_wordOf 5 (some .int) ∈ lw_gd := gd_of (in_t3 (List.mem_of_getElem? (i := 141) (by decide +kernel))) rfl
theorem ml_L_43 : Cond.methodLink RL 43 yX5_letter ∈ lw_gd := gd_of (in_t3 (List.mem_of_getElem? (i := 142) (by decide +kernel))) rfl
theorem mi_X5_letter : Cond.instanceMethod yX5_letter ∈ lw_gd := gd_of (in_t3 (List.mem_of_getElem? (i := 143) (by decide +kernel))) rfl
theorem ms_X5_letter : Cond.selects RX5 yX5_letter yX5_letter ∈ lw_gd := gd_of (in_t3 (List.mem_of_getElem? (i := 144) (by decide +kernel))) rfl
theorem mc_X5_letter : Cond.code yX5_letter cX5_letter 3 (some .int) ∈ lw_gd := gd_of (in_t3 (List.mem_of_getElem? (i := 145) (by decide +kernel))) rfl
theorem ml_X5_109 : Cond.methodLink RX5 109 yX5_aheadOf ∈ lw_gd := gd_of (in_t3 (List.mem_of_getElem? (i := 146) (by decide +kernel))) rfl
theorem mi_X5_aheadOf : Cond.instanceMethod yX5_aheadOf ∈ lw_gd := gd_of (in_t3 (List.mem_of_getElem? (i := 148) (by decide +kernel))) rfl
theorem mc_X5_aheadOf : Cond.code yX5_aheadOf cX5_aheadOf 4 (some .int) ∈ lw_gd := gd_of (in_t3 (List.mem_of_getElem? (i := 149) (by decide +kernel))) rfl
theorem ml_L_47 : Cond.methodLink RL 47 yX5_word ∈ lw_gd := gd_of (in_t3 (List.mem_of_getElem? (i := 150) (by decide +kernel))) rfl
theorem mi_X5_word : Cond.instanceMethod yX5_word ∈ lw_gd := gd_of (in_t3 (List.mem_of_getElem? (i := 151) (by decide +kernel))) rfl
theorem ms_X5_word : Cond.selects RX5 yX5_word yX5_word ∈ lw_gd := gd_of (in_t3 (List.mem_of_getElem? (i := 152) (by decide +kernel))) rfl
theorem mc_X5_word : Cond.code yX5_word cX5_word 3 (some .int) ∈ lw_gd := gd_of (in_t3 (List.mem_of_getElem? (i := 153) (by decide +kernel))) rfl
theorem ml_L_51 : Cond.methodLink RL 51 yX5_why ∈ lw_gd := gd_of (in_t3 (List.mem_of_getElem? (i := 154) (by decide +kernel))) rfl
theorem mi_X5_why : Cond.instanceMethod yX5_why ∈ lw_gd := gd_of (in_t3 (List.mem_of_getElem? (i := 155) (by decide +kernel))) rfl
theorem ms_X5_why : Cond.selects RX5 yX5_why yX5_why ∈ lw_gd := gd_of (in_t3 (List.mem_of_getElem? (i := 156) (by decide +kernel))) rfl
theorem mc_X5_why : Cond.code yX5_why cX5_why 5 (some .int) ∈ lw_gd := gd_of (in_t3 (List.mem_of_getElem? (i := 157) (by decide +kernel))) rfl
theorem ml_X5_112 : Cond.methodLink RX5 112 yX5_putAside ∈ lw_gd := gd_of (in_t3 (List.mem_of_getElem? (i := 158) (by decide +kernel))) rfl
theorem mi_X5_putAside : Cond.instanceMethod yX5_putAside ∈ lw_gd := gd_of (in_t3 (List.mem_of_getElem? (i := 160) (by decide +kernel))) rfl
theorem mc_X5_putAside : Cond.code yX5_putAside cX5_putAside 2 none ∈ lw_gd := gd_of (in_t3 (List.mem_of_getElem? (i := 161) (by decide +kernel))) rfl
theorem ml_X5_115 : Cond.methodLink RX5 115 yX5_putBack ∈ lw_gd := gd_of (in_t3 (List.mem_of_getElem? (i := 162) (by decide +kernel))) rfl
theorem mi_X5_putBack : Cond.instanceMethod yX5_putBack ∈ lw_gd := gd_of (in_t3 (List.mem_of_getElem? (i := 164) (by decide +kernel))) rfl
theorem mc_X5_putBack : Cond.code yX5_putBack cX5_putBack 2 none ∈ lw_gd := gd_of (in_t3 (List.mem_of_getElem? (i := 165) (by decide +kernel))) rfl
theorem ml_L_55 : Cond.methodLink RL 55 yX5_censor ∈ lw_gd := gd_of (in_t3 (List.mem_of_getElem? (i := 166) (by decide +kernel))) rfl
theorem mi_X5_censor : Cond.instanceMethod yX5_censor ∈ lw_gd := gd_of (in_t3 (List.mem_of_getElem? (i := 167) (by decide +kernel))) rfl
theorem ms_X5_censor : Cond.selects RX5 yX5_censor yX5_censor ∈ lw_gd := gd_of (in_t3 (List.mem_of_getElem? (i := 168) (by decide +kernel))) rfl
theorem mc_X5_censor : Cond.code yX5_censor cX5_censor 3 (some .int) ∈ lw_gd := gd_of (in_t3 (List.mem_of_getElem? (i := 169) (by decide +kernel))) rfl
theorem ml_X5_118 : Cond.methodLink RX5 118 yX5_shiftsOf ∈ lw_gd := gd_of (in_t3 (List.mem_of_getElem? (i := 170) (by decide +kernel))) rfl
theorem mi_X5_shiftsOf : Cond.instanceMethod yX5_shiftsOf ∈ lw_gd := gd_of (in_t3 (List.mem_of_getElem? (i := 172) (by decide +kernel))) rfl
theorem mc_X5_shiftsOf : Cond.code yX5_shiftsOf cX5_shiftsOf 4 (some .int) ∈ lw_gd := gd_of (in_t3 (List.mem_of_getElem? (i := 173) (by decide +kernel))) rfl
theorem ml_L_59 : Cond.methodLink RL 59 yX5_onShift ∈ lw_gd := gd_of (in_t3 (List.mem_of_getElem? (i := 174) (by decide +kernel))) rfl
theorem mi_X5_onShift : Cond.instanceMethod yX5_onShift ∈ lw_gd := gd_of (in_t3 (List.mem_of_getElem? (i := 175) (by decide +kernel))) rfl
theorem ms_X5_onShift : Cond.selects RX5 yX5_onShift yX5_onShift ∈ lw_gd := gd_of (in_t3 (List.mem_of_getElem? (i := 176) (by decide +kernel))) rfl
theorem mc_X5_onShift : Cond.code yX5_onShift cX5_onShift 3 (some .int) ∈ lw_gd := gd_of (in_t3 (List.mem_of_getElem? (i := 177) (by decide +kernel))) rfl
theorem ml_L_63 : Cond.methodLink RL 63 yX5_count ∈ lw_gd := gd_of (in_t3 (List.mem_of_getElem? (i := 178) (by decide +kernel))) rfl
theorem mi_X5_count : Cond.instanceMethod yX5_count ∈ lw_gd := gd_of (in_t3 (List.mem_of_getElem? (i := 179) (by decide +kernel))) rfl
theorem ms_X5_count : Cond.selects RX5 yX5_count yX5_count ∈ lw_gd := gd_of (in_t3 (List.mem_of_getElem? (i := 180) (by decide +kernel))) rfl
theorem mc_X5_count : Cond.code yX5_count cX5_count 2 (some .int) ∈ lw_gd := gd_of (in_t3 (List.mem_of_getElem? (i := 181) (by decide +kernel))) rfl
theorem ml_X5_121 : Cond.methodLink RX5 121 yX5_many ∈ lw_gd := gd_of (in_t3 (List.mem_of_getElem? (i := 182) (by decide +kernel))) rfl
theorem mi_X5_many : Cond.instanceMethod yX5_many ∈ lw_gd := gd_of (in_t3 (List.mem_of_getElem? (i := 184) (by decide +kernel))) rfl
theorem mc_X5_many : Cond.code yX5_many cX5_many 4 (some .int) ∈ lw_gd := gd_of (in_t3 (List.mem_of_getElem? (i := 185) (by decide +kernel))) rfl
theorem ml_X5_124 : Cond.methodLink RX5 124 yX5_delays ∈ lw_gd := gd_of (in_t3 (List.mem_of_getElem? (i := 186) (by decide +kernel))) rfl
theorem mi_X5_delays : Cond.instanceMethod yX5_delays ∈ lw_gd := gd_of (in_t3 (List.mem_of_getElem? (i := 188) (by decide +kernel))) rfl
theorem mc_X5_delays : Cond.code yX5_delays cX5_delays 3 (some .int) ∈ lw_gd := gd_of (in_t3 (List.mem_of_getElem? (i := 189) (by decide +kernel))) rfl
theorem ml_X5_127 : Cond.methodLink RX5 127 yX5_longest ∈ lw_gd := gd_of (in_t3 (List.mem_of_getElem? (i := 190) (by decide +kernel))) rfl
theorem mi_X5_longest : Cond.instanceMethod yX5_longest ∈ lw_gd := gd_of (in_t3 (List.mem_of_getElem? (i := 192) (by decide +kernel))) rfl
theorem mc_X5_longest : Cond.code yX5_longest cX5_longest 3 (some .int) ∈ lw_gd := gd_of (in_t3 (List.mem_of_getElem? (i := 193) (by decide +kernel))) rfl
theorem ml_X5_130 : Cond.methodLink RX5 130 yX5_struckWords ∈ lw_gd := gd_of (in_t3 (List.mem_of_getElem? (i := 194) (by decide +kernel))) rfl
theorem mi_X5_struckWords : Cond.instanceMethod yX5_struckWords ∈ lw_gd := gd_of (in_t3 (List.mem_of_getElem? (i := 196) (by decide +kernel))) rfl
theorem mc_X5_struckWords : Cond.code yX5_struckWords cX5_struckWords 3 (some .int) ∈ lw_gd := gd_of (in_t3 (List.mem_of_getElem? (i := 197) (by decide +kernel))) rfl
theorem ml_X5_133 : Cond.methodLink RX5 133 yX5_waitingThreads ∈ lw_gd := gd_of (in_t3 (List.mem_of_getElem? (i := 198) (by decide +kernel))) rfl
theorem mi_X5_waitingThreads : Cond.instanceMethod yX5_waitingThreads ∈ lw_gd := gd_of (in_t3 (List.mem_of_getElem? (i := 200) (by decide +kernel))) rfl
theorem mc_X5_waitingThreads : Cond.code yX5_waitingThreads cX5_waitingThreads 3 (some .int) ∈ lw_gd := gd_of (in_t3 (List.mem_of_getElem? (i := 201) (by decide +kernel))) rfl
theorem ml_L_67 : Cond.methodLink RL 67 yX5_untilCome ∈ lw_gd := gd_of (in_t3 (List.mem_of_getElem? (i := 202) (by decide +kernel))) rfl
theorem mi_X5_untilCome : Cond.instanceMethod yX5_untilCome ∈ lw_gd := gd_of (in_t3 (List.mem_of_getElem? (i := 203) (by decide +kernel))) rfl
theorem ms_X5_untilCome : Cond.selects RX5 yX5_untilCome yX5_untilCome ∈ lw_gd := gd_of (in_t3 (List.mem_of_getElem? (i := 204) (by decide +kernel))) rfl
theorem mc_X5_untilCome : Cond.code yX5_untilCome cX5_untilCome 4 (some .int) ∈ lw_gd := gd_of (in_t3 (List.mem_of_getElem? (i := 205) (by decide +kernel))) rfl
theorem ml_L_71 : Cond.methodLink RL 71 yX5_ifPassed ∈ lw_gd := gd_of (in_t3 (List.mem_of_getElem? (i := 206) (by decide +kernel))) rfl
theorem mi_X5_ifPassed : Cond.instanceMethod yX5_ifPassed ∈ lw_gd := gd_of (in_t3 (List.mem_of_getElem? (i := 207) (by decide +kernel))) rfl
theorem ms_X5_ifPassed : Cond.selects RX5 yX5_ifPassed yX5_ifPassed ∈ lw_gd := gd_of (in_t3 (List.mem_of_getElem? (i := 208) (by decide +kernel))) rfl
theorem mc_X5_ifPassed : Cond.code yX5_ifPassed cX5_ifPassed 6 (some .int) ∈ lw_gd := gd_of (in_t3 (List.mem_of_getElem? (i := 209) (by decide +kernel))) rfl
theorem ml_L_75 : Cond.methodLink RL 75 yX5_bestTrade ∈ lw_gd := gd_of (in_t3 (List.mem_of_getElem? (i := 210) (by decide +kernel))) rfl
theorem mi_X5_bestTrade : Cond.instanceMethod yX5_bestTrade ∈ lw_gd := gd_of (in_t3 (List.mem_of_getElem? (i := 211) (by decide +kernel))) rfl
theorem ms_X5_bestTrade : Cond.selects RX5 yX5_bestTrade yX5_bestTrade ∈ lw_gd := gd_of (in_t3 (List.mem_of_getElem? (i := 212) (by decide +kernel))) rfl
theorem mc_X5_bestTrade : Cond.code yX5_bestTrade cX5_bestTrade 6 (some .int) ∈ lw_gd := gd_of (in_t3 (List.mem_of_getElem? (i := 213) (by decide +kernel))) rfl
theorem ml_L_79 : Cond.methodLink RL 79 yX5_leastLimit ∈ lw_gd := gd_of (in_t3 (List.mem_of_getElem? (i := 214) (by decide +kernel))) rfl
theorem mi_X5_leastLimit : Cond.instanceMethod yX5_leastLimit ∈ lw_gd := gd_of (in_t3 (List.mem_of_getElem? (i := 215) (by decide +kernel))) rfl
theorem ms_X5_leastLimit : Cond.selects RX5 yX5_leastLimit yX5_leastLimit ∈ lw_gd := gd_of (in_t3 (List.mem_of_getElem? (i := 216) (by decide +kernel))) rfl
theorem mc_X5_leastLimit : Cond.code yX5_leastLimit cX5_leastLimit 5 (some .int) ∈ lw_gd := gd_of (in_t3 (List.mem_of_getElem? (i := 217) (by decide +kernel))) rfl
theorem ml_X5_139 : Cond.methodLink RX5 139 yX5_turnedBack ∈ lw_gd := gd_of (in_t3 (List.mem_of_getElem? (i := 218) (by decide +kernel))) rfl
theorem mi_X5_turnedBack : Cond.instanceMethod yX5_turnedBack ∈ lw_gd := gd_of (in_t3 (List.mem_of_getElem? (i := 220) (by decide +kernel))) rfl
theorem mc_X5_turnedBack : Cond.code yX5_turnedBack cX5_turnedBack 1 (some .int) ∈ lw_gd := gd_of (in_t3 (List.mem_of_getElem? (i := 221) (by decide +kernel))) rfl
theorem ml_L_86 : Cond.methodLink RL 86 yX5_put ∈ lw_gd := gd_of (in_t3 (List.mem_of_getElem? (i := 222) (by decide +kernel))) rfl
theorem mi_X5_put : Cond.instanceMethod yX5_put ∈ lw_gd := gd_of (in_t3 (List.mem_of_getElem? (i := 223) (by decide +kernel))) rfl
theorem ms_X5_put : Cond.selects RX5 yX5_put yX5_put ∈ lw_gd := gd_of (in_t3 (List.mem_of_getElem? (i := 224) (by decide +kernel))) rfl
theorem mc_X5_put : Cond.code yX5_put cX5_put 8 (some .int) ∈ lw_gd := gd_of (in_t3 (List.mem_of_getElem? (i := 225) (by decide +kernel))) rfl
theorem lc_X5_142 : Cond.constantLong RX5 142 255 ∈ lw_gd := gd_of (in_t3 (List.mem_of_getElem? (i := 226) (by decide +kernel))) rfl
theorem ml_L_90 : Cond.methodLink RL 90 yX5_wipe ∈ lw_gd := gd_of (in_t3 (List.mem_of_getElem? (i := 227) (by decide +kernel))) rfl
theorem mi_X5_wipe : Cond.instanceMethod yX5_wipe ∈ lw_gd := gd_of (in_t3 (List.mem_of_getElem? (i := 228) (by decide +kernel))) rfl
theorem ms_X5_wipe : Cond.selects RX5 yX5_wipe yX5_wipe ∈ lw_gd := gd_of (in_t3 (List.mem_of_getElem? (i := 229) (by decide +kernel))) rfl
theorem mc_X5_wipe : Cond.code yX5_wipe cX5_wipe 2 (some .int) ∈ lw_gd := gd_of (in_t3 (List.mem_of_getElem? (i := 230) (by decide +kernel))) rfl
theorem ml_L_94 : Cond.methodLink RL 94 yX5_fault ∈ lw_gd := gd_of (in_t3 (List.mem_of_getElem? (i := 231) (by decide +kernel))) rfl
theorem mi_X5_fault : Cond.instanceMethod yX5_fault ∈ lw_gd := gd_of (in_t3 (List.mem_of_getElem? (i := 232) (by decide +kernel))) rfl
theorem ms_X5_fault : Cond.selects RX5 yX5_fault yX5_fault ∈ lw_gd := gd_of (in_t3 (List.mem_of_getElem? (i := 233) (by decide +kernel))) rfl
theorem mc_X5_fault : Cond.code yX5_fault cX5_fault 1 (some .int) ∈ lw_gd := gd_of (in_t3 (List.mem_of_getElem? (i := 234) (by decide +kernel))) rfl
theorem ml_X5_156 : Cond.methodLink RX5 156 yX5_wrong ∈ lw_gd := gd_of (in_t3 (List.mem_of_getElem? (i := 235) (by decide +kernel))) rfl
theorem mi_X5_wrong : Cond.instanceMethod yX5_wrong ∈ lw_gd := gd_of (in_t3 (List.mem_of_getElem? (i := 237) (by decide +kernel))) rfl
theorem mc_X5_wrong : Cond.code yX5_wrong cX5_wrong 4 (some .int) ∈ lw_gd := gd_of (in_t3 (List.mem_of_getElem? (i := 238) (by decide +kernel))) rfl
theorem ml_X5_153 : Cond.methodLink RX5 153 yX5_right ∈ lw_gd := gd_of (in_t3 (List.mem_of_getElem? (i := 239) (by decide +kernel))) rfl
theorem mi_X5_right : Cond.instanceMethod yX5_right ∈ lw_gd := gd_of (in_t4 (List.mem_of_getElem? (i := 1) (by decide +kernel))) rfl
theorem mc_X5_right : Cond.code yX5_right cX5_right 3 (some .int) ∈ lw_gd := gd_of (in_t4 (List.mem_of_getElem? (i := 2) (by decide +kernel))) rfl
theorem ml_X5_144 : Cond.methodLink RX5 144 yX5_next ∈ lw_gd := gd_of (in_t4 (List.mem_of_getElem? (i := 3) (by decide +kernel))) rfl
theorem mi_X5_next : Cond.instanceMethod yX5_next ∈ lw_gd := gd_of (in_t4 (List.mem_of_getElem? (i := 5) (by decide +kernel))) rfl
theorem mc_X5_next : Cond.code yX5_next cX5_next 2 (some .int) ∈ lw_gd := gd_of (in_t4 (List.mem_of_getElem? (i := 6) (by decide +kernel))) rfl
theorem ml_X5_147 : Cond.methodLink RX5 147 yX5_isWordAt ∈ lw_gd := gd_of (in_t4 (List.mem_of_getElem? (i := 7) (by decide +kernel))) rfl
theorem mi_X5_isWordAt : Cond.instanceMethod yX5_isWordAt ∈ lw_gd := gd_of (in_t4 (List.mem_of_getElem? (i := 9) (by decide +kernel))) rfl
theorem mc_X5_isWordAt : Cond.code yX5_isWordAt cX5_isWordAt 2 (some .boolean) ∈ lw_gd := gd_of (in_t4 (List.mem_of_getElem? (i := 10) (by decide +kernel))) rfl
theorem ml_L_30 : Cond.methodLink RL 30 yX5_read ∈ lw_gd := gd_of (in_t4 (List.mem_of_getElem? (i := 11) (by decide +kernel))) rfl
theorem mi_X5_read : Cond.instanceMethod yX5_read ∈ lw_gd := gd_of (in_t4 (List.mem_of_getElem? (i := 12) (by decide +kernel))) rfl
theorem ms_X5_read : Cond.selects RX5 yX5_read yX5_read ∈ lw_gd := gd_of (in_t4 (List.mem_of_getElem? (i := 13) (by decide +kernel))) rfl
theorem mc_X5_read : Cond.code yX5_read cX5_read 3 (some .int) ∈ lw_gd := gd_of (in_t4 (List.mem_of_getElem? (i := 14) (by decide +kernel))) rfl
theorem ml_X5_159 : Cond.methodLink RX5 159 yX5_writes ∈ lw_gd := gd_of (in_t4 (List.mem_of_getElem? (i := 15) (by decide +kernel))) rfl
theorem mi_X5_writes : Cond.instanceMethod yX5_writes ∈ lw_gd := gd_of (in_t4 (List.mem_of_getElem? (i := 17) (by decide +kernel))) rfl
theorem mc_X5_writes : Cond.code yX5_writes cX5_writes 7 none ∈ lw_gd := gd_of (in_t4 (List.mem_of_getElem? (i := 18) (by decide +kernel))) rfl
theorem ml_L_98 : Cond.methodLink RL 98 yX5_undo ∈ lw_gd := gd_of (in_t4 (List.mem_of_getElem? (i := 19) (by decide +kernel))) rfl
theorem mi_X5_undo : Cond.instanceMethod yX5_undo ∈ lw_gd := gd_of (in_t4 (List.mem_of_getElem? (i := 20) (by decide +kernel))) rfl
theorem ms_X5_undo : Cond.selects RX5 yX5_undo yX5_undo ∈ lw_gd := gd_of (in_t4 (List.mem_of_getElem? (i := 21) (by decide +kernel))) rfl
theorem mc_X5_undo : Cond.code yX5_undo cX5_undo 2 (some .int) ∈ lw_gd := gd_of (in_t4 (List.mem_of_getElem? (i := 22) (by decide +kernel))) rfl
theorem ml_L_102 : Cond.methodLink RL 102 yX5_save ∈ lw_gd := gd_of (in_t4 (List.mem_of_getElem? (i := 23) (by decide +kernel))) rfl
theorem mi_X5_save : Cond.instanceMethod yX5_save ∈ lw_gd := gd_of (in_t4 (List.mem_of_getElem? (i := 24) (by decide +kernel))) rfl
theorem ms_X5_save : Cond.selects RX5 yX5_save yX5_save ∈ lw_gd := gd_of (in_t4 (List.mem_of_getElem? (i := 25) (by decide +kernel))) rfl
theorem mc_X5_save : Cond.code yX5_save cX5_save 3 (some .int) ∈ lw_gd := gd_of (in_t4 (List.mem_of_getElem? (i := 26) (by decide +kernel))) rfl
theorem ml_L_106 : Cond.methodLink RL 106 yX5_restore ∈ lw_gd := gd_of (in_t4 (List.mem_of_getElem? (i := 27) (by decide +kernel))) rfl
theorem mi_X5_restore : Cond.instanceMethod yX5_restore ∈ lw_gd := gd_of (in_t4 (List.mem_of_getElem? (i := 28) (by decide +kernel))) rfl
theorem ms_X5_restore : Cond.selects RX5 yX5_restore yX5_restore ∈ lw_gd := gd_of (in_t4 (List.mem_of_getElem? (i := 29) (by decide +kernel))) rfl
theorem mc_X5_restore : Cond.code yX5_restore cX5_restore 3 (some .int) ∈ lw_gd := gd_of (in_t4 (List.mem_of_getElem? (i := 30) (by decide +kernel))) rfl
theorem lc_L_80 : Cond.constantLong RL 80 4294967295 ∈ lw_gd := gd_of (in_t4 (List.mem_of_getElem? (i := 31) (by decide +kernel))) rfl
theorem ms_X4_remember : Cond.selects RX4 yX4_remember yX4_remember ∈ lw_gd := gd_of (List.mem_append_left _ (List.mem_of_getElem? (i := 0) (by decide +kernel))) rfl
theorem ms_X4_faultOfPad : Cond.selects RX4 yX4_faultOfPad yX4_faultOfPad ∈ lw_gd := gd_of (List.mem_append_left _ (List.mem_of_getElem? (i := 1) (by decide +kernel))) rfl
theorem ms_X4_lettersOfPad : Cond.selects RX4 yX4_lettersOfPad yX4_lettersOfPad ∈ lw_gd := gd_of (List.mem_append_left _ (List.mem_of_getElem? (i := 2) (by decide +kernel))) rfl
theorem ms_X4_writeLettersOfPad : Cond.selects RX4 yX4_writeLettersOfPad yX4_writeLettersOfPad ∈ lw_gd := gd_of (List.mem_append_left _ (List.mem_of_getElem? (i := 3) (by decide +kernel))) rfl
theorem ms_X4_turnsBackWith : Cond.selects RX4 yX4_turnsBackWith yX4_turnsBackWith ∈ lw_gd := gd_of (List.mem_append_left _ (List.mem_of_getElem? (i := 4) (by decide +kernel))) rfl
theorem ms_X5_lays : Cond.selects RX5 yX5_lays yX5_lays ∈ lw_gd := gd_of (List.mem_append_left _ (List.mem_of_getElem? (i := 5) (by decide +kernel))) rfl
theorem ms_X5_record : Cond.selects RX5 yX5_record yX5_record ∈ lw_gd := gd_of (List.mem_append_left _ (List.mem_of_getElem? (i := 6) (by decide +kernel))) rfl
theorem ms_X5_trades : Cond.selects RX5 yX5_trades yX5_trades ∈ lw_gd := gd_of (List.mem_append_left _ (List.mem_of_getElem? (i := 7) (by decide +kernel))) rfl
theorem ms_X5_isLetter : Cond.selects RX5 yX5_isLetter yX5_isLetter ∈ lw_gd := gd_of (List.mem_append_left _ (List.mem_of_getElem? (i := 8) (by decide +kernel))) rfl
theorem ms_X5_of : Cond.selects RX5 yX5_of yX5_of ∈ lw_gd := gd_of (List.mem_append_left _ (List.mem_of_getElem? (i := 9) (by decide +kernel))) rfl
theorem ms_X5_placeOf : Cond.selects RX5 yX5_placeOf yX5_placeOf ∈ lw_gd := gd_of (List.mem_append_left _ (List.mem_of_getElem? (i := 10) (by decide +kernel))) rfl
theorem ms_X5_passes : Cond.selects RX5 yX5_passes yX5_passes ∈ lw_gd := gd_of (List.mem_append_left _ (List.mem_of_getElem? (i := 11) (by decide +kernel))) rfl
theorem ms_X5_week : Cond.selects RX5 yX5_week yX5_week ∈ lw_gd := gd_of (List.mem_append_left _ (List.mem_of_getElem? (i := 12) (by decide +kernel))) rfl
theorem ms_X5_goesThrough : Cond.selects RX5 yX5_goesThrough yX5_goesThrough ∈ lw_gd := gd_of (List.mem_append_left _ (List.mem_of_getElem? (i := 13) (by decide +kernel))) rfl
theorem ms_X5_shiftNow : Cond.selects RX5 yX5_shiftNow yX5_shiftNow ∈ lw_gd := gd_of (List.mem_append_left _ (List.mem_of_getElem? (i := 14) (by decide +kernel))) rfl
theorem ms_X5_isBarred : Cond.selects RX5 yX5_isBarred yX5_isBarred ∈ lw_gd := gd_of (List.mem_append_left _ (List.mem_of_getElem? (i := 15) (by decide +kernel))) rfl
theorem ms_X5_reads : Cond.selects RX5 yX5_reads yX5_reads ∈ lw_gd := gd_of (List.mem_append_left _ (List.mem_of_getElem? (i := 16) (by decide +kernel))) rfl
theorem ms_X5_strikes : Cond.selects RX5 yX5_strikes yX5_strikes ∈ lw_gd := gd_of (List.mem_append_left _ (List.mem_of_getElem? (i := 17) (by decide +kernel))) rfl
theorem ms_X5_wordOf : Cond.selects RX5 yX5_wordOf yX5_wordOf ∈ lw_gd := gd_of (List.mem_append_left _ (List.mem_of_getElem? (i := 18) (by decide +kernel))) rfl
theorem ms_X5_aheadOf : Cond.selects RX5 yX5_aheadOf yX5_aheadOf ∈ lw_gd := gd_of (List.mem_append_left _ (List.mem_of_getElem? (i := 19) (by decide +kernel))) rfl
theorem ms_X5_putAside : Cond.selects RX5 yX5_putAside yX5_putAside ∈ lw_gd := gd_of (List.mem_append_left _ (List.mem_of_getElem? (i := 20) (by decide +kernel))) rfl
theorem ms_X5_putBack : Cond.selects RX5 yX5_putBack yX5_putBack ∈ lw_gd := gd_of (List.mem_append_left _ (List.mem_of_getElem? (i := 21) (by decide +kernel))) rfl
theorem ms_X5_shiftsOf : Cond.selects RX5 yX5_shiftsOf yX5_shiftsOf ∈ lw_gd := gd_of (List.mem_append_left _ (List.mem_of_getElem? (i := 22) (by decide +kernel))) rfl
theorem ms_X5_many : Cond.selects RX5 yX5_many yX5_many ∈ lw_gd := gd_of (List.mem_append_left _ (List.mem_of_getElem? (i := 23) (by decide +kernel))) rfl
theorem ms_X5_delays : Cond.selects RX5 yX5_delays yX5_delays ∈ lw_gd := gd_of (List.mem_append_left _ (List.mem_of_getElem? (i := 24) (by decide +kernel))) rfl
theorem ms_X5_longest : Cond.selects RX5 yX5_longest yX5_longest ∈ lw_gd := gd_of (List.mem_append_left _ (List.mem_of_getElem? (i := 25) (by decide +kernel))) rfl
theorem ms_X5_struckWords : Cond.selects RX5 yX5_struckWords yX5_struckWords ∈ lw_gd := gd_of (List.mem_append_left _ (List.mem_of_getElem? (i := 26) (by decide +kernel))) rfl
theorem ms_X5_waitingThreads : Cond.selects RX5 yX5_waitingThreads yX5_waitingThreads ∈ lw_gd := gd_of (List.mem_append_left _ (List.mem_of_getElem? (i := 27) (by decide +kernel))) rfl
theorem ms_X5_turnedBack : Cond.selects RX5 yX5_turnedBack yX5_turnedBack ∈ lw_gd := gd_of (List.mem_append_left _ (List.mem_of_getElem? (i := 28) (by decide +kernel))) rfl
theorem ms_X5_wrong : Cond.selects RX5 yX5_wrong yX5_wrong ∈ lw_gd := gd_of (List.mem_append_left _ (List.mem_of_getElem? (i := 29) (by decide +kernel))) rfl
theorem ms_X5_right : Cond.selects RX5 yX5_right yX5_right ∈ lw_gd := gd_of (List.mem_append_left _ (List.mem_of_getElem? (i := 30) (by decide +kernel))) rfl
theorem ms_X5_next : Cond.selects RX5 yX5_next yX5_next ∈ lw_gd := gd_of (List.mem_append_left _ (List.mem_of_getElem? (i := 31) (by decide +kernel))) rfl
theorem ms_X5_isWordAt : Cond.selects RX5 yX5_isWordAt yX5_isWordAt ∈ lw_gd := gd_of (List.mem_append_left _ (List.mem_of_getElem? (i := 32) (by decide +kernel))) rfl
theorem ms_X5_writes : Cond.selects RX5 yX5_writes yX5_writes ∈ lw_gd := gd_of (List.mem_append_left _ (List.mem_of_getElem? (i := 33) (by decide +kernel))) rfl
theorem inX0 : ∀ w ∈ u_ws RX0 TX0 4, w ∈ lw_gd := by decide +kernel
theorem inX1 : ∀ w ∈ u_ws RX1 TX1 11, w ∈ lw_gd := by decide +kernel
theorem inX2 : ∀ w ∈ u_ws RX2 TX2 9, w ∈ lw_gd := by decide +kernel
theorem inX3 : ∀ w ∈ u_ws RX3 TX3 2, w ∈ lw_gd := by decide +kernel
theorem inX4 : ∀ w ∈ u_ws RX4 TX4 8, w ∈ lw_gd := by decide +kernel
theorem inX5 : ∀ w ∈ u_ws RX5 TX5 12, w ∈ lw_gd := by decide +kernel
end
section
theorem dX0_init_0 : decode cX0_init 0 = .ok (.aload_n 0, 1) := by decide +kernel
theorem dX0_init_1 : decode cX0_init 1 = .ok (.invokespecial 1, 3) := by decide +kernel
theorem dX0_init_4 : decode cX0_init 4 = .ok (.return_, 1) := by decide +kernel
theorem dX0_copyFrom_0 : decode cX0_copyFrom 0 = .ok (.aload_n 0, 1) := by decide +kernel
theorem dX0_copyFrom_1 : decode cX0_copyFrom 1 = .ok (.aload_n 1, 1) := by decide +kernel
theorem dX0_copyFrom_2 : decode cX0_copyFrom 2 = .ok (.getfield 7, 3) := by decide +kernel
theorem dX0_copyFrom_5 : decode cX0_copyFrom 5 = .ok (.putfield 7, 3) := by decide +kernel
theorem dX0_copyFrom_8 : decode cX0_copyFrom 8 = .ok (.aload_n 0, 1) := by decide +kernel
theorem dX0_copyFrom_9 : decode cX0_copyFrom 9 = .ok (.aload_n 1, 1) := by decide +kernel
theorem dX0_copyFrom_10 : decode cX0_copyFrom 10 = .ok (.getfield 13, 3) := by decide +kernel
theorem dX0_copyFrom_13 : decode cX0_copyFrom 13 = .ok (.putfield 13, 3) := by decide +kernel
theorem dX0_copyFrom_16 : decode cX0_copyFrom 16 = .ok (.aload_n 0, 1) := by decide +kernel
theorem dX0_copyFrom_17 : decode cX0_copyFrom 17 = .ok (.aload_n 1, 1) := by decide +kernel
theorem dX0_copyFrom_18 : decode cX0_copyFrom 18 = .ok (.getfield 16, 3) := by decide +kernel
theorem dX0_copyFrom_21 : decode cX0_copyFrom 21 = .ok (.putfield 16, 3) := by decide +kernel
theorem dX0_copyFrom_24 : decode cX0_copyFrom 24 = .ok (.aload_n 0, 1) := by decide +kernel
theorem dX0_copyFrom_25 : decode cX0_copyFrom 25 = .ok (.aload_n 1, 1) := by decide +kernel
theorem dX0_copyFrom_26 : decode cX0_copyFrom 26 = .ok (.getfield 19, 3) := by decide +kernel
theorem dX0_copyFrom_29 : decode cX0_copyFrom 29 = .ok (.putfield 19, 3) := by decide +kernel
theorem dX0_copyFrom_32 : decode cX0_copyFrom 32 = .ok (.return_, 1) := by decide +kernel
theorem dX1_init_0 : decode cX1_init 0 = .ok (.aload_n 0, 1) := by decide +kernel
theorem dX1_init_1 : decode cX1_init 1 = .ok (.invokespecial 3, 3) := by decide +kernel
theorem dX1_init_4 : decode cX1_init 4 = .ok (.return_, 1) := by decide +kernel
theorem dX1_begin_0 : decode cX1_begin 0 = .ok (.aload_n 0, 1) := by decide +kernel
theorem dX1_begin_1 : decode cX1_begin 1 = .ok (.iload_n 1, 1) := by decide +kernel
theorem dX1_begin_2 : decode cX1_begin 2 = .ok (.putfield 9, 3) := by decide +kernel
theorem dX1_begin_5 : decode cX1_begin 5 = .ok (.aload_n 0, 1) := by decide +kernel
theorem dX1_begin_6 : decode cX1_begin 6 = .ok (.iconst 0, 1) := by decide +kernel
theorem dX1_begin_7 : decode cX1_begin 7 = .ok (.putfield 15, 3) := by decide +kernel
theorem dX1_begin_10 : decode cX1_begin 10 = .ok (.aload_n 0, 1) := by decide +kernel
theorem dX1_begin_11 : decode cX1_begin 11 = .ok (.lconst 0, 1) := by decide +kernel
theorem dX1_begin_12 : decode cX1_begin 12 = .ok (.putfield 18, 3) := by decide +kernel
theorem dX1_begin_15 : decode cX1_begin 15 = .ok (.aload_n 0, 1) := by decide +kernel
theorem dX1_begin_16 : decode cX1_begin 16 = .ok (.iconst 0, 1) := by decide +kernel
theorem dX1_begin_17 : decode cX1_begin 17 = .ok (.putfield 22, 3) := by decide +kernel
theorem dX1_begin_20 : decode cX1_begin 20 = .ok (.aload_n 0, 1) := by decide +kernel
theorem dX1_begin_21 : decode cX1_begin 21 = .ok (.iload_n 2, 1) := by decide +kernel
theorem dX1_begin_22 : decode cX1_begin 22 = .ok (.putfield 25, 3) := by decide +kernel
theorem dX1_begin_25 : decode cX1_begin 25 = .ok (.aload_n 0, 1) := by decide +kernel
theorem dX1_begin_26 : decode cX1_begin 26 = .ok (.iconst 0, 1) := by decide +kernel
theorem dX1_begin_27 : decode cX1_begin 27 = .ok (.putfield 28, 3) := by decide +kernel
theorem dX1_begin_30 : decode cX1_begin 30 = .ok (.aload_n 0, 1) := by decide +kernel
theorem dX1_begin_31 : decode cX1_begin 31 = .ok (.iconst 0, 1) := by decide +kernel
theorem dX1_begin_32 : decode cX1_begin 32 = .ok (.putfield 31, 3) := by decide +kernel
theorem dX1_begin_35 : decode cX1_begin 35 = .ok (.aload_n 0, 1) := by decide +kernel
theorem dX1_begin_36 : decode cX1_begin 36 = .ok (.iconst 0, 1) := by decide +kernel
theorem dX1_begin_37 : decode cX1_begin 37 = .ok (.putfield 34, 3) := by decide +kernel
theorem dX1_begin_40 : decode cX1_begin 40 = .ok (.aload_n 0, 1) := by decide +kernel
theorem dX1_begin_41 : decode cX1_begin 41 = .ok (.iconst 0, 1) := by decide +kernel
theorem dX1_begin_42 : decode cX1_begin 42 = .ok (.putfield 37, 3) := by decide +kernel
theorem dX1_begin_45 : decode cX1_begin 45 = .ok (.aload_n 0, 1) := by decide +kernel
theorem dX1_begin_46 : decode cX1_begin 46 = .ok (.bipush (-6), 2) := by decide +kernel
theorem dX1_begin_48 : decode cX1_begin 48 = .ok (.putfield 40, 3) := by decide +kernel
theorem dX1_begin_51 : decode cX1_begin 51 = .ok (.return_, 1) := by decide +kernel
theorem dX1_copyFrom_0 : decode cX1_copyFrom 0 = .ok (.aload_n 0, 1) := by decide +kernel
theorem dX1_copyFrom_1 : decode cX1_copyFrom 1 = .ok (.aload_n 1, 1) := by decide +kernel
theorem dX1_copyFrom_2 : decode cX1_copyFrom 2 = .ok (.getfield 9, 3) := by decide +kernel
theorem dX1_copyFrom_5 : decode cX1_copyFrom 5 = .ok (.putfield 9, 3) := by decide +kernel
theorem dX1_copyFrom_8 : decode cX1_copyFrom 8 = .ok (.aload_n 0, 1) := by decide +kernel
theorem dX1_copyFrom_9 : decode cX1_copyFrom 9 = .ok (.aload_n 1, 1) := by decide +kernel
theorem dX1_copyFrom_10 : decode cX1_copyFrom 10 = .ok (.getfield 15, 3) := by decide +kernel
theorem dX1_copyFrom_13 : decode cX1_copyFrom 13 = .ok (.putfield 15, 3) := by decide +kernel
theorem dX1_copyFrom_16 : decode cX1_copyFrom 16 = .ok (.aload_n 0, 1) := by decide +kernel
theorem dX1_copyFrom_17 : decode cX1_copyFrom 17 = .ok (.aload_n 1, 1) := by decide +kernel
theorem dX1_copyFrom_18 : decode cX1_copyFrom 18 = .ok (.getfield 18, 3) := by decide +kernel
theorem dX1_copyFrom_21 : decode cX1_copyFrom 21 = .ok (.putfield 18, 3) := by decide +kernel
theorem dX1_copyFrom_24 : decode cX1_copyFrom 24 = .ok (.aload_n 0, 1) := by decide +kernel
theorem dX1_copyFrom_25 : decode cX1_copyFrom 25 = .ok (.aload_n 1, 1) := by decide +kernel
theorem dX1_copyFrom_26 : decode cX1_copyFrom 26 = .ok (.getfield 22, 3) := by decide +kernel
theorem dX1_copyFrom_29 : decode cX1_copyFrom 29 = .ok (.putfield 22, 3) := by decide +kernel
theorem dX1_copyFrom_32 : decode cX1_copyFrom 32 = .ok (.aload_n 0, 1) := by decide +kernel
theorem dX1_copyFrom_33 : decode cX1_copyFrom 33 = .ok (.aload_n 1, 1) := by decide +kernel
theorem dX1_copyFrom_34 : decode cX1_copyFrom 34 = .ok (.getfield 25, 3) := by decide +kernel
theorem dX1_copyFrom_37 : decode cX1_copyFrom 37 = .ok (.putfield 25, 3) := by decide +kernel
theorem dX1_copyFrom_40 : decode cX1_copyFrom 40 = .ok (.aload_n 0, 1) := by decide +kernel
theorem dX1_copyFrom_41 : decode cX1_copyFrom 41 = .ok (.aload_n 1, 1) := by decide +kernel
theorem dX1_copyFrom_42 : decode cX1_copyFrom 42 = .ok (.getfield 28, 3) := by decide +kernel
theorem dX1_copyFrom_45 : decode cX1_copyFrom 45 = .ok (.putfield 28, 3) := by decide +kernel
theorem dX1_copyFrom_48 : decode cX1_copyFrom 48 = .ok (.aload_n 0, 1) := by decide +kernel
theorem dX1_copyFrom_49 : decode cX1_copyFrom 49 = .ok (.aload_n 1, 1) := by decide +kernel
theorem dX1_copyFrom_50 : decode cX1_copyFrom 50 = .ok (.getfield 31, 3) := by decide +kernel
theorem dX1_copyFrom_53 : decode cX1_copyFrom 53 = .ok (.putfield 31, 3) := by decide +kernel
theorem dX1_copyFrom_56 : decode cX1_copyFrom 56 = .ok (.aload_n 0, 1) := by decide +kernel
theorem dX1_copyFrom_57 : decode cX1_copyFrom 57 = .ok (.aload_n 1, 1) := by decide +kernel
theorem dX1_copyFrom_58 : decode cX1_copyFrom 58 = .ok (.getfield 34, 3) := by decide +kernel
theorem dX1_copyFrom_61 : decode cX1_copyFrom 61 = .ok (.putfield 34, 3) := by decide +kernel
theorem dX1_copyFrom_64 : decode cX1_copyFrom 64 = .ok (.aload_n 0, 1) := by decide +kernel
theorem dX1_copyFrom_65 : decode cX1_copyFrom 65 = .ok (.aload_n 1, 1) := by decide +kernel
theorem dX1_copyFrom_66 : decode cX1_copyFrom 66 = .ok (.getfield 37, 3) := by decide +kernel
theorem dX1_copyFrom_69 : decode cX1_copyFrom 69 = .ok (.putfield 37, 3) := by decide +kernel
theorem dX1_copyFrom_72 : decode cX1_copyFrom 72 = .ok (.aload_n 0, 1) := by decide +kernel
theorem dX1_copyFrom_73 : decode cX1_copyFrom 73 = .ok (.aload_n 1, 1) := by decide +kernel
theorem dX1_copyFrom_74 : decode cX1_copyFrom 74 = .ok (.getfield 40, 3) := by decide +kernel
theorem dX1_copyFrom_77 : decode cX1_copyFrom 77 = .ok (.putfield 40, 3) := by decide +kernel
theorem dX1_copyFrom_80 : decode cX1_copyFrom 80 = .ok (.return_, 1) := by decide +kernel
theorem dX1_addWord_0 : decode cX1_addWord 0 = .ok (.aload_n 0, 1) := by decide +kernel
theorem dX1_addWord_1 : decode cX1_addWord 1 = .ok (.getfield 22, 3) := by decide +kernel
theorem dX1_addWord_4 : decode cX1_addWord 4 = .ok (.bipush 8, 2) := by decide +kernel
theorem dX1_addWord_6 : decode cX1_addWord 6 = .ok (.if_icmp .ge 32, 3) := by decide +kernel
theorem dX1_addWord_9 : decode cX1_addWord 9 = .ok (.aload_n 0, 1) := by decide +kernel
theorem dX1_addWord_10 : decode cX1_addWord 10 = .ok (.aload_n 0, 1) := by decide +kernel
theorem dX1_addWord_11 : decode cX1_addWord 11 = .ok (.getfield 18, 3) := by decide +kernel
theorem dX1_addWord_14 : decode cX1_addWord 14 = .ok (.iload_n 1, 1) := by decide +kernel
theorem dX1_addWord_15 : decode cX1_addWord 15 = .ok (.i2l, 1) := by decide +kernel
theorem dX1_addWord_16 : decode cX1_addWord 16 = .ok (.bipush 8, 2) := by decide +kernel
theorem dX1_addWord_18 : decode cX1_addWord 18 = .ok (.aload_n 0, 1) := by decide +kernel
theorem dX1_addWord_19 : decode cX1_addWord 19 = .ok (.getfield 22, 3) := by decide +kernel
theorem dX1_addWord_22 : decode cX1_addWord 22 = .ok (.imul, 1) := by decide +kernel
theorem dX1_addWord_23 : decode cX1_addWord 23 = .ok (.lshl, 1) := by decide +kernel
theorem dX1_addWord_24 : decode cX1_addWord 24 = .ok (.lor, 1) := by decide +kernel
theorem dX1_addWord_25 : decode cX1_addWord 25 = .ok (.putfield 18, 3) := by decide +kernel
theorem dX1_addWord_28 : decode cX1_addWord 28 = .ok (.aload_n 0, 1) := by decide +kernel
theorem dX1_addWord_29 : decode cX1_addWord 29 = .ok (.dup, 1) := by decide +kernel
theorem dX1_addWord_30 : decode cX1_addWord 30 = .ok (.getfield 22, 3) := by decide +kernel
theorem dX1_addWord_33 : decode cX1_addWord 33 = .ok (.iconst 1, 1) := by decide +kernel
theorem dX1_addWord_34 : decode cX1_addWord 34 = .ok (.iadd, 1) := by decide +kernel
theorem dX1_addWord_35 : decode cX1_addWord 35 = .ok (.putfield 22, 3) := by decide +kernel
theorem dX1_addWord_38 : decode cX1_addWord 38 = .ok (.return_, 1) := by decide +kernel
theorem dX1_codeAt_0 : decode cX1_codeAt 0 = .ok (.aload_n 0, 1) := by decide +kernel
theorem dX1_codeAt_1 : decode cX1_codeAt 1 = .ok (.getfield 18, 3) := by decide +kernel
theorem dX1_codeAt_4 : decode cX1_codeAt 4 = .ok (.bipush 8, 2) := by decide +kernel
theorem dX1_codeAt_6 : decode cX1_codeAt 6 = .ok (.iload_n 1, 1) := by decide +kernel
theorem dX1_codeAt_7 : decode cX1_codeAt 7 = .ok (.imul, 1) := by decide +kernel
theorem dX1_codeAt_8 : decode cX1_codeAt 8 = .ok (.lushr, 1) := by decide +kernel
theorem dX1_codeAt_9 : decode cX1_codeAt 9 = .ok (.l2i, 1) := by decide +kernel
theorem dX1_codeAt_10 : decode cX1_codeAt 10 = .ok (.sipush 255, 3) := by decide +kernel
theorem dX1_codeAt_13 : decode cX1_codeAt 13 = .ok (.iand, 1) := by decide +kernel
theorem dX1_codeAt_14 : decode cX1_codeAt 14 = .ok (.ireturn, 1) := by decide +kernel
theorem dX1_isStruckAt_0 : decode cX1_isStruckAt 0 = .ok (.aload_n 0, 1) := by decide +kernel
theorem dX1_isStruckAt_1 : decode cX1_isStruckAt 1 = .ok (.getfield 37, 3) := by decide +kernel
theorem dX1_isStruckAt_4 : decode cX1_isStruckAt 4 = .ok (.iload_n 1, 1) := by decide +kernel
theorem dX1_isStruckAt_5 : decode cX1_isStruckAt 5 = .ok (.iushr, 1) := by decide +kernel
theorem dX1_isStruckAt_6 : decode cX1_isStruckAt 6 = .ok (.iconst 1, 1) := by decide +kernel
theorem dX1_isStruckAt_7 : decode cX1_isStruckAt 7 = .ok (.iand, 1) := by decide +kernel
theorem dX1_isStruckAt_8 : decode cX1_isStruckAt 8 = .ok (.ifCond .eq 7, 3) := by decide +kernel
theorem dX1_isStruckAt_11 : decode cX1_isStruckAt 11 = .ok (.iconst 1, 1) := by decide +kernel
theorem dX1_isStruckAt_12 : decode cX1_isStruckAt 12 = .ok (.goto 4, 3) := by decide +kernel
theorem dX1_isStruckAt_15 : decode cX1_isStruckAt 15 = .ok (.iconst 0, 1) := by decide +kernel
theorem dX1_isStruckAt_16 : decode cX1_isStruckAt 16 = .ok (.ireturn, 1) := by decide +kernel
theorem dX1_struckCount_0 : decode cX1_struckCount 0 = .ok (.aload_n 0, 1) := by decide +kernel
theorem dX1_struckCount_1 : decode cX1_struckCount 1 = .ok (.getfield 37, 3) := by decide +kernel
theorem dX1_struckCount_4 : decode cX1_struckCount 4 = .ok (.invokestatic 43, 3) := by decide +kernel
theorem dX1_struckCount_7 : decode cX1_struckCount 7 = .ok (.ireturn, 1) := by decide +kernel
theorem dX1_placesOf_0 : decode cX1_placesOf 0 = .ok (.iconst 0, 1) := by decide +kernel
theorem dX1_placesOf_1 : decode cX1_placesOf 1 = .ok (.istore_n 2, 1) := by decide +kernel
theorem dX1_placesOf_2 : decode cX1_placesOf 2 = .ok (.aload_n 0, 1) := by decide +kernel
theorem dX1_placesOf_3 : decode cX1_placesOf 3 = .ok (.getfield 18, 3) := by decide +kernel
theorem dX1_placesOf_6 : decode cX1_placesOf 6 = .ok (.lstore_n 3, 1) := by decide +kernel
theorem dX1_placesOf_7 : decode cX1_placesOf 7 = .ok (.iconst 0, 1) := by decide +kernel
theorem dX1_placesOf_8 : decode cX1_placesOf 8 = .ok (.istore 5, 2) := by decide +kernel
theorem dX1_placesOf_10 : decode cX1_placesOf 10 = .ok (.iload 5, 2) := by decide +kernel
theorem dX1_placesOf_12 : decode cX1_placesOf 12 = .ok (.aload_n 0, 1) := by decide +kernel
theorem dX1_placesOf_13 : decode cX1_placesOf 13 = .ok (.getfield 22, 3) := by decide +kernel
theorem dX1_placesOf_16 : decode cX1_placesOf 16 = .ok (.if_icmp .ge 41, 3) := by decide +kernel
theorem dX1_placesOf_19 : decode cX1_placesOf 19 = .ok (.lload_n 3, 1) := by decide +kernel
theorem dX1_placesOf_20 : decode cX1_placesOf 20 = .ok (.ldc2_w 49, 3) := by decide +kernel
theorem dX1_placesOf_23 : decode cX1_placesOf 23 = .ok (.land, 1) := by decide +kernel
theorem dX1_placesOf_24 : decode cX1_placesOf 24 = .ok (.l2i, 1) := by decide +kernel
theorem dX1_placesOf_25 : decode cX1_placesOf 25 = .ok (.bipush 97, 2) := by decide +kernel
theorem dX1_placesOf_27 : decode cX1_placesOf 27 = .ok (.isub, 1) := by decide +kernel
theorem dX1_placesOf_28 : decode cX1_placesOf 28 = .ok (.istore 6, 2) := by decide +kernel
theorem dX1_placesOf_30 : decode cX1_placesOf 30 = .ok (.iload_n 1, 1) := by decide +kernel
theorem dX1_placesOf_31 : decode cX1_placesOf 31 = .ok (.iload 6, 2) := by decide +kernel
theorem dX1_placesOf_33 : decode cX1_placesOf 33 = .ok (.iushr, 1) := by decide +kernel
theorem dX1_placesOf_34 : decode cX1_placesOf 34 = .ok (.iconst 1, 1) := by decide +kernel
theorem dX1_placesOf_35 : decode cX1_placesOf 35 = .ok (.iand, 1) := by decide +kernel
theorem dX1_placesOf_36 : decode cX1_placesOf 36 = .ok (.ifCond .eq 10, 3) := by decide +kernel
theorem dX1_placesOf_39 : decode cX1_placesOf 39 = .ok (.iload_n 2, 1) := by decide +kernel
theorem dX1_placesOf_40 : decode cX1_placesOf 40 = .ok (.iconst 1, 1) := by decide +kernel
theorem dX1_placesOf_41 : decode cX1_placesOf 41 = .ok (.iload 5, 2) := by decide +kernel
theorem dX1_placesOf_43 : decode cX1_placesOf 43 = .ok (.ishl, 1) := by decide +kernel
theorem dX1_placesOf_44 : decode cX1_placesOf 44 = .ok (.ior, 1) := by decide +kernel
theorem dX1_placesOf_45 : decode cX1_placesOf 45 = .ok (.istore_n 2, 1) := by decide +kernel
theorem dX1_placesOf_46 : decode cX1_placesOf 46 = .ok (.lload_n 3, 1) := by decide +kernel
theorem dX1_placesOf_47 : decode cX1_placesOf 47 = .ok (.bipush 8, 2) := by decide +kernel
theorem dX1_placesOf_49 : decode cX1_placesOf 49 = .ok (.lushr, 1) := by decide +kernel
theorem dX1_placesOf_50 : decode cX1_placesOf 50 = .ok (.lstore_n 3, 1) := by decide +kernel
theorem dX1_placesOf_51 : decode cX1_placesOf 51 = .ok (.iinc 5 1, 3) := by decide +kernel
theorem dX1_placesOf_54 : decode cX1_placesOf 54 = .ok (.goto (-44), 3) := by decide +kernel
theorem dX1_placesOf_57 : decode cX1_placesOf 57 = .ok (.iload_n 2, 1) := by decide +kernel
theorem dX1_placesOf_58 : decode cX1_placesOf 58 = .ok (.ireturn, 1) := by decide +kernel
theorem dX2_init_0 : decode cX2_init 0 = .ok (.aload_n 0, 1) := by decide +kernel
theorem dX2_init_1 : decode cX2_init 1 = .ok (.invokespecial 3, 3) := by decide +kernel
theorem dX2_init_4 : decode cX2_init 4 = .ok (.aload_n 0, 1) := by decide +kernel
theorem dX2_init_5 : decode cX2_init 5 = .ok (.iconst 3, 1) := by decide +kernel
theorem dX2_init_6 : decode cX2_init 6 = .ok (.newarray .int, 2) := by decide +kernel
theorem dX2_init_8 : decode cX2_init 8 = .ok (.dup, 1) := by decide +kernel
theorem dX2_init_9 : decode cX2_init 9 = .ok (.iconst 0, 1) := by decide +kernel
theorem dX2_init_10 : decode cX2_init 10 = .ok (.iconst 3, 1) := by decide +kernel
theorem dX2_init_11 : decode cX2_init 11 = .ok (.iastore, 1) := by decide +kernel
theorem dX2_init_12 : decode cX2_init 12 = .ok (.dup, 1) := by decide +kernel
theorem dX2_init_13 : decode cX2_init 13 = .ok (.iconst 1, 1) := by decide +kernel
theorem dX2_init_14 : decode cX2_init 14 = .ok (.iconst 2, 1) := by decide +kernel
theorem dX2_init_15 : decode cX2_init 15 = .ok (.iastore, 1) := by decide +kernel
theorem dX2_init_16 : decode cX2_init 16 = .ok (.dup, 1) := by decide +kernel
theorem dX2_init_17 : decode cX2_init 17 = .ok (.iconst 2, 1) := by decide +kernel
theorem dX2_init_18 : decode cX2_init 18 = .ok (.iconst 2, 1) := by decide +kernel
theorem dX2_init_19 : decode cX2_init 19 = .ok (.iastore, 1) := by decide +kernel
theorem dX2_init_20 : decode cX2_init 20 = .ok (.putfield 9, 3) := by decide +kernel
theorem dX2_init_23 : decode cX2_init 23 = .ok (.aload_n 0, 1) := by decide +kernel
theorem dX2_init_24 : decode cX2_init 24 = .ok (.iconst 4, 1) := by decide +kernel
theorem dX2_init_25 : decode cX2_init 25 = .ok (.anewarray 15, 3) := by decide +kernel
theorem dX2_init_28 : decode cX2_init 28 = .ok (.putfield 17, 3) := by decide +kernel
theorem dX2_init_31 : decode cX2_init 31 = .ok (.aload_n 0, 1) := by decide +kernel
theorem dX2_init_32 : decode cX2_init 32 = .ok (.bipush 8, 2) := by decide +kernel
theorem dX2_init_34 : decode cX2_init 34 = .ok (.newarray .int, 2) := by decide +kernel
theorem dX2_init_36 : decode cX2_init 36 = .ok (.putfield 21, 3) := by decide +kernel
theorem dX2_init_39 : decode cX2_init 39 = .ok (.aload_n 0, 1) := by decide +kernel
theorem dX2_init_40 : decode cX2_init 40 = .ok (.bipush 40, 2) := by decide +kernel
theorem dX2_init_42 : decode cX2_init 42 = .ok (.anewarray 24, 3) := by decide +kernel
theorem dX2_init_45 : decode cX2_init 45 = .ok (.putfield 26, 3) := by decide +kernel
theorem dX2_init_48 : decode cX2_init 48 = .ok (.aload_n 0, 1) := by decide +kernel
theorem dX2_init_49 : decode cX2_init 49 = .ok (.iconst 2, 1) := by decide +kernel
theorem dX2_init_50 : decode cX2_init 50 = .ok (.anewarray 30, 3) := by decide +kernel
theorem dX2_init_53 : decode cX2_init 53 = .ok (.putfield 32, 3) := by decide +kernel
theorem dX2_init_56 : decode cX2_init 56 = .ok (.aload_n 0, 1) := by decide +kernel
theorem dX2_init_57 : decode cX2_init 57 = .ok (.new 30, 3) := by decide +kernel
theorem dX2_init_60 : decode cX2_init 60 = .ok (.dup, 1) := by decide +kernel
theorem dX2_init_61 : decode cX2_init 61 = .ok (.invokespecial 36, 3) := by decide +kernel
theorem dX2_init_64 : decode cX2_init 64 = .ok (.putfield 37, 3) := by decide +kernel
theorem dX2_init_67 : decode cX2_init 67 = .ok (.aload_n 0, 1) := by decide +kernel
theorem dX2_init_68 : decode cX2_init 68 = .ok (.iconst 5, 1) := by decide +kernel
theorem dX2_init_69 : decode cX2_init 69 = .ok (.newarray .int, 2) := by decide +kernel
theorem dX2_init_71 : decode cX2_init 71 = .ok (.putfield 41, 3) := by decide +kernel
theorem dX2_init_74 : decode cX2_init 74 = .ok (.iconst 0, 1) := by decide +kernel
theorem dX2_init_75 : decode cX2_init 75 = .ok (.istore_n 1, 1) := by decide +kernel
theorem dX2_init_76 : decode cX2_init 76 = .ok (.iload_n 1, 1) := by decide +kernel
theorem dX2_init_77 : decode cX2_init 77 = .ok (.iconst 4, 1) := by decide +kernel
theorem dX2_init_78 : decode cX2_init 78 = .ok (.if_icmp .ge 22, 3) := by decide +kernel
theorem dX2_init_81 : decode cX2_init 81 = .ok (.aload_n 0, 1) := by decide +kernel
theorem dX2_init_82 : decode cX2_init 82 = .ok (.getfield 17, 3) := by decide +kernel
theorem dX2_init_85 : decode cX2_init 85 = .ok (.iload_n 1, 1) := by decide +kernel
theorem dX2_init_86 : decode cX2_init 86 = .ok (.new 15, 3) := by decide +kernel
theorem dX2_init_89 : decode cX2_init 89 = .ok (.dup, 1) := by decide +kernel
theorem dX2_init_90 : decode cX2_init 90 = .ok (.invokespecial 44, 3) := by decide +kernel
theorem dX2_init_93 : decode cX2_init 93 = .ok (.aastore, 1) := by decide +kernel
theorem dX2_init_94 : decode cX2_init 94 = .ok (.iinc 1 1, 3) := by decide +kernel
theorem dX2_init_97 : decode cX2_init 97 = .ok (.goto (-21), 3) := by decide +kernel
theorem dX2_init_100 : decode cX2_init 100 = .ok (.iconst 0, 1) := by decide +kernel
theorem dX2_init_101 : decode cX2_init 101 = .ok (.istore_n 1, 1) := by decide +kernel
theorem dX2_init_102 : decode cX2_init 102 = .ok (.iload_n 1, 1) := by decide +kernel
theorem dX2_init_103 : decode cX2_init 103 = .ok (.bipush 8, 2) := by decide +kernel
theorem dX2_init_105 : decode cX2_init 105 = .ok (.if_icmp .ge 24, 3) := by decide +kernel
theorem dX2_init_108 : decode cX2_init 108 = .ok (.aload_n 0, 1) := by decide +kernel
theorem dX2_init_109 : decode cX2_init 109 = .ok (.getfield 21, 3) := by decide +kernel
theorem dX2_init_112 : decode cX2_init 112 = .ok (.iload_n 1, 1) := by decide +kernel
theorem dX2_init_113 : decode cX2_init 113 = .ok (.iload_n 1, 1) := by decide +kernel
theorem dX2_init_114 : decode cX2_init 114 = .ok (.iconst 2, 1) := by decide +kernel
theorem dX2_init_115 : decode cX2_init 115 = .ok (.idiv, 1) := by decide +kernel
theorem dX2_init_116 : decode cX2_init 116 = .ok (.iload_n 1, 1) := by decide +kernel
theorem dX2_init_117 : decode cX2_init 117 = .ok (.iconst 2, 1) := by decide +kernel
theorem dX2_init_118 : decode cX2_init 118 = .ok (.irem, 1) := by decide +kernel
theorem dX2_init_119 : decode cX2_init 119 = .ok (.iadd, 1) := by decide +kernel
theorem dX2_init_120 : decode cX2_init 120 = .ok (.iconst 4, 1) := by decide +kernel
theorem dX2_init_121 : decode cX2_init 121 = .ok (.irem, 1) := by decide +kernel
theorem dX2_init_122 : decode cX2_init 122 = .ok (.iastore, 1) := by decide +kernel
theorem dX2_init_123 : decode cX2_init 123 = .ok (.iinc 1 1, 3) := by decide +kernel
theorem dX2_init_126 : decode cX2_init 126 = .ok (.goto (-24), 3) := by decide +kernel
theorem dX2_init_129 : decode cX2_init 129 = .ok (.iconst 0, 1) := by decide +kernel
theorem dX2_init_130 : decode cX2_init 130 = .ok (.istore_n 1, 1) := by decide +kernel
theorem dX2_init_131 : decode cX2_init 131 = .ok (.iload_n 1, 1) := by decide +kernel
theorem dX2_init_132 : decode cX2_init 132 = .ok (.bipush 40, 2) := by decide +kernel
theorem dX2_init_134 : decode cX2_init 134 = .ok (.if_icmp .ge 22, 3) := by decide +kernel
theorem dX2_init_137 : decode cX2_init 137 = .ok (.aload_n 0, 1) := by decide +kernel
theorem dX2_init_138 : decode cX2_init 138 = .ok (.getfield 26, 3) := by decide +kernel
theorem dX2_init_141 : decode cX2_init 141 = .ok (.iload_n 1, 1) := by decide +kernel
theorem dX2_init_142 : decode cX2_init 142 = .ok (.new 24, 3) := by decide +kernel
theorem dX2_init_145 : decode cX2_init 145 = .ok (.dup, 1) := by decide +kernel
theorem dX2_init_146 : decode cX2_init 146 = .ok (.invokespecial 45, 3) := by decide +kernel
theorem dX2_init_149 : decode cX2_init 149 = .ok (.aastore, 1) := by decide +kernel
theorem dX2_init_150 : decode cX2_init 150 = .ok (.iinc 1 1, 3) := by decide +kernel
theorem dX2_init_153 : decode cX2_init 153 = .ok (.goto (-22), 3) := by decide +kernel
theorem dX2_init_156 : decode cX2_init 156 = .ok (.iconst 0, 1) := by decide +kernel
theorem dX2_init_157 : decode cX2_init 157 = .ok (.istore_n 1, 1) := by decide +kernel
theorem dX2_init_158 : decode cX2_init 158 = .ok (.iload_n 1, 1) := by decide +kernel
theorem dX2_init_159 : decode cX2_init 159 = .ok (.iconst 2, 1) := by decide +kernel
theorem dX2_init_160 : decode cX2_init 160 = .ok (.if_icmp .ge 22, 3) := by decide +kernel
theorem dX2_init_163 : decode cX2_init 163 = .ok (.aload_n 0, 1) := by decide +kernel
theorem dX2_init_164 : decode cX2_init 164 = .ok (.getfield 32, 3) := by decide +kernel
theorem dX2_init_167 : decode cX2_init 167 = .ok (.iload_n 1, 1) := by decide +kernel
theorem dX2_init_168 : decode cX2_init 168 = .ok (.new 30, 3) := by decide +kernel
theorem dX2_init_171 : decode cX2_init 171 = .ok (.dup, 1) := by decide +kernel
theorem dX2_init_172 : decode cX2_init 172 = .ok (.invokespecial 36, 3) := by decide +kernel
theorem dX2_init_175 : decode cX2_init 175 = .ok (.aastore, 1) := by decide +kernel
theorem dX2_init_176 : decode cX2_init 176 = .ok (.iinc 1 1, 3) := by decide +kernel
theorem dX2_init_179 : decode cX2_init 179 = .ok (.goto (-21), 3) := by decide +kernel
theorem dX2_init_182 : decode cX2_init 182 = .ok (.return_, 1) := by decide +kernel
theorem dX2_copyFrom_0 : decode cX2_copyFrom 0 = .ok (.aload_n 1, 1) := by decide +kernel
theorem dX2_copyFrom_1 : decode cX2_copyFrom 1 = .ok (.getfield 9, 3) := by decide +kernel
theorem dX2_copyFrom_4 : decode cX2_copyFrom 4 = .ok (.iconst 0, 1) := by decide +kernel
theorem dX2_copyFrom_5 : decode cX2_copyFrom 5 = .ok (.aload_n 0, 1) := by decide +kernel
theorem dX2_copyFrom_6 : decode cX2_copyFrom 6 = .ok (.getfield 9, 3) := by decide +kernel
theorem dX2_copyFrom_9 : decode cX2_copyFrom 9 = .ok (.iconst 0, 1) := by decide +kernel
theorem dX2_copyFrom_10 : decode cX2_copyFrom 10 = .ok (.iconst 3, 1) := by decide +kernel
theorem dX2_copyFrom_11 : decode cX2_copyFrom 11 = .ok (.invokestatic 46, 3) := by decide +kernel
theorem dX2_copyFrom_14 : decode cX2_copyFrom 14 = .ok (.aload_n 1, 1) := by decide +kernel
theorem dX2_copyFrom_15 : decode cX2_copyFrom 15 = .ok (.getfield 21, 3) := by decide +kernel
theorem dX2_copyFrom_18 : decode cX2_copyFrom 18 = .ok (.iconst 0, 1) := by decide +kernel
theorem dX2_copyFrom_19 : decode cX2_copyFrom 19 = .ok (.aload_n 0, 1) := by decide +kernel
theorem dX2_copyFrom_20 : decode cX2_copyFrom 20 = .ok (.getfield 21, 3) := by decide +kernel
theorem dX2_copyFrom_23 : decode cX2_copyFrom 23 = .ok (.iconst 0, 1) := by decide +kernel
theorem dX2_copyFrom_24 : decode cX2_copyFrom 24 = .ok (.bipush 8, 2) := by decide +kernel
theorem dX2_copyFrom_26 : decode cX2_copyFrom 26 = .ok (.invokestatic 46, 3) := by decide +kernel
theorem dX2_copyFrom_29 : decode cX2_copyFrom 29 = .ok (.iconst 0, 1) := by decide +kernel
theorem dX2_copyFrom_30 : decode cX2_copyFrom 30 = .ok (.istore_n 2, 1) := by decide +kernel
theorem dX2_copyFrom_31 : decode cX2_copyFrom 31 = .ok (.iload_n 2, 1) := by decide +kernel
theorem dX2_copyFrom_32 : decode cX2_copyFrom 32 = .ok (.iconst 4, 1) := by decide +kernel
theorem dX2_copyFrom_33 : decode cX2_copyFrom 33 = .ok (.if_icmp .ge 24, 3) := by decide +kernel
theorem dX2_copyFrom_36 : decode cX2_copyFrom 36 = .ok (.aload_n 0, 1) := by decide +kernel
theorem dX2_copyFrom_37 : decode cX2_copyFrom 37 = .ok (.getfield 17, 3) := by decide +kernel
theorem dX2_copyFrom_40 : decode cX2_copyFrom 40 = .ok (.iload_n 2, 1) := by decide +kernel
theorem dX2_copyFrom_41 : decode cX2_copyFrom 41 = .ok (.aaload, 1) := by decide +kernel
theorem dX2_copyFrom_42 : decode cX2_copyFrom 42 = .ok (.aload_n 1, 1) := by decide +kernel
theorem dX2_copyFrom_43 : decode cX2_copyFrom 43 = .ok (.getfield 17, 3) := by decide +kernel
theorem dX2_copyFrom_46 : decode cX2_copyFrom 46 = .ok (.iload_n 2, 1) := by decide +kernel
theorem dX2_copyFrom_47 : decode cX2_copyFrom 47 = .ok (.aaload, 1) := by decide +kernel
theorem dX2_copyFrom_48 : decode cX2_copyFrom 48 = .ok (.invokevirtual 52, 3) := by decide +kernel
theorem dX2_copyFrom_51 : decode cX2_copyFrom 51 = .ok (.iinc 2 1, 3) := by decide +kernel
theorem dX2_copyFrom_54 : decode cX2_copyFrom 54 = .ok (.goto (-23), 3) := by decide +kernel
theorem dX2_copyFrom_57 : decode cX2_copyFrom 57 = .ok (.iconst 0, 1) := by decide +kernel
theorem dX2_copyFrom_58 : decode cX2_copyFrom 58 = .ok (.istore_n 2, 1) := by decide +kernel
theorem dX2_copyFrom_59 : decode cX2_copyFrom 59 = .ok (.iload_n 2, 1) := by decide +kernel
theorem dX2_copyFrom_60 : decode cX2_copyFrom 60 = .ok (.aload_n 1, 1) := by decide +kernel
theorem dX2_copyFrom_61 : decode cX2_copyFrom 61 = .ok (.getfield 56, 3) := by decide +kernel
theorem dX2_copyFrom_64 : decode cX2_copyFrom 64 = .ok (.if_icmp .ge 24, 3) := by decide +kernel
theorem dX2_copyFrom_67 : decode cX2_copyFrom 67 = .ok (.aload_n 0, 1) := by decide +kernel
theorem dX2_copyFrom_68 : decode cX2_copyFrom 68 = .ok (.getfield 26, 3) := by decide +kernel
theorem dX2_copyFrom_71 : decode cX2_copyFrom 71 = .ok (.iload_n 2, 1) := by decide +kernel
theorem dX2_copyFrom_72 : decode cX2_copyFrom 72 = .ok (.aaload, 1) := by decide +kernel
theorem dX2_copyFrom_73 : decode cX2_copyFrom 73 = .ok (.aload_n 1, 1) := by decide +kernel
theorem dX2_copyFrom_74 : decode cX2_copyFrom 74 = .ok (.getfield 26, 3) := by decide +kernel
theorem dX2_copyFrom_77 : decode cX2_copyFrom 77 = .ok (.iload_n 2, 1) := by decide +kernel
theorem dX2_copyFrom_78 : decode cX2_copyFrom 78 = .ok (.aaload, 1) := by decide +kernel
theorem dX2_copyFrom_79 : decode cX2_copyFrom 79 = .ok (.invokevirtual 60, 3) := by decide +kernel
theorem dX2_copyFrom_82 : decode cX2_copyFrom 82 = .ok (.iinc 2 1, 3) := by decide +kernel
theorem dX2_copyFrom_85 : decode cX2_copyFrom 85 = .ok (.goto (-26), 3) := by decide +kernel
theorem dX2_copyFrom_88 : decode cX2_copyFrom 88 = .ok (.iconst 0, 1) := by decide +kernel
theorem dX2_copyFrom_89 : decode cX2_copyFrom 89 = .ok (.istore_n 2, 1) := by decide +kernel
theorem dX2_copyFrom_90 : decode cX2_copyFrom 90 = .ok (.iload_n 2, 1) := by decide +kernel
theorem dX2_copyFrom_91 : decode cX2_copyFrom 91 = .ok (.iconst 2, 1) := by decide +kernel
theorem dX2_copyFrom_92 : decode cX2_copyFrom 92 = .ok (.if_icmp .ge 24, 3) := by decide +kernel
theorem dX2_copyFrom_95 : decode cX2_copyFrom 95 = .ok (.aload_n 0, 1) := by decide +kernel
theorem dX2_copyFrom_96 : decode cX2_copyFrom 96 = .ok (.getfield 32, 3) := by decide +kernel
theorem dX2_copyFrom_99 : decode cX2_copyFrom 99 = .ok (.iload_n 2, 1) := by decide +kernel
theorem dX2_copyFrom_100 : decode cX2_copyFrom 100 = .ok (.aaload, 1) := by decide +kernel
theorem dX2_copyFrom_101 : decode cX2_copyFrom 101 = .ok (.aload_n 1, 1) := by decide +kernel
theorem dX2_copyFrom_102 : decode cX2_copyFrom 102 = .ok (.getfield 32, 3) := by decide +kernel
theorem dX2_copyFrom_105 : decode cX2_copyFrom 105 = .ok (.iload_n 2, 1) := by decide +kernel
theorem dX2_copyFrom_106 : decode cX2_copyFrom 106 = .ok (.aaload, 1) := by decide +kernel
theorem dX2_copyFrom_107 : decode cX2_copyFrom 107 = .ok (.invokevirtual 63, 3) := by decide +kernel
theorem dX2_copyFrom_110 : decode cX2_copyFrom 110 = .ok (.iinc 2 1, 3) := by decide +kernel
theorem dX2_copyFrom_113 : decode cX2_copyFrom 113 = .ok (.goto (-23), 3) := by decide +kernel
theorem dX2_copyFrom_116 : decode cX2_copyFrom 116 = .ok (.aload_n 0, 1) := by decide +kernel
theorem dX2_copyFrom_117 : decode cX2_copyFrom 117 = .ok (.aload_n 1, 1) := by decide +kernel
theorem dX2_copyFrom_118 : decode cX2_copyFrom 118 = .ok (.getfield 56, 3) := by decide +kernel
theorem dX2_copyFrom_121 : decode cX2_copyFrom 121 = .ok (.putfield 56, 3) := by decide +kernel
theorem dX2_copyFrom_124 : decode cX2_copyFrom 124 = .ok (.aload_n 0, 1) := by decide +kernel
theorem dX2_copyFrom_125 : decode cX2_copyFrom 125 = .ok (.aload_n 1, 1) := by decide +kernel
theorem dX2_copyFrom_126 : decode cX2_copyFrom 126 = .ok (.getfield 66, 3) := by decide +kernel
theorem dX2_copyFrom_129 : decode cX2_copyFrom 129 = .ok (.putfield 66, 3) := by decide +kernel
theorem dX2_copyFrom_132 : decode cX2_copyFrom 132 = .ok (.return_, 1) := by decide +kernel
theorem dX2_hasLetter_0 : decode cX2_hasLetter 0 = .ok (.iload_n 1, 1) := by decide +kernel
theorem dX2_hasLetter_1 : decode cX2_hasLetter 1 = .ok (.ifCond .lt 15, 3) := by decide +kernel
theorem dX2_hasLetter_4 : decode cX2_hasLetter 4 = .ok (.iload_n 1, 1) := by decide +kernel
theorem dX2_hasLetter_5 : decode cX2_hasLetter 5 = .ok (.aload_n 0, 1) := by decide +kernel
theorem dX2_hasLetter_6 : decode cX2_hasLetter 6 = .ok (.getfield 56, 3) := by decide +kernel
theorem dX2_hasLetter_9 : decode cX2_hasLetter 9 = .ok (.if_icmp .ge 7, 3) := by decide +kernel
theorem dX2_hasLetter_12 : decode cX2_hasLetter 12 = .ok (.iconst 1, 1) := by decide +kernel
theorem dX2_hasLetter_13 : decode cX2_hasLetter 13 = .ok (.goto 4, 3) := by decide +kernel
theorem dX2_hasLetter_16 : decode cX2_hasLetter 16 = .ok (.iconst 0, 1) := by decide +kernel
theorem dX2_hasLetter_17 : decode cX2_hasLetter 17 = .ok (.ireturn, 1) := by decide +kernel
theorem dX2_beginLetter_0 : decode cX2_beginLetter 0 = .ok (.aload_n 0, 1) := by decide +kernel
theorem dX2_beginLetter_1 : decode cX2_beginLetter 1 = .ok (.getfield 56, 3) := by decide +kernel
theorem dX2_beginLetter_4 : decode cX2_beginLetter 4 = .ok (.bipush 40, 2) := by decide +kernel
theorem dX2_beginLetter_6 : decode cX2_beginLetter 6 = .ok (.if_icmp .lt 5, 3) := by decide +kernel
theorem dX2_beginLetter_9 : decode cX2_beginLetter 9 = .ok (.aconst_null, 1) := by decide +kernel
theorem dX2_beginLetter_10 : decode cX2_beginLetter 10 = .ok (.areturn, 1) := by decide +kernel
theorem dX2_beginLetter_11 : decode cX2_beginLetter 11 = .ok (.aload_n 0, 1) := by decide +kernel
theorem dX2_beginLetter_12 : decode cX2_beginLetter 12 = .ok (.getfield 26, 3) := by decide +kernel
theorem dX2_beginLetter_15 : decode cX2_beginLetter 15 = .ok (.aload_n 0, 1) := by decide +kernel
theorem dX2_beginLetter_16 : decode cX2_beginLetter 16 = .ok (.getfield 56, 3) := by decide +kernel
theorem dX2_beginLetter_19 : decode cX2_beginLetter 19 = .ok (.aaload, 1) := by decide +kernel
theorem dX2_beginLetter_20 : decode cX2_beginLetter 20 = .ok (.astore_n 2, 1) := by decide +kernel
theorem dX2_beginLetter_21 : decode cX2_beginLetter 21 = .ok (.aload_n 2, 1) := by decide +kernel
theorem dX2_beginLetter_22 : decode cX2_beginLetter 22 = .ok (.iload_n 1, 1) := by decide +kernel
theorem dX2_beginLetter_23 : decode cX2_beginLetter 23 = .ok (.aload_n 0, 1) := by decide +kernel
theorem dX2_beginLetter_24 : decode cX2_beginLetter 24 = .ok (.getfield 66, 3) := by decide +kernel
theorem dX2_beginLetter_27 : decode cX2_beginLetter 27 = .ok (.invokevirtual 69, 3) := by decide +kernel
theorem dX2_beginLetter_30 : decode cX2_beginLetter 30 = .ok (.aload_n 0, 1) := by decide +kernel
theorem dX2_beginLetter_31 : decode cX2_beginLetter 31 = .ok (.dup, 1) := by decide +kernel
theorem dX2_beginLetter_32 : decode cX2_beginLetter 32 = .ok (.getfield 56, 3) := by decide +kernel
theorem dX2_beginLetter_35 : decode cX2_beginLetter 35 = .ok (.iconst 1, 1) := by decide +kernel
theorem dX2_beginLetter_36 : decode cX2_beginLetter 36 = .ok (.iadd, 1) := by decide +kernel
theorem dX2_beginLetter_37 : decode cX2_beginLetter 37 = .ok (.putfield 56, 3) := by decide +kernel
theorem dX2_beginLetter_40 : decode cX2_beginLetter 40 = .ok (.aload_n 2, 1) := by decide +kernel
theorem dX2_beginLetter_41 : decode cX2_beginLetter 41 = .ok (.areturn, 1) := by decide +kernel
theorem dX2_sendNewest_0 : decode cX2_sendNewest 0 = .ok (.aload_n 0, 1) := by decide +kernel
theorem dX2_sendNewest_1 : decode cX2_sendNewest 1 = .ok (.getfield 56, 3) := by decide +kernel
theorem dX2_sendNewest_4 : decode cX2_sendNewest 4 = .ok (.ifCond .le 33, 3) := by decide +kernel
theorem dX2_sendNewest_7 : decode cX2_sendNewest 7 = .ok (.aload_n 0, 1) := by decide +kernel
theorem dX2_sendNewest_8 : decode cX2_sendNewest 8 = .ok (.getfield 26, 3) := by decide +kernel
theorem dX2_sendNewest_11 : decode cX2_sendNewest 11 = .ok (.aload_n 0, 1) := by decide +kernel
theorem dX2_sendNewest_12 : decode cX2_sendNewest 12 = .ok (.getfield 56, 3) := by decide +kernel
theorem dX2_sendNewest_15 : decode cX2_sendNewest 15 = .ok (.iconst 1, 1) := by decide +kernel
theorem dX2_sendNewest_16 : decode cX2_sendNewest 16 = .ok (.isub, 1) := by decide +kernel
theorem dX2_sendNewest_17 : decode cX2_sendNewest 17 = .ok (.aaload, 1) := by decide +kernel
theorem dX2_sendNewest_18 : decode cX2_sendNewest 18 = .ok (.iload_n 1, 1) := by decide +kernel
theorem dX2_sendNewest_19 : decode cX2_sendNewest 19 = .ok (.putfield 73, 3) := by decide +kernel
theorem dX2_sendNewest_22 : decode cX2_sendNewest 22 = .ok (.aload_n 0, 1) := by decide +kernel
theorem dX2_sendNewest_23 : decode cX2_sendNewest 23 = .ok (.getfield 32, 3) := by decide +kernel
theorem dX2_sendNewest_26 : decode cX2_sendNewest 26 = .ok (.iload_n 1, 1) := by decide +kernel
theorem dX2_sendNewest_27 : decode cX2_sendNewest 27 = .ok (.aaload, 1) := by decide +kernel
theorem dX2_sendNewest_28 : decode cX2_sendNewest 28 = .ok (.aload_n 0, 1) := by decide +kernel
theorem dX2_sendNewest_29 : decode cX2_sendNewest 29 = .ok (.getfield 56, 3) := by decide +kernel
theorem dX2_sendNewest_32 : decode cX2_sendNewest 32 = .ok (.iconst 1, 1) := by decide +kernel
theorem dX2_sendNewest_33 : decode cX2_sendNewest 33 = .ok (.isub, 1) := by decide +kernel
theorem dX2_sendNewest_34 : decode cX2_sendNewest 34 = .ok (.invokevirtual 76, 3) := by decide +kernel
theorem dX2_sendNewest_37 : decode cX2_sendNewest 37 = .ok (.return_, 1) := by decide +kernel
theorem dX2_burnWaiting_0 : decode cX2_burnWaiting 0 = .ok (.aload_n 0, 1) := by decide +kernel
theorem dX2_burnWaiting_1 : decode cX2_burnWaiting 1 = .ok (.getfield 26, 3) := by decide +kernel
theorem dX2_burnWaiting_4 : decode cX2_burnWaiting 4 = .ok (.iload_n 1, 1) := by decide +kernel
theorem dX2_burnWaiting_5 : decode cX2_burnWaiting 5 = .ok (.aaload, 1) := by decide +kernel
theorem dX2_burnWaiting_6 : decode cX2_burnWaiting 6 = .ok (.iconst 2, 1) := by decide +kernel
theorem dX2_burnWaiting_7 : decode cX2_burnWaiting 7 = .ok (.putfield 80, 3) := by decide +kernel
theorem dX2_burnWaiting_10 : decode cX2_burnWaiting 10 = .ok (.aload_n 0, 1) := by decide +kernel
theorem dX2_burnWaiting_11 : decode cX2_burnWaiting 11 = .ok (.getfield 32, 3) := by decide +kernel
theorem dX2_burnWaiting_14 : decode cX2_burnWaiting 14 = .ok (.aload_n 0, 1) := by decide +kernel
theorem dX2_burnWaiting_15 : decode cX2_burnWaiting 15 = .ok (.getfield 26, 3) := by decide +kernel
theorem dX2_burnWaiting_18 : decode cX2_burnWaiting 18 = .ok (.iload_n 1, 1) := by decide +kernel
theorem dX2_burnWaiting_19 : decode cX2_burnWaiting 19 = .ok (.aaload, 1) := by decide +kernel
theorem dX2_burnWaiting_20 : decode cX2_burnWaiting 20 = .ok (.getfield 73, 3) := by decide +kernel
theorem dX2_burnWaiting_23 : decode cX2_burnWaiting 23 = .ok (.aaload, 1) := by decide +kernel
theorem dX2_burnWaiting_24 : decode cX2_burnWaiting 24 = .ok (.iload_n 1, 1) := by decide +kernel
theorem dX2_burnWaiting_25 : decode cX2_burnWaiting 25 = .ok (.invokevirtual 83, 3) := by decide +kernel
theorem dX2_burnWaiting_28 : decode cX2_burnWaiting 28 = .ok (.return_, 1) := by decide +kernel
theorem dX2_tradeShifts_0 : decode cX2_tradeShifts 0 = .ok (.aload_n 0, 1) := by decide +kernel
theorem dX2_tradeShifts_1 : decode cX2_tradeShifts 1 = .ok (.getfield 21, 3) := by decide +kernel
theorem dX2_tradeShifts_4 : decode cX2_tradeShifts 4 = .ok (.iload_n 1, 1) := by decide +kernel
theorem dX2_tradeShifts_5 : decode cX2_tradeShifts 5 = .ok (.iaload, 1) := by decide +kernel
theorem dX2_tradeShifts_6 : decode cX2_tradeShifts 6 = .ok (.istore_n 3, 1) := by decide +kernel
theorem dX2_tradeShifts_7 : decode cX2_tradeShifts 7 = .ok (.aload_n 0, 1) := by decide +kernel
theorem dX2_tradeShifts_8 : decode cX2_tradeShifts 8 = .ok (.getfield 21, 3) := by decide +kernel
theorem dX2_tradeShifts_11 : decode cX2_tradeShifts 11 = .ok (.iload_n 1, 1) := by decide +kernel
theorem dX2_tradeShifts_12 : decode cX2_tradeShifts 12 = .ok (.aload_n 0, 1) := by decide +kernel
theorem dX2_tradeShifts_13 : decode cX2_tradeShifts 13 = .ok (.getfield 21, 3) := by decide +kernel
theorem dX2_tradeShifts_16 : decode cX2_tradeShifts 16 = .ok (.iload_n 2, 1) := by decide +kernel
theorem dX2_tradeShifts_17 : decode cX2_tradeShifts 17 = .ok (.iaload, 1) := by decide +kernel
theorem dX2_tradeShifts_18 : decode cX2_tradeShifts 18 = .ok (.iastore, 1) := by decide +kernel
theorem dX2_tradeShifts_19 : decode cX2_tradeShifts 19 = .ok (.aload_n 0, 1) := by decide +kernel
theorem dX2_tradeShifts_20 : decode cX2_tradeShifts 20 = .ok (.getfield 21, 3) := by decide +kernel
theorem dX2_tradeShifts_23 : decode cX2_tradeShifts 23 = .ok (.iload_n 2, 1) := by decide +kernel
theorem dX2_tradeShifts_24 : decode cX2_tradeShifts 24 = .ok (.iload_n 3, 1) := by decide +kernel
theorem dX2_tradeShifts_25 : decode cX2_tradeShifts 25 = .ok (.iastore, 1) := by decide +kernel
theorem dX2_tradeShifts_26 : decode cX2_tradeShifts 26 = .ok (.return_, 1) := by decide +kernel
theorem dX2_censorNumber_0 : decode cX2_censorNumber 0 = .ok (.aload_n 0, 1) := by decide +kernel
theorem dX2_censorNumber_1 : decode cX2_censorNumber 1 = .ok (.getfield 21, 3) := by decide +kernel
theorem dX2_censorNumber_4 : decode cX2_censorNumber 4 = .ok (.iconst 2, 1) := by decide +kernel
theorem dX2_censorNumber_5 : decode cX2_censorNumber 5 = .ok (.iload_n 1, 1) := by decide +kernel
theorem dX2_censorNumber_6 : decode cX2_censorNumber 6 = .ok (.iconst 4, 1) := by decide +kernel
theorem dX2_censorNumber_7 : decode cX2_censorNumber 7 = .ok (.irem, 1) := by decide +kernel
theorem dX2_censorNumber_8 : decode cX2_censorNumber 8 = .ok (.imul, 1) := by decide +kernel
theorem dX2_censorNumber_9 : decode cX2_censorNumber 9 = .ok (.iload_n 2, 1) := by decide +kernel
theorem dX2_censorNumber_10 : decode cX2_censorNumber 10 = .ok (.iadd, 1) := by decide +kernel
theorem dX2_censorNumber_11 : decode cX2_censorNumber 11 = .ok (.iaload, 1) := by decide +kernel
theorem dX2_censorNumber_12 : decode cX2_censorNumber 12 = .ok (.ireturn, 1) := by decide +kernel
theorem dX2_shiftsOf_0 : decode cX2_shiftsOf 0 = .ok (.iconst 0, 1) := by decide +kernel
theorem dX2_shiftsOf_1 : decode cX2_shiftsOf 1 = .ok (.istore_n 2, 1) := by decide +kernel
theorem dX2_shiftsOf_2 : decode cX2_shiftsOf 2 = .ok (.iconst 0, 1) := by decide +kernel
theorem dX2_shiftsOf_3 : decode cX2_shiftsOf 3 = .ok (.istore_n 3, 1) := by decide +kernel
theorem dX2_shiftsOf_4 : decode cX2_shiftsOf 4 = .ok (.iload_n 3, 1) := by decide +kernel
theorem dX2_shiftsOf_5 : decode cX2_shiftsOf 5 = .ok (.bipush 8, 2) := by decide +kernel
theorem dX2_shiftsOf_7 : decode cX2_shiftsOf 7 = .ok (.if_icmp .ge 22, 3) := by decide +kernel
theorem dX2_shiftsOf_10 : decode cX2_shiftsOf 10 = .ok (.aload_n 0, 1) := by decide +kernel
theorem dX2_shiftsOf_11 : decode cX2_shiftsOf 11 = .ok (.getfield 21, 3) := by decide +kernel
theorem dX2_shiftsOf_14 : decode cX2_shiftsOf 14 = .ok (.iload_n 3, 1) := by decide +kernel
theorem dX2_shiftsOf_15 : decode cX2_shiftsOf 15 = .ok (.iaload, 1) := by decide +kernel
theorem dX2_shiftsOf_16 : decode cX2_shiftsOf 16 = .ok (.iload_n 1, 1) := by decide +kernel
theorem dX2_shiftsOf_17 : decode cX2_shiftsOf 17 = .ok (.if_icmp .ne 6, 3) := by decide +kernel
theorem dX2_shiftsOf_20 : decode cX2_shiftsOf 20 = .ok (.iinc 2 1, 3) := by decide +kernel
theorem dX2_shiftsOf_23 : decode cX2_shiftsOf 23 = .ok (.iinc 3 1, 3) := by decide +kernel
theorem dX2_shiftsOf_26 : decode cX2_shiftsOf 26 = .ok (.goto (-22), 3) := by decide +kernel
theorem dX2_shiftsOf_29 : decode cX2_shiftsOf 29 = .ok (.iload_n 2, 1) := by decide +kernel
theorem dX2_shiftsOf_30 : decode cX2_shiftsOf 30 = .ok (.ireturn, 1) := by decide +kernel
theorem dX2_aheadOf_0 : decode cX2_aheadOf 0 = .ok (.iload_n 1, 1) := by decide +kernel
theorem dX2_aheadOf_1 : decode cX2_aheadOf 1 = .ok (.iconst 1, 1) := by decide +kernel
theorem dX2_aheadOf_2 : decode cX2_aheadOf 2 = .ok (.isub, 1) := by decide +kernel
theorem dX2_aheadOf_3 : decode cX2_aheadOf 3 = .ok (.istore_n 2, 1) := by decide +kernel
theorem dX2_aheadOf_4 : decode cX2_aheadOf 4 = .ok (.iload_n 2, 1) := by decide +kernel
theorem dX2_aheadOf_5 : decode cX2_aheadOf 5 = .ok (.ifCond .lt 32, 3) := by decide +kernel
theorem dX2_aheadOf_8 : decode cX2_aheadOf 8 = .ok (.aload_n 0, 1) := by decide +kernel
theorem dX2_aheadOf_9 : decode cX2_aheadOf 9 = .ok (.getfield 26, 3) := by decide +kernel
theorem dX2_aheadOf_12 : decode cX2_aheadOf 12 = .ok (.iload_n 2, 1) := by decide +kernel
theorem dX2_aheadOf_13 : decode cX2_aheadOf 13 = .ok (.aaload, 1) := by decide +kernel
theorem dX2_aheadOf_14 : decode cX2_aheadOf 14 = .ok (.getfield 86, 3) := by decide +kernel
theorem dX2_aheadOf_17 : decode cX2_aheadOf 17 = .ok (.aload_n 0, 1) := by decide +kernel
theorem dX2_aheadOf_18 : decode cX2_aheadOf 18 = .ok (.getfield 26, 3) := by decide +kernel
theorem dX2_aheadOf_21 : decode cX2_aheadOf 21 = .ok (.iload_n 1, 1) := by decide +kernel
theorem dX2_aheadOf_22 : decode cX2_aheadOf 22 = .ok (.aaload, 1) := by decide +kernel
theorem dX2_aheadOf_23 : decode cX2_aheadOf 23 = .ok (.getfield 86, 3) := by decide +kernel
theorem dX2_aheadOf_26 : decode cX2_aheadOf 26 = .ok (.if_icmp .ne 5, 3) := by decide +kernel
theorem dX2_aheadOf_29 : decode cX2_aheadOf 29 = .ok (.iload_n 2, 1) := by decide +kernel
theorem dX2_aheadOf_30 : decode cX2_aheadOf 30 = .ok (.ireturn, 1) := by decide +kernel
theorem dX2_aheadOf_31 : decode cX2_aheadOf 31 = .ok (.iinc 2 (-1), 3) := by decide +kernel
theorem dX2_aheadOf_34 : decode cX2_aheadOf 34 = .ok (.goto (-30), 3) := by decide +kernel
theorem dX2_aheadOf_37 : decode cX2_aheadOf 37 = .ok (.bipush (-6), 2) := by decide +kernel
theorem dX2_aheadOf_39 : decode cX2_aheadOf 39 = .ok (.ireturn, 1) := by decide +kernel
theorem dX2_lettersThatAre_0 : decode cX2_lettersThatAre 0 = .ok (.iconst 0, 1) := by decide +kernel
theorem dX2_lettersThatAre_1 : decode cX2_lettersThatAre 1 = .ok (.istore_n 2, 1) := by decide +kernel
theorem dX2_lettersThatAre_2 : decode cX2_lettersThatAre 2 = .ok (.iconst 0, 1) := by decide +kernel
theorem dX2_lettersThatAre_3 : decode cX2_lettersThatAre 3 = .ok (.istore_n 3, 1) := by decide +kernel
theorem dX2_lettersThatAre_4 : decode cX2_lettersThatAre 4 = .ok (.iload_n 3, 1) := by decide +kernel
theorem dX2_lettersThatAre_5 : decode cX2_lettersThatAre 5 = .ok (.aload_n 0, 1) := by decide +kernel
theorem dX2_lettersThatAre_6 : decode cX2_lettersThatAre 6 = .ok (.getfield 56, 3) := by decide +kernel
theorem dX2_lettersThatAre_9 : decode cX2_lettersThatAre 9 = .ok (.if_icmp .ge 25, 3) := by decide +kernel
theorem dX2_lettersThatAre_12 : decode cX2_lettersThatAre 12 = .ok (.aload_n 0, 1) := by decide +kernel
theorem dX2_lettersThatAre_13 : decode cX2_lettersThatAre 13 = .ok (.getfield 26, 3) := by decide +kernel
theorem dX2_lettersThatAre_16 : decode cX2_lettersThatAre 16 = .ok (.iload_n 3, 1) := by decide +kernel
theorem dX2_lettersThatAre_17 : decode cX2_lettersThatAre 17 = .ok (.aaload, 1) := by decide +kernel
theorem dX2_lettersThatAre_18 : decode cX2_lettersThatAre 18 = .ok (.getfield 80, 3) := by decide +kernel
theorem dX2_lettersThatAre_21 : decode cX2_lettersThatAre 21 = .ok (.iload_n 1, 1) := by decide +kernel
theorem dX2_lettersThatAre_22 : decode cX2_lettersThatAre 22 = .ok (.if_icmp .ne 6, 3) := by decide +kernel
theorem dX2_lettersThatAre_25 : decode cX2_lettersThatAre 25 = .ok (.iinc 2 1, 3) := by decide +kernel
theorem dX2_lettersThatAre_28 : decode cX2_lettersThatAre 28 = .ok (.iinc 3 1, 3) := by decide +kernel
theorem dX2_lettersThatAre_31 : decode cX2_lettersThatAre 31 = .ok (.goto (-27), 3) := by decide +kernel
theorem dX2_lettersThatAre_34 : decode cX2_lettersThatAre 34 = .ok (.iload_n 2, 1) := by decide +kernel
theorem dX2_lettersThatAre_35 : decode cX2_lettersThatAre 35 = .ok (.ireturn, 1) := by decide +kernel
theorem dX2_allDelays_0 : decode cX2_allDelays 0 = .ok (.iconst 0, 1) := by decide +kernel
theorem dX2_allDelays_1 : decode cX2_allDelays 1 = .ok (.istore_n 1, 1) := by decide +kernel
theorem dX2_allDelays_2 : decode cX2_allDelays 2 = .ok (.iconst 0, 1) := by decide +kernel
theorem dX2_allDelays_3 : decode cX2_allDelays 3 = .ok (.istore_n 2, 1) := by decide +kernel
theorem dX2_allDelays_4 : decode cX2_allDelays 4 = .ok (.iload_n 2, 1) := by decide +kernel
theorem dX2_allDelays_5 : decode cX2_allDelays 5 = .ok (.aload_n 0, 1) := by decide +kernel
theorem dX2_allDelays_6 : decode cX2_allDelays 6 = .ok (.getfield 56, 3) := by decide +kernel
theorem dX2_allDelays_9 : decode cX2_allDelays 9 = .ok (.if_icmp .ge 34, 3) := by decide +kernel
theorem dX2_allDelays_12 : decode cX2_allDelays 12 = .ok (.aload_n 0, 1) := by decide +kernel
theorem dX2_allDelays_13 : decode cX2_allDelays 13 = .ok (.getfield 26, 3) := by decide +kernel
theorem dX2_allDelays_16 : decode cX2_allDelays 16 = .ok (.iload_n 2, 1) := by decide +kernel
theorem dX2_allDelays_17 : decode cX2_allDelays 17 = .ok (.aaload, 1) := by decide +kernel
theorem dX2_allDelays_18 : decode cX2_allDelays 18 = .ok (.getfield 80, 3) := by decide +kernel
theorem dX2_allDelays_21 : decode cX2_allDelays 21 = .ok (.iconst 1, 1) := by decide +kernel
theorem dX2_allDelays_22 : decode cX2_allDelays 22 = .ok (.if_icmp .ne 15, 3) := by decide +kernel
theorem dX2_allDelays_25 : decode cX2_allDelays 25 = .ok (.iload_n 1, 1) := by decide +kernel
theorem dX2_allDelays_26 : decode cX2_allDelays 26 = .ok (.aload_n 0, 1) := by decide +kernel
theorem dX2_allDelays_27 : decode cX2_allDelays 27 = .ok (.getfield 26, 3) := by decide +kernel
theorem dX2_allDelays_30 : decode cX2_allDelays 30 = .ok (.iload_n 2, 1) := by decide +kernel
theorem dX2_allDelays_31 : decode cX2_allDelays 31 = .ok (.aaload, 1) := by decide +kernel
theorem dX2_allDelays_32 : decode cX2_allDelays 32 = .ok (.getfield 89, 3) := by decide +kernel
theorem dX2_allDelays_35 : decode cX2_allDelays 35 = .ok (.iadd, 1) := by decide +kernel
theorem dX2_allDelays_36 : decode cX2_allDelays 36 = .ok (.istore_n 1, 1) := by decide +kernel
theorem dX2_allDelays_37 : decode cX2_allDelays 37 = .ok (.iinc 2 1, 3) := by decide +kernel
theorem dX2_allDelays_40 : decode cX2_allDelays 40 = .ok (.goto (-36), 3) := by decide +kernel
theorem dX2_allDelays_43 : decode cX2_allDelays 43 = .ok (.iload_n 1, 1) := by decide +kernel
theorem dX2_allDelays_44 : decode cX2_allDelays 44 = .ok (.ireturn, 1) := by decide +kernel
theorem dX2_longestDelay_0 : decode cX2_longestDelay 0 = .ok (.iconst 0, 1) := by decide +kernel
theorem dX2_longestDelay_1 : decode cX2_longestDelay 1 = .ok (.istore_n 1, 1) := by decide +kernel
theorem dX2_longestDelay_2 : decode cX2_longestDelay 2 = .ok (.iconst 0, 1) := by decide +kernel
theorem dX2_longestDelay_3 : decode cX2_longestDelay 3 = .ok (.istore_n 2, 1) := by decide +kernel
theorem dX2_longestDelay_4 : decode cX2_longestDelay 4 = .ok (.iload_n 2, 1) := by decide +kernel
theorem dX2_longestDelay_5 : decode cX2_longestDelay 5 = .ok (.aload_n 0, 1) := by decide +kernel
theorem dX2_longestDelay_6 : decode cX2_longestDelay 6 = .ok (.getfield 56, 3) := by decide +kernel
theorem dX2_longestDelay_9 : decode cX2_longestDelay 9 = .ok (.if_icmp .ge 36, 3) := by decide +kernel
theorem dX2_longestDelay_12 : decode cX2_longestDelay 12 = .ok (.aload_n 0, 1) := by decide +kernel
theorem dX2_longestDelay_13 : decode cX2_longestDelay 13 = .ok (.getfield 26, 3) := by decide +kernel
theorem dX2_longestDelay_16 : decode cX2_longestDelay 16 = .ok (.iload_n 2, 1) := by decide +kernel
theorem dX2_longestDelay_17 : decode cX2_longestDelay 17 = .ok (.aaload, 1) := by decide +kernel
theorem dX2_longestDelay_18 : decode cX2_longestDelay 18 = .ok (.getfield 80, 3) := by decide +kernel
theorem dX2_longestDelay_21 : decode cX2_longestDelay 21 = .ok (.iconst 1, 1) := by decide +kernel
theorem dX2_longestDelay_22 : decode cX2_longestDelay 22 = .ok (.if_icmp .ne 17, 3) := by decide +kernel
theorem dX2_longestDelay_25 : decode cX2_longestDelay 25 = .ok (.iload_n 1, 1) := by decide +kernel
theorem dX2_longestDelay_26 : decode cX2_longestDelay 26 = .ok (.aload_n 0, 1) := by decide +kernel
theorem dX2_longestDelay_27 : decode cX2_longestDelay 27 = .ok (.getfield 26, 3) := by decide +kernel
theorem dX2_longestDelay_30 : decode cX2_longestDelay 30 = .ok (.iload_n 2, 1) := by decide +kernel
theorem dX2_longestDelay_31 : decode cX2_longestDelay 31 = .ok (.aaload, 1) := by decide +kernel
theorem dX2_longestDelay_32 : decode cX2_longestDelay 32 = .ok (.getfield 89, 3) := by decide +kernel
theorem dX2_longestDelay_35 : decode cX2_longestDelay 35 = .ok (.invokestatic 92, 3) := by decide +kernel
theorem dX2_longestDelay_38 : decode cX2_longestDelay 38 = .ok (.istore_n 1, 1) := by decide +kernel
theorem dX2_longestDelay_39 : decode cX2_longestDelay 39 = .ok (.iinc 2 1, 3) := by decide +kernel
theorem dX2_longestDelay_42 : decode cX2_longestDelay 42 = .ok (.goto (-38), 3) := by decide +kernel
theorem dX2_longestDelay_45 : decode cX2_longestDelay 45 = .ok (.iload_n 1, 1) := by decide +kernel
theorem dX2_longestDelay_46 : decode cX2_longestDelay 46 = .ok (.ireturn, 1) := by decide +kernel
theorem dX2_wordsStruckInLetters_0 : decode cX2_wordsStruckInLetters 0 = .ok (.iconst 0, 1) := by decide +kernel
theorem dX2_wordsStruckInLetters_1 : decode cX2_wordsStruckInLetters 1 = .ok (.istore_n 1, 1) := by decide +kernel
theorem dX2_wordsStruckInLetters_2 : decode cX2_wordsStruckInLetters 2 = .ok (.iconst 0, 1) := by decide +kernel
theorem dX2_wordsStruckInLetters_3 : decode cX2_wordsStruckInLetters 3 = .ok (.istore_n 2, 1) := by decide +kernel
theorem dX2_wordsStruckInLetters_4 : decode cX2_wordsStruckInLetters 4 = .ok (.iload_n 2, 1) := by decide +kernel
theorem dX2_wordsStruckInLetters_5 : decode cX2_wordsStruckInLetters 5 = .ok (.aload_n 0, 1) := by decide +kernel
theorem dX2_wordsStruckInLetters_6 : decode cX2_wordsStruckInLetters 6 = .ok (.getfield 56, 3) := by decide +kernel
theorem dX2_wordsStruckInLetters_9 : decode cX2_wordsStruckInLetters 9 = .ok (.if_icmp .ge 34, 3) := by decide +kernel
theorem dX2_wordsStruckInLetters_12 : decode cX2_wordsStruckInLetters 12 = .ok (.aload_n 0, 1) := by decide +kernel
theorem dX2_wordsStruckInLetters_13 : decode cX2_wordsStruckInLetters 13 = .ok (.getfield 26, 3) := by decide +kernel
theorem dX2_wordsStruckInLetters_16 : decode cX2_wordsStruckInLetters 16 = .ok (.iload_n 2, 1) := by decide +kernel
theorem dX2_wordsStruckInLetters_17 : decode cX2_wordsStruckInLetters 17 = .ok (.aaload, 1) := by decide +kernel
theorem dX2_wordsStruckInLetters_18 : decode cX2_wordsStruckInLetters 18 = .ok (.getfield 80, 3) := by decide +kernel
theorem dX2_wordsStruckInLetters_21 : decode cX2_wordsStruckInLetters 21 = .ok (.iconst 1, 1) := by decide +kernel
theorem dX2_wordsStruckInLetters_22 : decode cX2_wordsStruckInLetters 22 = .ok (.if_icmp .ne 15, 3) := by decide +kernel
theorem dX2_wordsStruckInLetters_25 : decode cX2_wordsStruckInLetters 25 = .ok (.iload_n 1, 1) := by decide +kernel
theorem dX2_wordsStruckInLetters_26 : decode cX2_wordsStruckInLetters 26 = .ok (.aload_n 0, 1) := by decide +kernel
theorem dX2_wordsStruckInLetters_27 : decode cX2_wordsStruckInLetters 27 = .ok (.getfield 26, 3) := by decide +kernel
theorem dX2_wordsStruckInLetters_30 : decode cX2_wordsStruckInLetters 30 = .ok (.iload_n 2, 1) := by decide +kernel
theorem dX2_wordsStruckInLetters_31 : decode cX2_wordsStruckInLetters 31 = .ok (.aaload, 1) := by decide +kernel
theorem dX2_wordsStruckInLetters_32 : decode cX2_wordsStruckInLetters 32 = .ok (.invokevirtual 98, 3) := by decide +kernel
theorem dX2_wordsStruckInLetters_35 : decode cX2_wordsStruckInLetters 35 = .ok (.iadd, 1) := by decide +kernel
theorem dX2_wordsStruckInLetters_36 : decode cX2_wordsStruckInLetters 36 = .ok (.istore_n 1, 1) := by decide +kernel
theorem dX2_wordsStruckInLetters_37 : decode cX2_wordsStruckInLetters 37 = .ok (.iinc 2 1, 3) := by decide +kernel
theorem dX2_wordsStruckInLetters_40 : decode cX2_wordsStruckInLetters 40 = .ok (.goto (-36), 3) := by decide +kernel
theorem dX2_wordsStruckInLetters_43 : decode cX2_wordsStruckInLetters 43 = .ok (.iload_n 1, 1) := by decide +kernel
theorem dX2_wordsStruckInLetters_44 : decode cX2_wordsStruckInLetters 44 = .ok (.ireturn, 1) := by decide +kernel
theorem dX2_threadsThatWait_0 : decode cX2_threadsThatWait 0 = .ok (.aload_n 0, 1) := by decide +kernel
theorem dX2_threadsThatWait_1 : decode cX2_threadsThatWait 1 = .ok (.invokevirtual 102, 3) := by decide +kernel
theorem dX2_threadsThatWait_4 : decode cX2_threadsThatWait 4 = .ok (.iconst 0, 1) := by decide +kernel
theorem dX2_threadsThatWait_5 : decode cX2_threadsThatWait 5 = .ok (.istore_n 1, 1) := by decide +kernel
theorem dX2_threadsThatWait_6 : decode cX2_threadsThatWait 6 = .ok (.iconst 0, 1) := by decide +kernel
theorem dX2_threadsThatWait_7 : decode cX2_threadsThatWait 7 = .ok (.istore_n 2, 1) := by decide +kernel
theorem dX2_threadsThatWait_8 : decode cX2_threadsThatWait 8 = .ok (.iload_n 2, 1) := by decide +kernel
theorem dX2_threadsThatWait_9 : decode cX2_threadsThatWait 9 = .ok (.iconst 5, 1) := by decide +kernel
theorem dX2_threadsThatWait_10 : decode cX2_threadsThatWait 10 = .ok (.if_icmp .ge 23, 3) := by decide +kernel
theorem dX2_threadsThatWait_13 : decode cX2_threadsThatWait 13 = .ok (.aload_n 0, 1) := by decide +kernel
theorem dX2_threadsThatWait_14 : decode cX2_threadsThatWait 14 = .ok (.getfield 41, 3) := by decide +kernel
theorem dX2_threadsThatWait_17 : decode cX2_threadsThatWait 17 = .ok (.iload_n 2, 1) := by decide +kernel
theorem dX2_threadsThatWait_18 : decode cX2_threadsThatWait 18 = .ok (.iaload, 1) := by decide +kernel
theorem dX2_threadsThatWait_19 : decode cX2_threadsThatWait 19 = .ok (.bipush (-6), 2) := by decide +kernel
theorem dX2_threadsThatWait_21 : decode cX2_threadsThatWait 21 = .ok (.if_icmp .eq 6, 3) := by decide +kernel
theorem dX2_threadsThatWait_24 : decode cX2_threadsThatWait 24 = .ok (.iinc 1 1, 3) := by decide +kernel
theorem dX2_threadsThatWait_27 : decode cX2_threadsThatWait 27 = .ok (.iinc 2 1, 3) := by decide +kernel
theorem dX2_threadsThatWait_30 : decode cX2_threadsThatWait 30 = .ok (.goto (-22), 3) := by decide +kernel
theorem dX2_threadsThatWait_33 : decode cX2_threadsThatWait 33 = .ok (.iload_n 1, 1) := by decide +kernel
theorem dX2_threadsThatWait_34 : decode cX2_threadsThatWait 34 = .ok (.ireturn, 1) := by decide +kernel
theorem dX2_lettersTurnedByAll_0 : decode cX2_lettersTurnedByAll 0 = .ok (.iconst 0, 1) := by decide +kernel
theorem dX2_lettersTurnedByAll_1 : decode cX2_lettersTurnedByAll 1 = .ok (.istore_n 1, 1) := by decide +kernel
theorem dX2_lettersTurnedByAll_2 : decode cX2_lettersTurnedByAll 2 = .ok (.iconst 0, 1) := by decide +kernel
theorem dX2_lettersTurnedByAll_3 : decode cX2_lettersTurnedByAll 3 = .ok (.istore_n 2, 1) := by decide +kernel
theorem dX2_lettersTurnedByAll_4 : decode cX2_lettersTurnedByAll 4 = .ok (.iload_n 2, 1) := by decide +kernel
theorem dX2_lettersTurnedByAll_5 : decode cX2_lettersTurnedByAll 5 = .ok (.iconst 4, 1) := by decide +kernel
theorem dX2_lettersTurnedByAll_6 : decode cX2_lettersTurnedByAll 6 = .ok (.if_icmp .ge 21, 3) := by decide +kernel
theorem dX2_lettersTurnedByAll_9 : decode cX2_lettersTurnedByAll 9 = .ok (.iload_n 1, 1) := by decide +kernel
theorem dX2_lettersTurnedByAll_10 : decode cX2_lettersTurnedByAll 10 = .ok (.aload_n 0, 1) := by decide +kernel
theorem dX2_lettersTurnedByAll_11 : decode cX2_lettersTurnedByAll 11 = .ok (.getfield 17, 3) := by decide +kernel
theorem dX2_lettersTurnedByAll_14 : decode cX2_lettersTurnedByAll 14 = .ok (.iload_n 2, 1) := by decide +kernel
theorem dX2_lettersTurnedByAll_15 : decode cX2_lettersTurnedByAll 15 = .ok (.aaload, 1) := by decide +kernel
theorem dX2_lettersTurnedByAll_16 : decode cX2_lettersTurnedByAll 16 = .ok (.getfield 105, 3) := by decide +kernel
theorem dX2_lettersTurnedByAll_19 : decode cX2_lettersTurnedByAll 19 = .ok (.iadd, 1) := by decide +kernel
theorem dX2_lettersTurnedByAll_20 : decode cX2_lettersTurnedByAll 20 = .ok (.istore_n 1, 1) := by decide +kernel
theorem dX2_lettersTurnedByAll_21 : decode cX2_lettersTurnedByAll 21 = .ok (.iinc 2 1, 3) := by decide +kernel
theorem dX2_lettersTurnedByAll_24 : decode cX2_lettersTurnedByAll 24 = .ok (.goto (-20), 3) := by decide +kernel
theorem dX2_lettersTurnedByAll_27 : decode cX2_lettersTurnedByAll 27 = .ok (.iload_n 1, 1) := by decide +kernel
theorem dX2_lettersTurnedByAll_28 : decode cX2_lettersTurnedByAll 28 = .ok (.ireturn, 1) := by decide +kernel
theorem dX2_findHeads_0 : decode cX2_findHeads 0 = .ok (.iconst 0, 1) := by decide +kernel
theorem dX2_findHeads_1 : decode cX2_findHeads 1 = .ok (.istore_n 1, 1) := by decide +kernel
theorem dX2_findHeads_2 : decode cX2_findHeads 2 = .ok (.iload_n 1, 1) := by decide +kernel
theorem dX2_findHeads_3 : decode cX2_findHeads 3 = .ok (.iconst 5, 1) := by decide +kernel
theorem dX2_findHeads_4 : decode cX2_findHeads 4 = .ok (.if_icmp .ge 17, 3) := by decide +kernel
theorem dX2_findHeads_7 : decode cX2_findHeads 7 = .ok (.aload_n 0, 1) := by decide +kernel
theorem dX2_findHeads_8 : decode cX2_findHeads 8 = .ok (.getfield 41, 3) := by decide +kernel
theorem dX2_findHeads_11 : decode cX2_findHeads 11 = .ok (.iload_n 1, 1) := by decide +kernel
theorem dX2_findHeads_12 : decode cX2_findHeads 12 = .ok (.bipush (-6), 2) := by decide +kernel
theorem dX2_findHeads_14 : decode cX2_findHeads 14 = .ok (.iastore, 1) := by decide +kernel
theorem dX2_findHeads_15 : decode cX2_findHeads 15 = .ok (.iinc 1 1, 3) := by decide +kernel
theorem dX2_findHeads_18 : decode cX2_findHeads 18 = .ok (.goto (-16), 3) := by decide +kernel
theorem dX2_findHeads_21 : decode cX2_findHeads 21 = .ok (.iconst 0, 1) := by decide +kernel
theorem dX2_findHeads_22 : decode cX2_findHeads 22 = .ok (.istore_n 1, 1) := by decide +kernel
theorem dX2_findHeads_23 : decode cX2_findHeads 23 = .ok (.iload_n 1, 1) := by decide +kernel
theorem dX2_findHeads_24 : decode cX2_findHeads 24 = .ok (.iconst 2, 1) := by decide +kernel
theorem dX2_findHeads_25 : decode cX2_findHeads 25 = .ok (.if_icmp .ge 19, 3) := by decide +kernel
theorem dX2_findHeads_28 : decode cX2_findHeads 28 = .ok (.aload_n 0, 1) := by decide +kernel
theorem dX2_findHeads_29 : decode cX2_findHeads 29 = .ok (.aload_n 0, 1) := by decide +kernel
theorem dX2_findHeads_30 : decode cX2_findHeads 30 = .ok (.getfield 32, 3) := by decide +kernel
theorem dX2_findHeads_33 : decode cX2_findHeads 33 = .ok (.iload_n 1, 1) := by decide +kernel
theorem dX2_findHeads_34 : decode cX2_findHeads 34 = .ok (.aaload, 1) := by decide +kernel
theorem dX2_findHeads_35 : decode cX2_findHeads 35 = .ok (.invokevirtual 108, 3) := by decide +kernel
theorem dX2_findHeads_38 : decode cX2_findHeads 38 = .ok (.iinc 1 1, 3) := by decide +kernel
theorem dX2_findHeads_41 : decode cX2_findHeads 41 = .ok (.goto (-18), 3) := by decide +kernel
theorem dX2_findHeads_44 : decode cX2_findHeads 44 = .ok (.return_, 1) := by decide +kernel
theorem dX2_findHeadsIn_0 : decode cX2_findHeadsIn 0 = .ok (.iconst 0, 1) := by decide +kernel
theorem dX2_findHeadsIn_1 : decode cX2_findHeadsIn 1 = .ok (.istore_n 2, 1) := by decide +kernel
theorem dX2_findHeadsIn_2 : decode cX2_findHeadsIn 2 = .ok (.iload_n 2, 1) := by decide +kernel
theorem dX2_findHeadsIn_3 : decode cX2_findHeadsIn 3 = .ok (.aload_n 1, 1) := by decide +kernel
theorem dX2_findHeadsIn_4 : decode cX2_findHeadsIn 4 = .ok (.getfield 111, 3) := by decide +kernel
theorem dX2_findHeadsIn_7 : decode cX2_findHeadsIn 7 = .ok (.if_icmp .ge 58, 3) := by decide +kernel
theorem dX2_findHeadsIn_10 : decode cX2_findHeadsIn 10 = .ok (.aload_n 1, 1) := by decide +kernel
theorem dX2_findHeadsIn_11 : decode cX2_findHeadsIn 11 = .ok (.getfield 114, 3) := by decide +kernel
theorem dX2_findHeadsIn_14 : decode cX2_findHeadsIn 14 = .ok (.iload_n 2, 1) := by decide +kernel
theorem dX2_findHeadsIn_15 : decode cX2_findHeadsIn 15 = .ok (.iaload, 1) := by decide +kernel
theorem dX2_findHeadsIn_16 : decode cX2_findHeadsIn 16 = .ok (.istore_n 3, 1) := by decide +kernel
theorem dX2_findHeadsIn_17 : decode cX2_findHeadsIn 17 = .ok (.aload_n 0, 1) := by decide +kernel
theorem dX2_findHeadsIn_18 : decode cX2_findHeadsIn 18 = .ok (.getfield 26, 3) := by decide +kernel
theorem dX2_findHeadsIn_21 : decode cX2_findHeadsIn 21 = .ok (.iload_n 3, 1) := by decide +kernel
theorem dX2_findHeadsIn_22 : decode cX2_findHeadsIn 22 = .ok (.aaload, 1) := by decide +kernel
theorem dX2_findHeadsIn_23 : decode cX2_findHeadsIn 23 = .ok (.getfield 86, 3) := by decide +kernel
theorem dX2_findHeadsIn_26 : decode cX2_findHeadsIn 26 = .ok (.istore 4, 2) := by decide +kernel
theorem dX2_findHeadsIn_28 : decode cX2_findHeadsIn 28 = .ok (.aload_n 0, 1) := by decide +kernel
theorem dX2_findHeadsIn_29 : decode cX2_findHeadsIn 29 = .ok (.getfield 41, 3) := by decide +kernel
theorem dX2_findHeadsIn_32 : decode cX2_findHeadsIn 32 = .ok (.iload 4, 2) := by decide +kernel
theorem dX2_findHeadsIn_34 : decode cX2_findHeadsIn 34 = .ok (.iaload, 1) := by decide +kernel
theorem dX2_findHeadsIn_35 : decode cX2_findHeadsIn 35 = .ok (.bipush (-6), 2) := by decide +kernel
theorem dX2_findHeadsIn_37 : decode cX2_findHeadsIn 37 = .ok (.if_icmp .eq 14, 3) := by decide +kernel
theorem dX2_findHeadsIn_40 : decode cX2_findHeadsIn 40 = .ok (.aload_n 0, 1) := by decide +kernel
theorem dX2_findHeadsIn_41 : decode cX2_findHeadsIn 41 = .ok (.getfield 41, 3) := by decide +kernel
theorem dX2_findHeadsIn_44 : decode cX2_findHeadsIn 44 = .ok (.iload 4, 2) := by decide +kernel
theorem dX2_findHeadsIn_46 : decode cX2_findHeadsIn 46 = .ok (.iaload, 1) := by decide +kernel
theorem dX2_findHeadsIn_47 : decode cX2_findHeadsIn 47 = .ok (.iload_n 3, 1) := by decide +kernel
theorem dX2_findHeadsIn_48 : decode cX2_findHeadsIn 48 = .ok (.if_icmp .le 11, 3) := by decide +kernel
theorem dX2_findHeadsIn_51 : decode cX2_findHeadsIn 51 = .ok (.aload_n 0, 1) := by decide +kernel
theorem dX2_findHeadsIn_52 : decode cX2_findHeadsIn 52 = .ok (.getfield 41, 3) := by decide +kernel
theorem dX2_findHeadsIn_55 : decode cX2_findHeadsIn 55 = .ok (.iload 4, 2) := by decide +kernel
theorem dX2_findHeadsIn_57 : decode cX2_findHeadsIn 57 = .ok (.iload_n 3, 1) := by decide +kernel
theorem dX2_findHeadsIn_58 : decode cX2_findHeadsIn 58 = .ok (.iastore, 1) := by decide +kernel
theorem dX2_findHeadsIn_59 : decode cX2_findHeadsIn 59 = .ok (.iinc 2 1, 3) := by decide +kernel
theorem dX2_findHeadsIn_62 : decode cX2_findHeadsIn 62 = .ok (.goto (-60), 3) := by decide +kernel
theorem dX2_findHeadsIn_65 : decode cX2_findHeadsIn 65 = .ok (.return_, 1) := by decide +kernel
theorem dX2_judgeWeek_0 : decode cX2_judgeWeek 0 = .ok (.aload_n 0, 1) := by decide +kernel
theorem dX2_judgeWeek_1 : decode cX2_judgeWeek 1 = .ok (.invokevirtual 102, 3) := by decide +kernel
theorem dX2_judgeWeek_4 : decode cX2_judgeWeek 4 = .ok (.iconst 0, 1) := by decide +kernel
theorem dX2_judgeWeek_5 : decode cX2_judgeWeek 5 = .ok (.istore_n 1, 1) := by decide +kernel
theorem dX2_judgeWeek_6 : decode cX2_judgeWeek 6 = .ok (.iload_n 1, 1) := by decide +kernel
theorem dX2_judgeWeek_7 : decode cX2_judgeWeek 7 = .ok (.iconst 2, 1) := by decide +kernel
theorem dX2_judgeWeek_8 : decode cX2_judgeWeek 8 = .ok (.if_icmp .ge 14, 3) := by decide +kernel
theorem dX2_judgeWeek_11 : decode cX2_judgeWeek 11 = .ok (.aload_n 0, 1) := by decide +kernel
theorem dX2_judgeWeek_12 : decode cX2_judgeWeek 12 = .ok (.iload_n 1, 1) := by decide +kernel
theorem dX2_judgeWeek_13 : decode cX2_judgeWeek 13 = .ok (.invokevirtual 117, 3) := by decide +kernel
theorem dX2_judgeWeek_16 : decode cX2_judgeWeek 16 = .ok (.iinc 1 1, 3) := by decide +kernel
theorem dX2_judgeWeek_19 : decode cX2_judgeWeek 19 = .ok (.goto (-13), 3) := by decide +kernel
theorem dX2_judgeWeek_22 : decode cX2_judgeWeek 22 = .ok (.return_, 1) := by decide +kernel
theorem dX2_judgeRow_0 : decode cX2_judgeRow 0 = .ok (.aload_n 0, 1) := by decide +kernel
theorem dX2_judgeRow_1 : decode cX2_judgeRow 1 = .ok (.getfield 32, 3) := by decide +kernel
theorem dX2_judgeRow_4 : decode cX2_judgeRow 4 = .ok (.iload_n 1, 1) := by decide +kernel
theorem dX2_judgeRow_5 : decode cX2_judgeRow 5 = .ok (.aaload, 1) := by decide +kernel
theorem dX2_judgeRow_6 : decode cX2_judgeRow 6 = .ok (.astore_n 2, 1) := by decide +kernel
theorem dX2_judgeRow_7 : decode cX2_judgeRow 7 = .ok (.aload_n 0, 1) := by decide +kernel
theorem dX2_judgeRow_8 : decode cX2_judgeRow 8 = .ok (.getfield 17, 3) := by decide +kernel
theorem dX2_judgeRow_11 : decode cX2_judgeRow 11 = .ok (.aload_n 0, 1) := by decide +kernel
theorem dX2_judgeRow_12 : decode cX2_judgeRow 12 = .ok (.aload_n 0, 1) := by decide +kernel
theorem dX2_judgeRow_13 : decode cX2_judgeRow 13 = .ok (.getfield 66, 3) := by decide +kernel
theorem dX2_judgeRow_16 : decode cX2_judgeRow 16 = .ok (.iload_n 1, 1) := by decide +kernel
theorem dX2_judgeRow_17 : decode cX2_judgeRow 17 = .ok (.invokevirtual 120, 3) := by decide +kernel
theorem dX2_judgeRow_20 : decode cX2_judgeRow 20 = .ok (.aaload, 1) := by decide +kernel
theorem dX2_judgeRow_21 : decode cX2_judgeRow 21 = .ok (.getfield 123, 3) := by decide +kernel
theorem dX2_judgeRow_24 : decode cX2_judgeRow 24 = .ok (.istore_n 3, 1) := by decide +kernel
theorem dX2_judgeRow_25 : decode cX2_judgeRow 25 = .ok (.iconst 0, 1) := by decide +kernel
theorem dX2_judgeRow_26 : decode cX2_judgeRow 26 = .ok (.istore 4, 2) := by decide +kernel
theorem dX2_judgeRow_28 : decode cX2_judgeRow 28 = .ok (.iconst 0, 1) := by decide +kernel
theorem dX2_judgeRow_29 : decode cX2_judgeRow 29 = .ok (.istore 5, 2) := by decide +kernel
theorem dX2_judgeRow_31 : decode cX2_judgeRow 31 = .ok (.iload 5, 2) := by decide +kernel
theorem dX2_judgeRow_33 : decode cX2_judgeRow 33 = .ok (.aload_n 2, 1) := by decide +kernel
theorem dX2_judgeRow_34 : decode cX2_judgeRow 34 = .ok (.getfield 111, 3) := by decide +kernel
theorem dX2_judgeRow_37 : decode cX2_judgeRow 37 = .ok (.if_icmp .ge 86, 3) := by decide +kernel
theorem dX2_judgeRow_40 : decode cX2_judgeRow 40 = .ok (.aload_n 2, 1) := by decide +kernel
theorem dX2_judgeRow_41 : decode cX2_judgeRow 41 = .ok (.getfield 114, 3) := by decide +kernel
theorem dX2_judgeRow_44 : decode cX2_judgeRow 44 = .ok (.iload 5, 2) := by decide +kernel
theorem dX2_judgeRow_46 : decode cX2_judgeRow 46 = .ok (.iaload, 1) := by decide +kernel
theorem dX2_judgeRow_47 : decode cX2_judgeRow 47 = .ok (.istore 6, 2) := by decide +kernel
theorem dX2_judgeRow_49 : decode cX2_judgeRow 49 = .ok (.aload_n 0, 1) := by decide +kernel
theorem dX2_judgeRow_50 : decode cX2_judgeRow 50 = .ok (.getfield 26, 3) := by decide +kernel
theorem dX2_judgeRow_53 : decode cX2_judgeRow 53 = .ok (.iload 6, 2) := by decide +kernel
theorem dX2_judgeRow_55 : decode cX2_judgeRow 55 = .ok (.aaload, 1) := by decide +kernel
theorem dX2_judgeRow_56 : decode cX2_judgeRow 56 = .ok (.astore 7, 2) := by decide +kernel
theorem dX2_judgeRow_58 : decode cX2_judgeRow 58 = .ok (.aload_n 0, 1) := by decide +kernel
theorem dX2_judgeRow_59 : decode cX2_judgeRow 59 = .ok (.getfield 41, 3) := by decide +kernel
theorem dX2_judgeRow_62 : decode cX2_judgeRow 62 = .ok (.aload 7, 2) := by decide +kernel
theorem dX2_judgeRow_64 : decode cX2_judgeRow 64 = .ok (.getfield 86, 3) := by decide +kernel
theorem dX2_judgeRow_67 : decode cX2_judgeRow 67 = .ok (.iaload, 1) := by decide +kernel
theorem dX2_judgeRow_68 : decode cX2_judgeRow 68 = .ok (.iload 6, 2) := by decide +kernel
theorem dX2_judgeRow_70 : decode cX2_judgeRow 70 = .ok (.if_icmp .eq 12, 3) := by decide +kernel
theorem dX2_judgeRow_73 : decode cX2_judgeRow 73 = .ok (.aload 7, 2) := by decide +kernel
theorem dX2_judgeRow_75 : decode cX2_judgeRow 75 = .ok (.iconst 2, 1) := by decide +kernel
theorem dX2_judgeRow_76 : decode cX2_judgeRow 76 = .ok (.putfield 126, 3) := by decide +kernel
theorem dX2_judgeRow_79 : decode cX2_judgeRow 79 = .ok (.goto 38, 3) := by decide +kernel
theorem dX2_judgeRow_82 : decode cX2_judgeRow 82 = .ok (.iload 4, 2) := by decide +kernel
theorem dX2_judgeRow_84 : decode cX2_judgeRow 84 = .ok (.aload_n 0, 1) := by decide +kernel
theorem dX2_judgeRow_85 : decode cX2_judgeRow 85 = .ok (.getfield 9, 3) := by decide +kernel
theorem dX2_judgeRow_88 : decode cX2_judgeRow 88 = .ok (.iconst 0, 1) := by decide +kernel
theorem dX2_judgeRow_89 : decode cX2_judgeRow 89 = .ok (.iaload, 1) := by decide +kernel
theorem dX2_judgeRow_90 : decode cX2_judgeRow 90 = .ok (.if_icmp .lt 12, 3) := by decide +kernel
theorem dX2_judgeRow_93 : decode cX2_judgeRow 93 = .ok (.aload 7, 2) := by decide +kernel
theorem dX2_judgeRow_95 : decode cX2_judgeRow 95 = .ok (.iconst 3, 1) := by decide +kernel
theorem dX2_judgeRow_96 : decode cX2_judgeRow 96 = .ok (.putfield 126, 3) := by decide +kernel
theorem dX2_judgeRow_99 : decode cX2_judgeRow 99 = .ok (.goto 18, 3) := by decide +kernel
theorem dX2_judgeRow_102 : decode cX2_judgeRow 102 = .ok (.aload 7, 2) := by decide +kernel
theorem dX2_judgeRow_104 : decode cX2_judgeRow 104 = .ok (.aload_n 0, 1) := by decide +kernel
theorem dX2_judgeRow_105 : decode cX2_judgeRow 105 = .ok (.aload 7, 2) := by decide +kernel
theorem dX2_judgeRow_107 : decode cX2_judgeRow 107 = .ok (.iload_n 3, 1) := by decide +kernel
theorem dX2_judgeRow_108 : decode cX2_judgeRow 108 = .ok (.invokevirtual 129, 3) := by decide +kernel
theorem dX2_judgeRow_111 : decode cX2_judgeRow 111 = .ok (.putfield 126, 3) := by decide +kernel
theorem dX2_judgeRow_114 : decode cX2_judgeRow 114 = .ok (.iinc 4 1, 3) := by decide +kernel
theorem dX2_judgeRow_117 : decode cX2_judgeRow 117 = .ok (.iinc 5 1, 3) := by decide +kernel
theorem dX2_judgeRow_120 : decode cX2_judgeRow 120 = .ok (.goto (-89), 3) := by decide +kernel
theorem dX2_judgeRow_123 : decode cX2_judgeRow 123 = .ok (.return_, 1) := by decide +kernel
theorem dX2_fateIfRead_0 : decode cX2_fateIfRead 0 = .ok (.aload_n 1, 1) := by decide +kernel
theorem dX2_fateIfRead_1 : decode cX2_fateIfRead 1 = .ok (.iload_n 2, 1) := by decide +kernel
theorem dX2_fateIfRead_2 : decode cX2_fateIfRead 2 = .ok (.invokevirtual 133, 3) := by decide +kernel
theorem dX2_fateIfRead_5 : decode cX2_fateIfRead 5 = .ok (.invokestatic 137, 3) := by decide +kernel
theorem dX2_fateIfRead_8 : decode cX2_fateIfRead 8 = .ok (.aload_n 0, 1) := by decide +kernel
theorem dX2_fateIfRead_9 : decode cX2_fateIfRead 9 = .ok (.getfield 9, 3) := by decide +kernel
theorem dX2_fateIfRead_12 : decode cX2_fateIfRead 12 = .ok (.iconst 1, 1) := by decide +kernel
theorem dX2_fateIfRead_13 : decode cX2_fateIfRead 13 = .ok (.iaload, 1) := by decide +kernel
theorem dX2_fateIfRead_14 : decode cX2_fateIfRead 14 = .ok (.if_icmp .gt 5, 3) := by decide +kernel
theorem dX2_fateIfRead_17 : decode cX2_fateIfRead 17 = .ok (.iconst 0, 1) := by decide +kernel
theorem dX2_fateIfRead_18 : decode cX2_fateIfRead 18 = .ok (.ireturn, 1) := by decide +kernel
theorem dX2_fateIfRead_19 : decode cX2_fateIfRead 19 = .ok (.aload_n 1, 1) := by decide +kernel
theorem dX2_fateIfRead_20 : decode cX2_fateIfRead 20 = .ok (.getfield 142, 3) := by decide +kernel
theorem dX2_fateIfRead_23 : decode cX2_fateIfRead 23 = .ok (.iconst 1, 1) := by decide +kernel
theorem dX2_fateIfRead_24 : decode cX2_fateIfRead 24 = .ok (.iadd, 1) := by decide +kernel
theorem dX2_fateIfRead_25 : decode cX2_fateIfRead 25 = .ok (.aload_n 0, 1) := by decide +kernel
theorem dX2_fateIfRead_26 : decode cX2_fateIfRead 26 = .ok (.getfield 9, 3) := by decide +kernel
theorem dX2_fateIfRead_29 : decode cX2_fateIfRead 29 = .ok (.iconst 2, 1) := by decide +kernel
theorem dX2_fateIfRead_30 : decode cX2_fateIfRead 30 = .ok (.iaload, 1) := by decide +kernel
theorem dX2_fateIfRead_31 : decode cX2_fateIfRead 31 = .ok (.if_icmp .lt 7, 3) := by decide +kernel
theorem dX2_fateIfRead_34 : decode cX2_fateIfRead 34 = .ok (.iconst 5, 1) := by decide +kernel
theorem dX2_fateIfRead_35 : decode cX2_fateIfRead 35 = .ok (.goto 4, 3) := by decide +kernel
theorem dX2_fateIfRead_38 : decode cX2_fateIfRead 38 = .ok (.iconst 4, 1) := by decide +kernel
theorem dX2_fateIfRead_39 : decode cX2_fateIfRead 39 = .ok (.ireturn, 1) := by decide +kernel
theorem dX2_passWeeks_0 : decode cX2_passWeeks 0 = .ok (.iconst 0, 1) := by decide +kernel
theorem dX2_passWeeks_1 : decode cX2_passWeeks 1 = .ok (.istore_n 2, 1) := by decide +kernel
theorem dX2_passWeeks_2 : decode cX2_passWeeks 2 = .ok (.iconst 0, 1) := by decide +kernel
theorem dX2_passWeeks_3 : decode cX2_passWeeks 3 = .ok (.istore_n 3, 1) := by decide +kernel
theorem dX2_passWeeks_4 : decode cX2_passWeeks 4 = .ok (.iload_n 3, 1) := by decide +kernel
theorem dX2_passWeeks_5 : decode cX2_passWeeks 5 = .ok (.iload_n 1, 1) := by decide +kernel
theorem dX2_passWeeks_6 : decode cX2_passWeeks 6 = .ok (.if_icmp .ge 16, 3) := by decide +kernel
theorem dX2_passWeeks_9 : decode cX2_passWeeks 9 = .ok (.iload_n 2, 1) := by decide +kernel
theorem dX2_passWeeks_10 : decode cX2_passWeeks 10 = .ok (.aload_n 0, 1) := by decide +kernel
theorem dX2_passWeeks_11 : decode cX2_passWeeks 11 = .ok (.invokevirtual 145, 3) := by decide +kernel
theorem dX2_passWeeks_14 : decode cX2_passWeeks 14 = .ok (.iadd, 1) := by decide +kernel
theorem dX2_passWeeks_15 : decode cX2_passWeeks 15 = .ok (.istore_n 2, 1) := by decide +kernel
theorem dX2_passWeeks_16 : decode cX2_passWeeks 16 = .ok (.iinc 3 1, 3) := by decide +kernel
theorem dX2_passWeeks_19 : decode cX2_passWeeks 19 = .ok (.goto (-15), 3) := by decide +kernel
theorem dX2_passWeeks_22 : decode cX2_passWeeks 22 = .ok (.iload_n 2, 1) := by decide +kernel
theorem dX2_passWeeks_23 : decode cX2_passWeeks 23 = .ok (.ireturn, 1) := by decide +kernel
theorem dX2_passWeek_0 : decode cX2_passWeek 0 = .ok (.aload_n 0, 1) := by decide +kernel
theorem dX2_passWeek_1 : decode cX2_passWeek 1 = .ok (.invokevirtual 148, 3) := by decide +kernel
theorem dX2_passWeek_4 : decode cX2_passWeek 4 = .ok (.iconst 0, 1) := by decide +kernel
theorem dX2_passWeek_5 : decode cX2_passWeek 5 = .ok (.istore_n 1, 1) := by decide +kernel
theorem dX2_passWeek_6 : decode cX2_passWeek 6 = .ok (.iconst 0, 1) := by decide +kernel
theorem dX2_passWeek_7 : decode cX2_passWeek 7 = .ok (.istore_n 2, 1) := by decide +kernel
theorem dX2_passWeek_8 : decode cX2_passWeek 8 = .ok (.iload_n 2, 1) := by decide +kernel
theorem dX2_passWeek_9 : decode cX2_passWeek 9 = .ok (.iconst 2, 1) := by decide +kernel
theorem dX2_passWeek_10 : decode cX2_passWeek 10 = .ok (.if_icmp .ge 17, 3) := by decide +kernel
theorem dX2_passWeek_13 : decode cX2_passWeek 13 = .ok (.iload_n 1, 1) := by decide +kernel
theorem dX2_passWeek_14 : decode cX2_passWeek 14 = .ok (.aload_n 0, 1) := by decide +kernel
theorem dX2_passWeek_15 : decode cX2_passWeek 15 = .ok (.iload_n 2, 1) := by decide +kernel
theorem dX2_passWeek_16 : decode cX2_passWeek 16 = .ok (.invokevirtual 151, 3) := by decide +kernel
theorem dX2_passWeek_19 : decode cX2_passWeek 19 = .ok (.iadd, 1) := by decide +kernel
theorem dX2_passWeek_20 : decode cX2_passWeek 20 = .ok (.istore_n 1, 1) := by decide +kernel
theorem dX2_passWeek_21 : decode cX2_passWeek 21 = .ok (.iinc 2 1, 3) := by decide +kernel
theorem dX2_passWeek_24 : decode cX2_passWeek 24 = .ok (.goto (-16), 3) := by decide +kernel
theorem dX2_passWeek_27 : decode cX2_passWeek 27 = .ok (.aload_n 0, 1) := by decide +kernel
theorem dX2_passWeek_28 : decode cX2_passWeek 28 = .ok (.dup, 1) := by decide +kernel
theorem dX2_passWeek_29 : decode cX2_passWeek 29 = .ok (.getfield 66, 3) := by decide +kernel
theorem dX2_passWeek_32 : decode cX2_passWeek 32 = .ok (.iconst 1, 1) := by decide +kernel
theorem dX2_passWeek_33 : decode cX2_passWeek 33 = .ok (.iadd, 1) := by decide +kernel
theorem dX2_passWeek_34 : decode cX2_passWeek 34 = .ok (.putfield 66, 3) := by decide +kernel
theorem dX2_passWeek_37 : decode cX2_passWeek 37 = .ok (.iload_n 1, 1) := by decide +kernel
theorem dX2_passWeek_38 : decode cX2_passWeek 38 = .ok (.ireturn, 1) := by decide +kernel
theorem dX2_readRow_0 : decode cX2_readRow 0 = .ok (.aload_n 0, 1) := by decide +kernel
theorem dX2_readRow_1 : decode cX2_readRow 1 = .ok (.getfield 32, 3) := by decide +kernel
theorem dX2_readRow_4 : decode cX2_readRow 4 = .ok (.iload_n 1, 1) := by decide +kernel
theorem dX2_readRow_5 : decode cX2_readRow 5 = .ok (.aaload, 1) := by decide +kernel
theorem dX2_readRow_6 : decode cX2_readRow 6 = .ok (.astore_n 2, 1) := by decide +kernel
theorem dX2_readRow_7 : decode cX2_readRow 7 = .ok (.aload_n 0, 1) := by decide +kernel
theorem dX2_readRow_8 : decode cX2_readRow 8 = .ok (.aload_n 0, 1) := by decide +kernel
theorem dX2_readRow_9 : decode cX2_readRow 9 = .ok (.getfield 66, 3) := by decide +kernel
theorem dX2_readRow_12 : decode cX2_readRow 12 = .ok (.iload_n 1, 1) := by decide +kernel
theorem dX2_readRow_13 : decode cX2_readRow 13 = .ok (.invokevirtual 120, 3) := by decide +kernel
theorem dX2_readRow_16 : decode cX2_readRow 16 = .ok (.istore_n 3, 1) := by decide +kernel
theorem dX2_readRow_17 : decode cX2_readRow 17 = .ok (.iconst 0, 1) := by decide +kernel
theorem dX2_readRow_18 : decode cX2_readRow 18 = .ok (.istore 4, 2) := by decide +kernel
theorem dX2_readRow_20 : decode cX2_readRow 20 = .ok (.iconst 0, 1) := by decide +kernel
theorem dX2_readRow_21 : decode cX2_readRow 21 = .ok (.istore 5, 2) := by decide +kernel
theorem dX2_readRow_23 : decode cX2_readRow 23 = .ok (.iload 5, 2) := by decide +kernel
theorem dX2_readRow_25 : decode cX2_readRow 25 = .ok (.aload_n 2, 1) := by decide +kernel
theorem dX2_readRow_26 : decode cX2_readRow 26 = .ok (.getfield 111, 3) := by decide +kernel
theorem dX2_readRow_29 : decode cX2_readRow 29 = .ok (.if_icmp .ge 69, 3) := by decide +kernel
theorem dX2_readRow_32 : decode cX2_readRow 32 = .ok (.aload_n 0, 1) := by decide +kernel
theorem dX2_readRow_33 : decode cX2_readRow 33 = .ok (.getfield 26, 3) := by decide +kernel
theorem dX2_readRow_36 : decode cX2_readRow 36 = .ok (.aload_n 2, 1) := by decide +kernel
theorem dX2_readRow_37 : decode cX2_readRow 37 = .ok (.getfield 114, 3) := by decide +kernel
theorem dX2_readRow_40 : decode cX2_readRow 40 = .ok (.iload 5, 2) := by decide +kernel
theorem dX2_readRow_42 : decode cX2_readRow 42 = .ok (.iaload, 1) := by decide +kernel
theorem dX2_readRow_43 : decode cX2_readRow 43 = .ok (.aaload, 1) := by decide +kernel
theorem dX2_readRow_44 : decode cX2_readRow 44 = .ok (.astore 6, 2) := by decide +kernel
theorem dX2_readRow_46 : decode cX2_readRow 46 = .ok (.aload 6, 2) := by decide +kernel
theorem dX2_readRow_48 : decode cX2_readRow 48 = .ok (.getfield 126, 3) := by decide +kernel
theorem dX2_readRow_51 : decode cX2_readRow 51 = .ok (.ifCond .ne 16, 3) := by decide +kernel
theorem dX2_readRow_54 : decode cX2_readRow 54 = .ok (.aload_n 0, 1) := by decide +kernel
theorem dX2_readRow_55 : decode cX2_readRow 55 = .ok (.aload 6, 2) := by decide +kernel
theorem dX2_readRow_57 : decode cX2_readRow 57 = .ok (.iload_n 3, 1) := by decide +kernel
theorem dX2_readRow_58 : decode cX2_readRow 58 = .ok (.invokevirtual 154, 3) := by decide +kernel
theorem dX2_readRow_61 : decode cX2_readRow 61 = .ok (.iinc 4 1, 3) := by decide +kernel
theorem dX2_readRow_64 : decode cX2_readRow 64 = .ok (.goto 28, 3) := by decide +kernel
theorem dX2_readRow_67 : decode cX2_readRow 67 = .ok (.aload 6, 2) := by decide +kernel
theorem dX2_readRow_69 : decode cX2_readRow 69 = .ok (.getfield 126, 3) := by decide +kernel
theorem dX2_readRow_72 : decode cX2_readRow 72 = .ok (.iconst 4, 1) := by decide +kernel
theorem dX2_readRow_73 : decode cX2_readRow 73 = .ok (.if_icmp .eq 12, 3) := by decide +kernel
theorem dX2_readRow_76 : decode cX2_readRow 76 = .ok (.aload 6, 2) := by decide +kernel
theorem dX2_readRow_78 : decode cX2_readRow 78 = .ok (.getfield 126, 3) := by decide +kernel
theorem dX2_readRow_81 : decode cX2_readRow 81 = .ok (.iconst 5, 1) := by decide +kernel
theorem dX2_readRow_82 : decode cX2_readRow 82 = .ok (.if_icmp .ne 10, 3) := by decide +kernel
theorem dX2_readRow_85 : decode cX2_readRow 85 = .ok (.aload_n 0, 1) := by decide +kernel
theorem dX2_readRow_86 : decode cX2_readRow 86 = .ok (.aload 6, 2) := by decide +kernel
theorem dX2_readRow_88 : decode cX2_readRow 88 = .ok (.iload_n 3, 1) := by decide +kernel
theorem dX2_readRow_89 : decode cX2_readRow 89 = .ok (.invokevirtual 158, 3) := by decide +kernel
theorem dX2_readRow_92 : decode cX2_readRow 92 = .ok (.iinc 5 1, 3) := by decide +kernel
theorem dX2_readRow_95 : decode cX2_readRow 95 = .ok (.goto (-72), 3) := by decide +kernel
theorem dX2_readRow_98 : decode cX2_readRow 98 = .ok (.aload_n 0, 1) := by decide +kernel
theorem dX2_readRow_99 : decode cX2_readRow 99 = .ok (.getfield 37, 3) := by decide +kernel
theorem dX2_readRow_102 : decode cX2_readRow 102 = .ok (.iconst 0, 1) := by decide +kernel
theorem dX2_readRow_103 : decode cX2_readRow 103 = .ok (.putfield 111, 3) := by decide +kernel
theorem dX2_readRow_106 : decode cX2_readRow 106 = .ok (.aload_n 0, 1) := by decide +kernel
theorem dX2_readRow_107 : decode cX2_readRow 107 = .ok (.aload_n 2, 1) := by decide +kernel
theorem dX2_readRow_108 : decode cX2_readRow 108 = .ok (.iconst 2, 1) := by decide +kernel
theorem dX2_readRow_109 : decode cX2_readRow 109 = .ok (.iconst 3, 1) := by decide +kernel
theorem dX2_readRow_110 : decode cX2_readRow 110 = .ok (.invokevirtual 161, 3) := by decide +kernel
theorem dX2_readRow_113 : decode cX2_readRow 113 = .ok (.aload_n 0, 1) := by decide +kernel
theorem dX2_readRow_114 : decode cX2_readRow 114 = .ok (.aload_n 2, 1) := by decide +kernel
theorem dX2_readRow_115 : decode cX2_readRow 115 = .ok (.iconst 4, 1) := by decide +kernel
theorem dX2_readRow_116 : decode cX2_readRow 116 = .ok (.iconst 4, 1) := by decide +kernel
theorem dX2_readRow_117 : decode cX2_readRow 117 = .ok (.invokevirtual 161, 3) := by decide +kernel
theorem dX2_readRow_120 : decode cX2_readRow 120 = .ok (.aload_n 2, 1) := by decide +kernel
theorem dX2_readRow_121 : decode cX2_readRow 121 = .ok (.aload_n 0, 1) := by decide +kernel
theorem dX2_readRow_122 : decode cX2_readRow 122 = .ok (.getfield 37, 3) := by decide +kernel
theorem dX2_readRow_125 : decode cX2_readRow 125 = .ok (.invokevirtual 63, 3) := by decide +kernel
theorem dX2_readRow_128 : decode cX2_readRow 128 = .ok (.iload 4, 2) := by decide +kernel
theorem dX2_readRow_130 : decode cX2_readRow 130 = .ok (.ireturn, 1) := by decide +kernel
theorem dX2_appendIfFate_0 : decode cX2_appendIfFate 0 = .ok (.iconst 0, 1) := by decide +kernel
theorem dX2_appendIfFate_1 : decode cX2_appendIfFate 1 = .ok (.istore 4, 2) := by decide +kernel
theorem dX2_appendIfFate_3 : decode cX2_appendIfFate 3 = .ok (.iload 4, 2) := by decide +kernel
theorem dX2_appendIfFate_5 : decode cX2_appendIfFate 5 = .ok (.aload_n 1, 1) := by decide +kernel
theorem dX2_appendIfFate_6 : decode cX2_appendIfFate 6 = .ok (.getfield 111, 3) := by decide +kernel
theorem dX2_appendIfFate_9 : decode cX2_appendIfFate 9 = .ok (.if_icmp .ge 52, 3) := by decide +kernel
theorem dX2_appendIfFate_12 : decode cX2_appendIfFate 12 = .ok (.aload_n 0, 1) := by decide +kernel
theorem dX2_appendIfFate_13 : decode cX2_appendIfFate 13 = .ok (.getfield 26, 3) := by decide +kernel
theorem dX2_appendIfFate_16 : decode cX2_appendIfFate 16 = .ok (.aload_n 1, 1) := by decide +kernel
theorem dX2_appendIfFate_17 : decode cX2_appendIfFate 17 = .ok (.getfield 114, 3) := by decide +kernel
theorem dX2_appendIfFate_20 : decode cX2_appendIfFate 20 = .ok (.iload 4, 2) := by decide +kernel
theorem dX2_appendIfFate_22 : decode cX2_appendIfFate 22 = .ok (.iaload, 1) := by decide +kernel
theorem dX2_appendIfFate_23 : decode cX2_appendIfFate 23 = .ok (.aaload, 1) := by decide +kernel
theorem dX2_appendIfFate_24 : decode cX2_appendIfFate 24 = .ok (.getfield 126, 3) := by decide +kernel
theorem dX2_appendIfFate_27 : decode cX2_appendIfFate 27 = .ok (.istore 5, 2) := by decide +kernel
theorem dX2_appendIfFate_29 : decode cX2_appendIfFate 29 = .ok (.iload 5, 2) := by decide +kernel
theorem dX2_appendIfFate_31 : decode cX2_appendIfFate 31 = .ok (.iload_n 2, 1) := by decide +kernel
theorem dX2_appendIfFate_32 : decode cX2_appendIfFate 32 = .ok (.if_icmp .eq 9, 3) := by decide +kernel
theorem dX2_appendIfFate_35 : decode cX2_appendIfFate 35 = .ok (.iload 5, 2) := by decide +kernel
theorem dX2_appendIfFate_37 : decode cX2_appendIfFate 37 = .ok (.iload_n 3, 1) := by decide +kernel
theorem dX2_appendIfFate_38 : decode cX2_appendIfFate 38 = .ok (.if_icmp .ne 17, 3) := by decide +kernel
theorem dX2_appendIfFate_41 : decode cX2_appendIfFate 41 = .ok (.aload_n 0, 1) := by decide +kernel
theorem dX2_appendIfFate_42 : decode cX2_appendIfFate 42 = .ok (.getfield 37, 3) := by decide +kernel
theorem dX2_appendIfFate_45 : decode cX2_appendIfFate 45 = .ok (.aload_n 1, 1) := by decide +kernel
theorem dX2_appendIfFate_46 : decode cX2_appendIfFate 46 = .ok (.getfield 114, 3) := by decide +kernel
theorem dX2_appendIfFate_49 : decode cX2_appendIfFate 49 = .ok (.iload 4, 2) := by decide +kernel
theorem dX2_appendIfFate_51 : decode cX2_appendIfFate 51 = .ok (.iaload, 1) := by decide +kernel
theorem dX2_appendIfFate_52 : decode cX2_appendIfFate 52 = .ok (.invokevirtual 76, 3) := by decide +kernel
theorem dX2_appendIfFate_55 : decode cX2_appendIfFate 55 = .ok (.iinc 4 1, 3) := by decide +kernel
theorem dX2_appendIfFate_58 : decode cX2_appendIfFate 58 = .ok (.goto (-55), 3) := by decide +kernel
theorem dX2_appendIfFate_61 : decode cX2_appendIfFate 61 = .ok (.return_, 1) := by decide +kernel
theorem dX2_letThrough_0 : decode cX2_letThrough 0 = .ok (.aload_n 1, 1) := by decide +kernel
theorem dX2_letThrough_1 : decode cX2_letThrough 1 = .ok (.aload_n 1, 1) := by decide +kernel
theorem dX2_letThrough_2 : decode cX2_letThrough 2 = .ok (.aload_n 0, 1) := by decide +kernel
theorem dX2_letThrough_3 : decode cX2_letThrough 3 = .ok (.getfield 17, 3) := by decide +kernel
theorem dX2_letThrough_6 : decode cX2_letThrough 6 = .ok (.iload_n 2, 1) := by decide +kernel
theorem dX2_letThrough_7 : decode cX2_letThrough 7 = .ok (.aaload, 1) := by decide +kernel
theorem dX2_letThrough_8 : decode cX2_letThrough 8 = .ok (.getfield 123, 3) := by decide +kernel
theorem dX2_letThrough_11 : decode cX2_letThrough 11 = .ok (.invokevirtual 133, 3) := by decide +kernel
theorem dX2_letThrough_14 : decode cX2_letThrough 14 = .ok (.putfield 165, 3) := by decide +kernel
theorem dX2_letThrough_17 : decode cX2_letThrough 17 = .ok (.aload_n 1, 1) := by decide +kernel
theorem dX2_letThrough_18 : decode cX2_letThrough 18 = .ok (.iconst 1, 1) := by decide +kernel
theorem dX2_letThrough_19 : decode cX2_letThrough 19 = .ok (.putfield 80, 3) := by decide +kernel
theorem dX2_letThrough_22 : decode cX2_letThrough 22 = .ok (.aload_n 1, 1) := by decide +kernel
theorem dX2_letThrough_23 : decode cX2_letThrough 23 = .ok (.aload_n 0, 1) := by decide +kernel
theorem dX2_letThrough_24 : decode cX2_letThrough 24 = .ok (.getfield 66, 3) := by decide +kernel
theorem dX2_letThrough_27 : decode cX2_letThrough 27 = .ok (.iconst 1, 1) := by decide +kernel
theorem dX2_letThrough_28 : decode cX2_letThrough 28 = .ok (.iadd, 1) := by decide +kernel
theorem dX2_letThrough_29 : decode cX2_letThrough 29 = .ok (.aload_n 1, 1) := by decide +kernel
theorem dX2_letThrough_30 : decode cX2_letThrough 30 = .ok (.getfield 168, 3) := by decide +kernel
theorem dX2_letThrough_33 : decode cX2_letThrough 33 = .ok (.isub, 1) := by decide +kernel
theorem dX2_letThrough_34 : decode cX2_letThrough 34 = .ok (.putfield 89, 3) := by decide +kernel
theorem dX2_letThrough_37 : decode cX2_letThrough 37 = .ok (.aload_n 1, 1) := by decide +kernel
theorem dX2_letThrough_38 : decode cX2_letThrough 38 = .ok (.iload_n 2, 1) := by decide +kernel
theorem dX2_letThrough_39 : decode cX2_letThrough 39 = .ok (.putfield 171, 3) := by decide +kernel
theorem dX2_letThrough_42 : decode cX2_letThrough 42 = .ok (.aload_n 0, 1) := by decide +kernel
theorem dX2_letThrough_43 : decode cX2_letThrough 43 = .ok (.getfield 17, 3) := by decide +kernel
theorem dX2_letThrough_46 : decode cX2_letThrough 46 = .ok (.iload_n 2, 1) := by decide +kernel
theorem dX2_letThrough_47 : decode cX2_letThrough 47 = .ok (.aaload, 1) := by decide +kernel
theorem dX2_letThrough_48 : decode cX2_letThrough 48 = .ok (.dup, 1) := by decide +kernel
theorem dX2_letThrough_49 : decode cX2_letThrough 49 = .ok (.getfield 174, 3) := by decide +kernel
theorem dX2_letThrough_52 : decode cX2_letThrough 52 = .ok (.iconst 1, 1) := by decide +kernel
theorem dX2_letThrough_53 : decode cX2_letThrough 53 = .ok (.iadd, 1) := by decide +kernel
theorem dX2_letThrough_54 : decode cX2_letThrough 54 = .ok (.putfield 174, 3) := by decide +kernel
theorem dX2_letThrough_57 : decode cX2_letThrough 57 = .ok (.aload_n 0, 1) := by decide +kernel
theorem dX2_letThrough_58 : decode cX2_letThrough 58 = .ok (.getfield 17, 3) := by decide +kernel
theorem dX2_letThrough_61 : decode cX2_letThrough 61 = .ok (.iload_n 2, 1) := by decide +kernel
theorem dX2_letThrough_62 : decode cX2_letThrough 62 = .ok (.aaload, 1) := by decide +kernel
theorem dX2_letThrough_63 : decode cX2_letThrough 63 = .ok (.dup, 1) := by decide +kernel
theorem dX2_letThrough_64 : decode cX2_letThrough 64 = .ok (.getfield 177, 3) := by decide +kernel
theorem dX2_letThrough_67 : decode cX2_letThrough 67 = .ok (.aload_n 1, 1) := by decide +kernel
theorem dX2_letThrough_68 : decode cX2_letThrough 68 = .ok (.invokevirtual 98, 3) := by decide +kernel
theorem dX2_letThrough_71 : decode cX2_letThrough 71 = .ok (.iadd, 1) := by decide +kernel
theorem dX2_letThrough_72 : decode cX2_letThrough 72 = .ok (.putfield 177, 3) := by decide +kernel
theorem dX2_letThrough_75 : decode cX2_letThrough 75 = .ok (.return_, 1) := by decide +kernel
theorem dX2_turnBack_0 : decode cX2_turnBack 0 = .ok (.aload_n 1, 1) := by decide +kernel
theorem dX2_turnBack_1 : decode cX2_turnBack 1 = .ok (.dup, 1) := by decide +kernel
theorem dX2_turnBack_2 : decode cX2_turnBack 2 = .ok (.getfield 142, 3) := by decide +kernel
theorem dX2_turnBack_5 : decode cX2_turnBack 5 = .ok (.iconst 1, 1) := by decide +kernel
theorem dX2_turnBack_6 : decode cX2_turnBack 6 = .ok (.iadd, 1) := by decide +kernel
theorem dX2_turnBack_7 : decode cX2_turnBack 7 = .ok (.putfield 142, 3) := by decide +kernel
theorem dX2_turnBack_10 : decode cX2_turnBack 10 = .ok (.aload_n 1, 1) := by decide +kernel
theorem dX2_turnBack_11 : decode cX2_turnBack 11 = .ok (.getfield 126, 3) := by decide +kernel
theorem dX2_turnBack_14 : decode cX2_turnBack 14 = .ok (.iconst 5, 1) := by decide +kernel
theorem dX2_turnBack_15 : decode cX2_turnBack 15 = .ok (.if_icmp .ne 8, 3) := by decide +kernel
theorem dX2_turnBack_18 : decode cX2_turnBack 18 = .ok (.aload_n 1, 1) := by decide +kernel
theorem dX2_turnBack_19 : decode cX2_turnBack 19 = .ok (.iconst 2, 1) := by decide +kernel
theorem dX2_turnBack_20 : decode cX2_turnBack 20 = .ok (.putfield 80, 3) := by decide +kernel
theorem dX2_turnBack_23 : decode cX2_turnBack 23 = .ok (.aload_n 0, 1) := by decide +kernel
theorem dX2_turnBack_24 : decode cX2_turnBack 24 = .ok (.getfield 17, 3) := by decide +kernel
theorem dX2_turnBack_27 : decode cX2_turnBack 27 = .ok (.iload_n 2, 1) := by decide +kernel
theorem dX2_turnBack_28 : decode cX2_turnBack 28 = .ok (.aaload, 1) := by decide +kernel
theorem dX2_turnBack_29 : decode cX2_turnBack 29 = .ok (.dup, 1) := by decide +kernel
theorem dX2_turnBack_30 : decode cX2_turnBack 30 = .ok (.getfield 174, 3) := by decide +kernel
theorem dX2_turnBack_33 : decode cX2_turnBack 33 = .ok (.iconst 1, 1) := by decide +kernel
theorem dX2_turnBack_34 : decode cX2_turnBack 34 = .ok (.iadd, 1) := by decide +kernel
theorem dX2_turnBack_35 : decode cX2_turnBack 35 = .ok (.putfield 174, 3) := by decide +kernel
theorem dX2_turnBack_38 : decode cX2_turnBack 38 = .ok (.aload_n 0, 1) := by decide +kernel
theorem dX2_turnBack_39 : decode cX2_turnBack 39 = .ok (.getfield 17, 3) := by decide +kernel
theorem dX2_turnBack_42 : decode cX2_turnBack 42 = .ok (.iload_n 2, 1) := by decide +kernel
theorem dX2_turnBack_43 : decode cX2_turnBack 43 = .ok (.aaload, 1) := by decide +kernel
theorem dX2_turnBack_44 : decode cX2_turnBack 44 = .ok (.dup, 1) := by decide +kernel
theorem dX2_turnBack_45 : decode cX2_turnBack 45 = .ok (.getfield 105, 3) := by decide +kernel
theorem dX2_turnBack_48 : decode cX2_turnBack 48 = .ok (.iconst 1, 1) := by decide +kernel
theorem dX2_turnBack_49 : decode cX2_turnBack 49 = .ok (.iadd, 1) := by decide +kernel
theorem dX2_turnBack_50 : decode cX2_turnBack 50 = .ok (.putfield 105, 3) := by decide +kernel
theorem dX2_turnBack_53 : decode cX2_turnBack 53 = .ok (.return_, 1) := by decide +kernel
theorem dX3_init_0 : decode cX3_init 0 = .ok (.aload_n 0, 1) := by decide +kernel
theorem dX3_init_1 : decode cX3_init 1 = .ok (.invokespecial 3, 3) := by decide +kernel
theorem dX3_init_4 : decode cX3_init 4 = .ok (.aload_n 0, 1) := by decide +kernel
theorem dX3_init_5 : decode cX3_init 5 = .ok (.bipush 40, 2) := by decide +kernel
theorem dX3_init_7 : decode cX3_init 7 = .ok (.newarray .int, 2) := by decide +kernel
theorem dX3_init_9 : decode cX3_init 9 = .ok (.putfield 9, 3) := by decide +kernel
theorem dX3_init_12 : decode cX3_init 12 = .ok (.return_, 1) := by decide +kernel
theorem dX3_copyFrom_0 : decode cX3_copyFrom 0 = .ok (.aload_n 0, 1) := by decide +kernel
theorem dX3_copyFrom_1 : decode cX3_copyFrom 1 = .ok (.aload_n 1, 1) := by decide +kernel
theorem dX3_copyFrom_2 : decode cX3_copyFrom 2 = .ok (.getfield 15, 3) := by decide +kernel
theorem dX3_copyFrom_5 : decode cX3_copyFrom 5 = .ok (.putfield 15, 3) := by decide +kernel
theorem dX3_copyFrom_8 : decode cX3_copyFrom 8 = .ok (.aload_n 1, 1) := by decide +kernel
theorem dX3_copyFrom_9 : decode cX3_copyFrom 9 = .ok (.getfield 9, 3) := by decide +kernel
theorem dX3_copyFrom_12 : decode cX3_copyFrom 12 = .ok (.iconst 0, 1) := by decide +kernel
theorem dX3_copyFrom_13 : decode cX3_copyFrom 13 = .ok (.aload_n 0, 1) := by decide +kernel
theorem dX3_copyFrom_14 : decode cX3_copyFrom 14 = .ok (.getfield 9, 3) := by decide +kernel
theorem dX3_copyFrom_17 : decode cX3_copyFrom 17 = .ok (.iconst 0, 1) := by decide +kernel
theorem dX3_copyFrom_18 : decode cX3_copyFrom 18 = .ok (.aload_n 0, 1) := by decide +kernel
theorem dX3_copyFrom_19 : decode cX3_copyFrom 19 = .ok (.getfield 15, 3) := by decide +kernel
theorem dX3_copyFrom_22 : decode cX3_copyFrom 22 = .ok (.invokestatic 19, 3) := by decide +kernel
theorem dX3_copyFrom_25 : decode cX3_copyFrom 25 = .ok (.return_, 1) := by decide +kernel
theorem dX3_append_0 : decode cX3_append 0 = .ok (.aload_n 0, 1) := by decide +kernel
theorem dX3_append_1 : decode cX3_append 1 = .ok (.getfield 15, 3) := by decide +kernel
theorem dX3_append_4 : decode cX3_append 4 = .ok (.aload_n 0, 1) := by decide +kernel
theorem dX3_append_5 : decode cX3_append 5 = .ok (.getfield 9, 3) := by decide +kernel
theorem dX3_append_8 : decode cX3_append 8 = .ok (.arraylength, 1) := by decide +kernel
theorem dX3_append_9 : decode cX3_append 9 = .ok (.if_icmp .ge 23, 3) := by decide +kernel
theorem dX3_append_12 : decode cX3_append 12 = .ok (.aload_n 0, 1) := by decide +kernel
theorem dX3_append_13 : decode cX3_append 13 = .ok (.getfield 9, 3) := by decide +kernel
theorem dX3_append_16 : decode cX3_append 16 = .ok (.aload_n 0, 1) := by decide +kernel
theorem dX3_append_17 : decode cX3_append 17 = .ok (.getfield 15, 3) := by decide +kernel
theorem dX3_append_20 : decode cX3_append 20 = .ok (.iload_n 1, 1) := by decide +kernel
theorem dX3_append_21 : decode cX3_append 21 = .ok (.iastore, 1) := by decide +kernel
theorem dX3_append_22 : decode cX3_append 22 = .ok (.aload_n 0, 1) := by decide +kernel
theorem dX3_append_23 : decode cX3_append 23 = .ok (.dup, 1) := by decide +kernel
theorem dX3_append_24 : decode cX3_append 24 = .ok (.getfield 15, 3) := by decide +kernel
theorem dX3_append_27 : decode cX3_append 27 = .ok (.iconst 1, 1) := by decide +kernel
theorem dX3_append_28 : decode cX3_append 28 = .ok (.iadd, 1) := by decide +kernel
theorem dX3_append_29 : decode cX3_append 29 = .ok (.putfield 15, 3) := by decide +kernel
theorem dX3_append_32 : decode cX3_append 32 = .ok (.return_, 1) := by decide +kernel
theorem dX3_placeOf_0 : decode cX3_placeOf 0 = .ok (.iconst 0, 1) := by decide +kernel
theorem dX3_placeOf_1 : decode cX3_placeOf 1 = .ok (.istore_n 2, 1) := by decide +kernel
theorem dX3_placeOf_2 : decode cX3_placeOf 2 = .ok (.iload_n 2, 1) := by decide +kernel
theorem dX3_placeOf_3 : decode cX3_placeOf 3 = .ok (.aload_n 0, 1) := by decide +kernel
theorem dX3_placeOf_4 : decode cX3_placeOf 4 = .ok (.getfield 15, 3) := by decide +kernel
theorem dX3_placeOf_7 : decode cX3_placeOf 7 = .ok (.if_icmp .ge 21, 3) := by decide +kernel
theorem dX3_placeOf_10 : decode cX3_placeOf 10 = .ok (.aload_n 0, 1) := by decide +kernel
theorem dX3_placeOf_11 : decode cX3_placeOf 11 = .ok (.getfield 9, 3) := by decide +kernel
theorem dX3_placeOf_14 : decode cX3_placeOf 14 = .ok (.iload_n 2, 1) := by decide +kernel
theorem dX3_placeOf_15 : decode cX3_placeOf 15 = .ok (.iaload, 1) := by decide +kernel
theorem dX3_placeOf_16 : decode cX3_placeOf 16 = .ok (.iload_n 1, 1) := by decide +kernel
theorem dX3_placeOf_17 : decode cX3_placeOf 17 = .ok (.if_icmp .ne 5, 3) := by decide +kernel
theorem dX3_placeOf_20 : decode cX3_placeOf 20 = .ok (.iload_n 2, 1) := by decide +kernel
theorem dX3_placeOf_21 : decode cX3_placeOf 21 = .ok (.ireturn, 1) := by decide +kernel
theorem dX3_placeOf_22 : decode cX3_placeOf 22 = .ok (.iinc 2 1, 3) := by decide +kernel
theorem dX3_placeOf_25 : decode cX3_placeOf 25 = .ok (.goto (-23), 3) := by decide +kernel
theorem dX3_placeOf_28 : decode cX3_placeOf 28 = .ok (.bipush (-6), 2) := by decide +kernel
theorem dX3_placeOf_30 : decode cX3_placeOf 30 = .ok (.ireturn, 1) := by decide +kernel
theorem dX3_takeOut_0 : decode cX3_takeOut 0 = .ok (.iconst 0, 1) := by decide +kernel
theorem dX3_takeOut_1 : decode cX3_takeOut 1 = .ok (.istore_n 2, 1) := by decide +kernel
theorem dX3_takeOut_2 : decode cX3_takeOut 2 = .ok (.iconst 0, 1) := by decide +kernel
theorem dX3_takeOut_3 : decode cX3_takeOut 3 = .ok (.istore_n 3, 1) := by decide +kernel
theorem dX3_takeOut_4 : decode cX3_takeOut 4 = .ok (.iload_n 3, 1) := by decide +kernel
theorem dX3_takeOut_5 : decode cX3_takeOut 5 = .ok (.aload_n 0, 1) := by decide +kernel
theorem dX3_takeOut_6 : decode cX3_takeOut 6 = .ok (.getfield 15, 3) := by decide +kernel
theorem dX3_takeOut_9 : decode cX3_takeOut 9 = .ok (.if_icmp .ge 34, 3) := by decide +kernel
theorem dX3_takeOut_12 : decode cX3_takeOut 12 = .ok (.aload_n 0, 1) := by decide +kernel
theorem dX3_takeOut_13 : decode cX3_takeOut 13 = .ok (.getfield 9, 3) := by decide +kernel
theorem dX3_takeOut_16 : decode cX3_takeOut 16 = .ok (.iload_n 3, 1) := by decide +kernel
theorem dX3_takeOut_17 : decode cX3_takeOut 17 = .ok (.iaload, 1) := by decide +kernel
theorem dX3_takeOut_18 : decode cX3_takeOut 18 = .ok (.iload_n 1, 1) := by decide +kernel
theorem dX3_takeOut_19 : decode cX3_takeOut 19 = .ok (.if_icmp .eq 18, 3) := by decide +kernel
theorem dX3_takeOut_22 : decode cX3_takeOut 22 = .ok (.aload_n 0, 1) := by decide +kernel
theorem dX3_takeOut_23 : decode cX3_takeOut 23 = .ok (.getfield 9, 3) := by decide +kernel
theorem dX3_takeOut_26 : decode cX3_takeOut 26 = .ok (.iload_n 2, 1) := by decide +kernel
theorem dX3_takeOut_27 : decode cX3_takeOut 27 = .ok (.aload_n 0, 1) := by decide +kernel
theorem dX3_takeOut_28 : decode cX3_takeOut 28 = .ok (.getfield 9, 3) := by decide +kernel
theorem dX3_takeOut_31 : decode cX3_takeOut 31 = .ok (.iload_n 3, 1) := by decide +kernel
theorem dX3_takeOut_32 : decode cX3_takeOut 32 = .ok (.iaload, 1) := by decide +kernel
theorem dX3_takeOut_33 : decode cX3_takeOut 33 = .ok (.iastore, 1) := by decide +kernel
theorem dX3_takeOut_34 : decode cX3_takeOut 34 = .ok (.iinc 2 1, 3) := by decide +kernel
theorem dX3_takeOut_37 : decode cX3_takeOut 37 = .ok (.iinc 3 1, 3) := by decide +kernel
theorem dX3_takeOut_40 : decode cX3_takeOut 40 = .ok (.goto (-36), 3) := by decide +kernel
theorem dX3_takeOut_43 : decode cX3_takeOut 43 = .ok (.aload_n 0, 1) := by decide +kernel
theorem dX3_takeOut_44 : decode cX3_takeOut 44 = .ok (.iload_n 2, 1) := by decide +kernel
theorem dX3_takeOut_45 : decode cX3_takeOut 45 = .ok (.putfield 15, 3) := by decide +kernel
theorem dX3_takeOut_48 : decode cX3_takeOut 48 = .ok (.return_, 1) := by decide +kernel
theorem dX4_init_0 : decode cX4_init 0 = .ok (.aload_n 0, 1) := by decide +kernel
theorem dX4_init_1 : decode cX4_init 1 = .ok (.invokespecial 3, 3) := by decide +kernel
theorem dX4_init_4 : decode cX4_init 4 = .ok (.aload_n 0, 1) := by decide +kernel
theorem dX4_init_5 : decode cX4_init 5 = .ok (.new 9, 3) := by decide +kernel
theorem dX4_init_8 : decode cX4_init 8 = .ok (.dup, 1) := by decide +kernel
theorem dX4_init_9 : decode cX4_init 9 = .ok (.invokespecial 11, 3) := by decide +kernel
theorem dX4_init_12 : decode cX4_init 12 = .ok (.putfield 12, 3) := by decide +kernel
theorem dX4_init_15 : decode cX4_init 15 = .ok (.aload_n 0, 1) := by decide +kernel
theorem dX4_init_16 : decode cX4_init 16 = .ok (.new 9, 3) := by decide +kernel
theorem dX4_init_19 : decode cX4_init 19 = .ok (.dup, 1) := by decide +kernel
theorem dX4_init_20 : decode cX4_init 20 = .ok (.invokespecial 11, 3) := by decide +kernel
theorem dX4_init_23 : decode cX4_init 23 = .ok (.putfield 16, 3) := by decide +kernel
theorem dX4_init_26 : decode cX4_init 26 = .ok (.aload_n 0, 1) := by decide +kernel
theorem dX4_init_27 : decode cX4_init 27 = .ok (.iconst 4, 1) := by decide +kernel
theorem dX4_init_28 : decode cX4_init 28 = .ok (.anewarray 9, 3) := by decide +kernel
theorem dX4_init_31 : decode cX4_init 31 = .ok (.putfield 19, 3) := by decide +kernel
theorem dX4_init_34 : decode cX4_init 34 = .ok (.aload_n 0, 1) := by decide +kernel
theorem dX4_init_35 : decode cX4_init 35 = .ok (.iconst 2, 1) := by decide +kernel
theorem dX4_init_36 : decode cX4_init 36 = .ok (.anewarray 9, 3) := by decide +kernel
theorem dX4_init_39 : decode cX4_init 39 = .ok (.putfield 23, 3) := by decide +kernel
theorem dX4_init_42 : decode cX4_init 42 = .ok (.aload_n 0, 1) := by decide +kernel
theorem dX4_init_43 : decode cX4_init 43 = .ok (.iconst 2, 1) := by decide +kernel
theorem dX4_init_44 : decode cX4_init 44 = .ok (.newarray .boolean, 2) := by decide +kernel
theorem dX4_init_46 : decode cX4_init 46 = .ok (.putfield 26, 3) := by decide +kernel
theorem dX4_init_49 : decode cX4_init 49 = .ok (.aload_n 0, 1) := by decide +kernel
theorem dX4_init_50 : decode cX4_init 50 = .ok (.bipush 60, 2) := by decide +kernel
theorem dX4_init_52 : decode cX4_init 52 = .ok (.newarray .char, 2) := by decide +kernel
theorem dX4_init_54 : decode cX4_init 54 = .ok (.putfield 30, 3) := by decide +kernel
theorem dX4_init_57 : decode cX4_init 57 = .ok (.iconst 0, 1) := by decide +kernel
theorem dX4_init_58 : decode cX4_init 58 = .ok (.istore_n 1, 1) := by decide +kernel
theorem dX4_init_59 : decode cX4_init 59 = .ok (.iload_n 1, 1) := by decide +kernel
theorem dX4_init_60 : decode cX4_init 60 = .ok (.iconst 4, 1) := by decide +kernel
theorem dX4_init_61 : decode cX4_init 61 = .ok (.if_icmp .ge 22, 3) := by decide +kernel
theorem dX4_init_64 : decode cX4_init 64 = .ok (.aload_n 0, 1) := by decide +kernel
theorem dX4_init_65 : decode cX4_init 65 = .ok (.getfield 19, 3) := by decide +kernel
theorem dX4_init_68 : decode cX4_init 68 = .ok (.iload_n 1, 1) := by decide +kernel
theorem dX4_init_69 : decode cX4_init 69 = .ok (.new 9, 3) := by decide +kernel
theorem dX4_init_72 : decode cX4_init 72 = .ok (.dup, 1) := by decide +kernel
theorem dX4_init_73 : decode cX4_init 73 = .ok (.invokespecial 11, 3) := by decide +kernel
theorem dX4_init_76 : decode cX4_init 76 = .ok (.aastore, 1) := by decide +kernel
theorem dX4_init_77 : decode cX4_init 77 = .ok (.iinc 1 1, 3) := by decide +kernel
theorem dX4_init_80 : decode cX4_init 80 = .ok (.goto (-21), 3) := by decide +kernel
theorem dX4_init_83 : decode cX4_init 83 = .ok (.iconst 0, 1) := by decide +kernel
theorem dX4_init_84 : decode cX4_init 84 = .ok (.istore_n 1, 1) := by decide +kernel
theorem dX4_init_85 : decode cX4_init 85 = .ok (.iload_n 1, 1) := by decide +kernel
theorem dX4_init_86 : decode cX4_init 86 = .ok (.iconst 2, 1) := by decide +kernel
theorem dX4_init_87 : decode cX4_init 87 = .ok (.if_icmp .ge 22, 3) := by decide +kernel
theorem dX4_init_90 : decode cX4_init 90 = .ok (.aload_n 0, 1) := by decide +kernel
theorem dX4_init_91 : decode cX4_init 91 = .ok (.getfield 23, 3) := by decide +kernel
theorem dX4_init_94 : decode cX4_init 94 = .ok (.iload_n 1, 1) := by decide +kernel
theorem dX4_init_95 : decode cX4_init 95 = .ok (.new 9, 3) := by decide +kernel
theorem dX4_init_98 : decode cX4_init 98 = .ok (.dup, 1) := by decide +kernel
theorem dX4_init_99 : decode cX4_init 99 = .ok (.invokespecial 11, 3) := by decide +kernel
theorem dX4_init_102 : decode cX4_init 102 = .ok (.aastore, 1) := by decide +kernel
theorem dX4_init_103 : decode cX4_init 103 = .ok (.iinc 1 1, 3) := by decide +kernel
theorem dX4_init_106 : decode cX4_init 106 = .ok (.goto (-21), 3) := by decide +kernel
theorem dX4_init_109 : decode cX4_init 109 = .ok (.return_, 1) := by decide +kernel
theorem dX4_set_0 : decode cX4_set 0 = .ok (.iload_n 1, 1) := by decide +kernel
theorem dX4_set_1 : decode cX4_set 1 = .ok (.ifCond .lt 8, 3) := by decide +kernel
theorem dX4_set_4 : decode cX4_set 4 = .ok (.iload_n 1, 1) := by decide +kernel
theorem dX4_set_5 : decode cX4_set 5 = .ok (.iconst 3, 1) := by decide +kernel
theorem dX4_set_6 : decode cX4_set 6 = .ok (.if_icmp .lt 6, 3) := by decide +kernel
theorem dX4_set_9 : decode cX4_set 9 = .ok (.bipush (-2), 2) := by decide +kernel
theorem dX4_set_11 : decode cX4_set 11 = .ok (.ireturn, 1) := by decide +kernel
theorem dX4_set_12 : decode cX4_set 12 = .ok (.iload_n 2, 1) := by decide +kernel
theorem dX4_set_13 : decode cX4_set 13 = .ok (.getstatic 34, 3) := by decide +kernel
theorem dX4_set_16 : decode cX4_set 16 = .ok (.iload_n 1, 1) := by decide +kernel
theorem dX4_set_17 : decode cX4_set 17 = .ok (.iaload, 1) := by decide +kernel
theorem dX4_set_18 : decode cX4_set 18 = .ok (.if_icmp .lt 12, 3) := by decide +kernel
theorem dX4_set_21 : decode cX4_set 21 = .ok (.iload_n 2, 1) := by decide +kernel
theorem dX4_set_22 : decode cX4_set 22 = .ok (.getstatic 38, 3) := by decide +kernel
theorem dX4_set_25 : decode cX4_set 25 = .ok (.iload_n 1, 1) := by decide +kernel
theorem dX4_set_26 : decode cX4_set 26 = .ok (.iaload, 1) := by decide +kernel
theorem dX4_set_27 : decode cX4_set 27 = .ok (.if_icmp .le 6, 3) := by decide +kernel
theorem dX4_set_30 : decode cX4_set 30 = .ok (.bipush (-2), 2) := by decide +kernel
theorem dX4_set_32 : decode cX4_set 32 = .ok (.ireturn, 1) := by decide +kernel
theorem dX4_set_33 : decode cX4_set 33 = .ok (.aload_n 0, 1) := by decide +kernel
theorem dX4_set_34 : decode cX4_set 34 = .ok (.invokevirtual 41, 3) := by decide +kernel
theorem dX4_set_37 : decode cX4_set 37 = .ok (.aload_n 0, 1) := by decide +kernel
theorem dX4_set_38 : decode cX4_set 38 = .ok (.getfield 12, 3) := by decide +kernel
theorem dX4_set_41 : decode cX4_set 41 = .ok (.getfield 44, 3) := by decide +kernel
theorem dX4_set_44 : decode cX4_set 44 = .ok (.iload_n 1, 1) := by decide +kernel
theorem dX4_set_45 : decode cX4_set 45 = .ok (.iaload, 1) := by decide +kernel
theorem dX4_set_46 : decode cX4_set 46 = .ok (.istore_n 3, 1) := by decide +kernel
theorem dX4_set_47 : decode cX4_set 47 = .ok (.aload_n 0, 1) := by decide +kernel
theorem dX4_set_48 : decode cX4_set 48 = .ok (.getfield 12, 3) := by decide +kernel
theorem dX4_set_51 : decode cX4_set 51 = .ok (.getfield 44, 3) := by decide +kernel
theorem dX4_set_54 : decode cX4_set 54 = .ok (.iload_n 1, 1) := by decide +kernel
theorem dX4_set_55 : decode cX4_set 55 = .ok (.iload_n 2, 1) := by decide +kernel
theorem dX4_set_56 : decode cX4_set 56 = .ok (.iastore, 1) := by decide +kernel
theorem dX4_set_57 : decode cX4_set 57 = .ok (.iload_n 3, 1) := by decide +kernel
theorem dX4_set_58 : decode cX4_set 58 = .ok (.ireturn, 1) := by decide +kernel
theorem dX4_strike_0 : decode cX4_strike 0 = .ok (.iload_n 1, 1) := by decide +kernel
theorem dX4_strike_1 : decode cX4_strike 1 = .ok (.ifCond .lt 18, 3) := by decide +kernel
theorem dX4_strike_4 : decode cX4_strike 4 = .ok (.iload_n 1, 1) := by decide +kernel
theorem dX4_strike_5 : decode cX4_strike 5 = .ok (.iconst 4, 1) := by decide +kernel
theorem dX4_strike_6 : decode cX4_strike 6 = .ok (.if_icmp .ge 13, 3) := by decide +kernel
theorem dX4_strike_9 : decode cX4_strike 9 = .ok (.iload_n 2, 1) := by decide +kernel
theorem dX4_strike_10 : decode cX4_strike 10 = .ok (.ifCond .lt 9, 3) := by decide +kernel
theorem dX4_strike_13 : decode cX4_strike 13 = .ok (.iload_n 2, 1) := by decide +kernel
theorem dX4_strike_14 : decode cX4_strike 14 = .ok (.bipush 26, 2) := by decide +kernel
theorem dX4_strike_16 : decode cX4_strike 16 = .ok (.if_icmp .lt 5, 3) := by decide +kernel
theorem dX4_strike_19 : decode cX4_strike 19 = .ok (.iconst (-1), 1) := by decide +kernel
theorem dX4_strike_20 : decode cX4_strike 20 = .ok (.ireturn, 1) := by decide +kernel
theorem dX4_strike_21 : decode cX4_strike 21 = .ok (.aload_n 0, 1) := by decide +kernel
theorem dX4_strike_22 : decode cX4_strike 22 = .ok (.invokevirtual 41, 3) := by decide +kernel
theorem dX4_strike_25 : decode cX4_strike 25 = .ok (.aload_n 0, 1) := by decide +kernel
theorem dX4_strike_26 : decode cX4_strike 26 = .ok (.getfield 12, 3) := by decide +kernel
theorem dX4_strike_29 : decode cX4_strike 29 = .ok (.getfield 47, 3) := by decide +kernel
theorem dX4_strike_32 : decode cX4_strike 32 = .ok (.iload_n 1, 1) := by decide +kernel
theorem dX4_strike_33 : decode cX4_strike 33 = .ok (.aaload, 1) := by decide +kernel
theorem dX4_strike_34 : decode cX4_strike 34 = .ok (.astore_n 3, 1) := by decide +kernel
theorem dX4_strike_35 : decode cX4_strike 35 = .ok (.aload_n 3, 1) := by decide +kernel
theorem dX4_strike_36 : decode cX4_strike 36 = .ok (.aload_n 3, 1) := by decide +kernel
theorem dX4_strike_37 : decode cX4_strike 37 = .ok (.getfield 51, 3) := by decide +kernel
theorem dX4_strike_40 : decode cX4_strike 40 = .ok (.iconst 1, 1) := by decide +kernel
theorem dX4_strike_41 : decode cX4_strike 41 = .ok (.iload_n 2, 1) := by decide +kernel
theorem dX4_strike_42 : decode cX4_strike 42 = .ok (.ishl, 1) := by decide +kernel
theorem dX4_strike_43 : decode cX4_strike 43 = .ok (.ixor, 1) := by decide +kernel
theorem dX4_strike_44 : decode cX4_strike 44 = .ok (.putfield 51, 3) := by decide +kernel
theorem dX4_strike_47 : decode cX4_strike 47 = .ok (.aload_n 3, 1) := by decide +kernel
theorem dX4_strike_48 : decode cX4_strike 48 = .ok (.getfield 51, 3) := by decide +kernel
theorem dX4_strike_51 : decode cX4_strike 51 = .ok (.invokestatic 57, 3) := by decide +kernel
theorem dX4_strike_54 : decode cX4_strike 54 = .ok (.ireturn, 1) := by decide +kernel
theorem dX4_trade_0 : decode cX4_trade 0 = .ok (.iload_n 1, 1) := by decide +kernel
theorem dX4_trade_1 : decode cX4_trade 1 = .ok (.ifCond .lt 19, 3) := by decide +kernel
theorem dX4_trade_4 : decode cX4_trade 4 = .ok (.iload_n 1, 1) := by decide +kernel
theorem dX4_trade_5 : decode cX4_trade 5 = .ok (.bipush 8, 2) := by decide +kernel
theorem dX4_trade_7 : decode cX4_trade 7 = .ok (.if_icmp .ge 13, 3) := by decide +kernel
theorem dX4_trade_10 : decode cX4_trade 10 = .ok (.iload_n 2, 1) := by decide +kernel
theorem dX4_trade_11 : decode cX4_trade 11 = .ok (.ifCond .lt 9, 3) := by decide +kernel
theorem dX4_trade_14 : decode cX4_trade 14 = .ok (.iload_n 2, 1) := by decide +kernel
theorem dX4_trade_15 : decode cX4_trade 15 = .ok (.bipush 8, 2) := by decide +kernel
theorem dX4_trade_17 : decode cX4_trade 17 = .ok (.if_icmp .lt 5, 3) := by decide +kernel
theorem dX4_trade_20 : decode cX4_trade 20 = .ok (.iconst (-1), 1) := by decide +kernel
theorem dX4_trade_21 : decode cX4_trade 21 = .ok (.ireturn, 1) := by decide +kernel
theorem dX4_trade_22 : decode cX4_trade 22 = .ok (.aload_n 0, 1) := by decide +kernel
theorem dX4_trade_23 : decode cX4_trade 23 = .ok (.getfield 12, 3) := by decide +kernel
theorem dX4_trade_26 : decode cX4_trade 26 = .ok (.getfield 63, 3) := by decide +kernel
theorem dX4_trade_29 : decode cX4_trade 29 = .ok (.iload_n 1, 1) := by decide +kernel
theorem dX4_trade_30 : decode cX4_trade 30 = .ok (.iaload, 1) := by decide +kernel
theorem dX4_trade_31 : decode cX4_trade 31 = .ok (.aload_n 0, 1) := by decide +kernel
theorem dX4_trade_32 : decode cX4_trade 32 = .ok (.getfield 12, 3) := by decide +kernel
theorem dX4_trade_35 : decode cX4_trade 35 = .ok (.getfield 63, 3) := by decide +kernel
theorem dX4_trade_38 : decode cX4_trade 38 = .ok (.iload_n 2, 1) := by decide +kernel
theorem dX4_trade_39 : decode cX4_trade 39 = .ok (.iaload, 1) := by decide +kernel
theorem dX4_trade_40 : decode cX4_trade 40 = .ok (.if_icmp .ne 6, 3) := by decide +kernel
theorem dX4_trade_43 : decode cX4_trade 43 = .ok (.bipush (-5), 2) := by decide +kernel
theorem dX4_trade_45 : decode cX4_trade 45 = .ok (.ireturn, 1) := by decide +kernel
theorem dX4_trade_46 : decode cX4_trade 46 = .ok (.aload_n 0, 1) := by decide +kernel
theorem dX4_trade_47 : decode cX4_trade 47 = .ok (.invokevirtual 41, 3) := by decide +kernel
theorem dX4_trade_50 : decode cX4_trade 50 = .ok (.aload_n 0, 1) := by decide +kernel
theorem dX4_trade_51 : decode cX4_trade 51 = .ok (.getfield 12, 3) := by decide +kernel
theorem dX4_trade_54 : decode cX4_trade 54 = .ok (.iload_n 1, 1) := by decide +kernel
theorem dX4_trade_55 : decode cX4_trade 55 = .ok (.iload_n 2, 1) := by decide +kernel
theorem dX4_trade_56 : decode cX4_trade 56 = .ok (.invokevirtual 66, 3) := by decide +kernel
theorem dX4_trade_59 : decode cX4_trade 59 = .ok (.aload_n 0, 1) := by decide +kernel
theorem dX4_trade_60 : decode cX4_trade 60 = .ok (.getfield 12, 3) := by decide +kernel
theorem dX4_trade_63 : decode cX4_trade 63 = .ok (.getfield 63, 3) := by decide +kernel
theorem dX4_trade_66 : decode cX4_trade 66 = .ok (.iload_n 1, 1) := by decide +kernel
theorem dX4_trade_67 : decode cX4_trade 67 = .ok (.iaload, 1) := by decide +kernel
theorem dX4_trade_68 : decode cX4_trade 68 = .ok (.ireturn, 1) := by decide +kernel
theorem dX4_read_0 : decode cX4_read 0 = .ok (.aload_n 0, 1) := by decide +kernel
theorem dX4_read_1 : decode cX4_read 1 = .ok (.invokevirtual 70, 3) := by decide +kernel
theorem dX4_read_4 : decode cX4_read 4 = .ok (.bipush (-6), 2) := by decide +kernel
theorem dX4_read_6 : decode cX4_read 6 = .ok (.if_icmp .eq 6, 3) := by decide +kernel
theorem dX4_read_9 : decode cX4_read 9 = .ok (.bipush (-3), 2) := by decide +kernel
theorem dX4_read_11 : decode cX4_read 11 = .ok (.ireturn, 1) := by decide +kernel
theorem dX4_read_12 : decode cX4_read 12 = .ok (.aload_n 0, 1) := by decide +kernel
theorem dX4_read_13 : decode cX4_read 13 = .ok (.getfield 12, 3) := by decide +kernel
theorem dX4_read_16 : decode cX4_read 16 = .ok (.getfield 74, 3) := by decide +kernel
theorem dX4_read_19 : decode cX4_read 19 = .ok (.aload_n 0, 1) := by decide +kernel
theorem dX4_read_20 : decode cX4_read 20 = .ok (.invokevirtual 77, 3) := by decide +kernel
theorem dX4_read_23 : decode cX4_read 23 = .ok (.iadd, 1) := by decide +kernel
theorem dX4_read_24 : decode cX4_read 24 = .ok (.bipush 40, 2) := by decide +kernel
theorem dX4_read_26 : decode cX4_read 26 = .ok (.if_icmp .le 6, 3) := by decide +kernel
theorem dX4_read_29 : decode cX4_read 29 = .ok (.bipush (-4), 2) := by decide +kernel
theorem dX4_read_31 : decode cX4_read 31 = .ok (.ireturn, 1) := by decide +kernel
theorem dX4_read_32 : decode cX4_read 32 = .ok (.aload_n 0, 1) := by decide +kernel
theorem dX4_read_33 : decode cX4_read 33 = .ok (.invokevirtual 41, 3) := by decide +kernel
theorem dX4_read_36 : decode cX4_read 36 = .ok (.aload_n 0, 1) := by decide +kernel
theorem dX4_read_37 : decode cX4_read 37 = .ok (.invokevirtual 80, 3) := by decide +kernel
theorem dX4_read_40 : decode cX4_read 40 = .ok (.aload_n 0, 1) := by decide +kernel
theorem dX4_read_41 : decode cX4_read 41 = .ok (.iconst 0, 1) := by decide +kernel
theorem dX4_read_42 : decode cX4_read 42 = .ok (.putfield 83, 3) := by decide +kernel
theorem dX4_read_45 : decode cX4_read 45 = .ok (.aload_n 0, 1) := by decide +kernel
theorem dX4_read_46 : decode cX4_read 46 = .ok (.getfield 12, 3) := by decide +kernel
theorem dX4_read_49 : decode cX4_read 49 = .ok (.getfield 74, 3) := by decide +kernel
theorem dX4_read_52 : decode cX4_read 52 = .ok (.ireturn, 1) := by decide +kernel
theorem dX4_burn_0 : decode cX4_burn 0 = .ok (.aload_n 0, 1) := by decide +kernel
theorem dX4_burn_1 : decode cX4_burn 1 = .ok (.getfield 12, 3) := by decide +kernel
theorem dX4_burn_4 : decode cX4_burn 4 = .ok (.iload_n 1, 1) := by decide +kernel
theorem dX4_burn_5 : decode cX4_burn 5 = .ok (.invokevirtual 86, 3) := by decide +kernel
theorem dX4_burn_8 : decode cX4_burn 8 = .ok (.ifCond .ne 5, 3) := by decide +kernel
theorem dX4_burn_11 : decode cX4_burn 11 = .ok (.iconst (-1), 1) := by decide +kernel
theorem dX4_burn_12 : decode cX4_burn 12 = .ok (.ireturn, 1) := by decide +kernel
theorem dX4_burn_13 : decode cX4_burn 13 = .ok (.aload_n 0, 1) := by decide +kernel
theorem dX4_burn_14 : decode cX4_burn 14 = .ok (.getfield 12, 3) := by decide +kernel
theorem dX4_burn_17 : decode cX4_burn 17 = .ok (.getfield 90, 3) := by decide +kernel
theorem dX4_burn_20 : decode cX4_burn 20 = .ok (.iload_n 1, 1) := by decide +kernel
theorem dX4_burn_21 : decode cX4_burn 21 = .ok (.aaload, 1) := by decide +kernel
theorem dX4_burn_22 : decode cX4_burn 22 = .ok (.getfield 94, 3) := by decide +kernel
theorem dX4_burn_25 : decode cX4_burn 25 = .ok (.ifCond .eq 6, 3) := by decide +kernel
theorem dX4_burn_28 : decode cX4_burn 28 = .ok (.bipush (-5), 2) := by decide +kernel
theorem dX4_burn_30 : decode cX4_burn 30 = .ok (.ireturn, 1) := by decide +kernel
theorem dX4_burn_31 : decode cX4_burn 31 = .ok (.aload_n 0, 1) := by decide +kernel
theorem dX4_burn_32 : decode cX4_burn 32 = .ok (.invokevirtual 41, 3) := by decide +kernel
theorem dX4_burn_35 : decode cX4_burn 35 = .ok (.aload_n 0, 1) := by decide +kernel
theorem dX4_burn_36 : decode cX4_burn 36 = .ok (.getfield 12, 3) := by decide +kernel
theorem dX4_burn_39 : decode cX4_burn 39 = .ok (.iload_n 1, 1) := by decide +kernel
theorem dX4_burn_40 : decode cX4_burn 40 = .ok (.invokevirtual 99, 3) := by decide +kernel
theorem dX4_burn_43 : decode cX4_burn 43 = .ok (.aload_n 0, 1) := by decide +kernel
theorem dX4_burn_44 : decode cX4_burn 44 = .ok (.getfield 12, 3) := by decide +kernel
theorem dX4_burn_47 : decode cX4_burn 47 = .ok (.getfield 103, 3) := by decide +kernel
theorem dX4_burn_50 : decode cX4_burn 50 = .ok (.aload_n 0, 1) := by decide +kernel
theorem dX4_burn_51 : decode cX4_burn 51 = .ok (.getfield 12, 3) := by decide +kernel
theorem dX4_burn_54 : decode cX4_burn 54 = .ok (.getfield 90, 3) := by decide +kernel
theorem dX4_burn_57 : decode cX4_burn 57 = .ok (.iload_n 1, 1) := by decide +kernel
theorem dX4_burn_58 : decode cX4_burn 58 = .ok (.aaload, 1) := by decide +kernel
theorem dX4_burn_59 : decode cX4_burn 59 = .ok (.getfield 106, 3) := by decide +kernel
theorem dX4_burn_62 : decode cX4_burn 62 = .ok (.isub, 1) := by decide +kernel
theorem dX4_burn_63 : decode cX4_burn 63 = .ok (.ireturn, 1) := by decide +kernel
theorem dX4_pass_0 : decode cX4_pass 0 = .ok (.iload_n 1, 1) := by decide +kernel
theorem dX4_pass_1 : decode cX4_pass 1 = .ok (.iconst 1, 1) := by decide +kernel
theorem dX4_pass_2 : decode cX4_pass 2 = .ok (.if_icmp .lt 9, 3) := by decide +kernel
theorem dX4_pass_5 : decode cX4_pass 5 = .ok (.iload_n 1, 1) := by decide +kernel
theorem dX4_pass_6 : decode cX4_pass 6 = .ok (.bipush 52, 2) := by decide +kernel
theorem dX4_pass_8 : decode cX4_pass 8 = .ok (.if_icmp .le 6, 3) := by decide +kernel
theorem dX4_pass_11 : decode cX4_pass 11 = .ok (.bipush (-2), 2) := by decide +kernel
theorem dX4_pass_13 : decode cX4_pass 13 = .ok (.ireturn, 1) := by decide +kernel
theorem dX4_pass_14 : decode cX4_pass 14 = .ok (.aload_n 0, 1) := by decide +kernel
theorem dX4_pass_15 : decode cX4_pass 15 = .ok (.getfield 12, 3) := by decide +kernel
theorem dX4_pass_18 : decode cX4_pass 18 = .ok (.getfield 103, 3) := by decide +kernel
theorem dX4_pass_21 : decode cX4_pass 21 = .ok (.iload_n 1, 1) := by decide +kernel
theorem dX4_pass_22 : decode cX4_pass 22 = .ok (.iadd, 1) := by decide +kernel
theorem dX4_pass_23 : decode cX4_pass 23 = .ok (.sipush 9999, 3) := by decide +kernel
theorem dX4_pass_26 : decode cX4_pass 26 = .ok (.if_icmp .le 6, 3) := by decide +kernel
theorem dX4_pass_29 : decode cX4_pass 29 = .ok (.bipush (-4), 2) := by decide +kernel
theorem dX4_pass_31 : decode cX4_pass 31 = .ok (.ireturn, 1) := by decide +kernel
theorem dX4_pass_32 : decode cX4_pass 32 = .ok (.aload_n 0, 1) := by decide +kernel
theorem dX4_pass_33 : decode cX4_pass 33 = .ok (.invokevirtual 41, 3) := by decide +kernel
theorem dX4_pass_36 : decode cX4_pass 36 = .ok (.aload_n 0, 1) := by decide +kernel
theorem dX4_pass_37 : decode cX4_pass 37 = .ok (.getfield 12, 3) := by decide +kernel
theorem dX4_pass_40 : decode cX4_pass 40 = .ok (.iload_n 1, 1) := by decide +kernel
theorem dX4_pass_41 : decode cX4_pass 41 = .ok (.invokevirtual 109, 3) := by decide +kernel
theorem dX4_pass_44 : decode cX4_pass 44 = .ok (.ireturn, 1) := by decide +kernel
theorem dX4_letter_0 : decode cX4_letter 0 = .ok (.aload_n 0, 1) := by decide +kernel
theorem dX4_letter_1 : decode cX4_letter 1 = .ok (.getfield 12, 3) := by decide +kernel
theorem dX4_letter_4 : decode cX4_letter 4 = .ok (.iload_n 1, 1) := by decide +kernel
theorem dX4_letter_5 : decode cX4_letter 5 = .ok (.invokevirtual 86, 3) := by decide +kernel
theorem dX4_letter_8 : decode cX4_letter 8 = .ok (.ifCond .ne 5, 3) := by decide +kernel
theorem dX4_letter_11 : decode cX4_letter 11 = .ok (.iconst (-1), 1) := by decide +kernel
theorem dX4_letter_12 : decode cX4_letter 12 = .ok (.ireturn, 1) := by decide +kernel
theorem dX4_letter_13 : decode cX4_letter 13 = .ok (.aload_n 0, 1) := by decide +kernel
theorem dX4_letter_14 : decode cX4_letter 14 = .ok (.getfield 12, 3) := by decide +kernel
theorem dX4_letter_17 : decode cX4_letter 17 = .ok (.getfield 90, 3) := by decide +kernel
theorem dX4_letter_20 : decode cX4_letter 20 = .ok (.iload_n 1, 1) := by decide +kernel
theorem dX4_letter_21 : decode cX4_letter 21 = .ok (.aaload, 1) := by decide +kernel
theorem dX4_letter_22 : decode cX4_letter 22 = .ok (.astore_n 3, 1) := by decide +kernel
theorem dX4_letter_23 : decode cX4_letter 23 = .ok (.iload_n 2, 1) := by decide +kernel
theorem dX4_letter_24 : decode cX4_letter 24 = .ok (.tableswitch 144 0 10 #[60, 65, 70, 75, 92, 97, 115, 120, 125, 130, 139], 60) := by decide +kernel
theorem dX4_letter_84 : decode cX4_letter 84 = .ok (.aload_n 3, 1) := by decide +kernel
theorem dX4_letter_85 : decode cX4_letter 85 = .ok (.getfield 112, 3) := by decide +kernel
theorem dX4_letter_88 : decode cX4_letter 88 = .ok (.ireturn, 1) := by decide +kernel
theorem dX4_letter_89 : decode cX4_letter 89 = .ok (.aload_n 3, 1) := by decide +kernel
theorem dX4_letter_90 : decode cX4_letter 90 = .ok (.getfield 115, 3) := by decide +kernel
theorem dX4_letter_93 : decode cX4_letter 93 = .ok (.ireturn, 1) := by decide +kernel
theorem dX4_letter_94 : decode cX4_letter 94 = .ok (.aload_n 3, 1) := by decide +kernel
theorem dX4_letter_95 : decode cX4_letter 95 = .ok (.getfield 94, 3) := by decide +kernel
theorem dX4_letter_98 : decode cX4_letter 98 = .ok (.ireturn, 1) := by decide +kernel
theorem dX4_letter_99 : decode cX4_letter 99 = .ok (.aload_n 0, 1) := by decide +kernel
theorem dX4_letter_100 : decode cX4_letter 100 = .ok (.getfield 12, 3) := by decide +kernel
theorem dX4_letter_103 : decode cX4_letter 103 = .ok (.getfield 118, 3) := by decide +kernel
theorem dX4_letter_106 : decode cX4_letter 106 = .ok (.aload_n 3, 1) := by decide +kernel
theorem dX4_letter_107 : decode cX4_letter 107 = .ok (.getfield 115, 3) := by decide +kernel
theorem dX4_letter_110 : decode cX4_letter 110 = .ok (.aaload, 1) := by decide +kernel
theorem dX4_letter_111 : decode cX4_letter 111 = .ok (.iload_n 1, 1) := by decide +kernel
theorem dX4_letter_112 : decode cX4_letter 112 = .ok (.invokevirtual 122, 3) := by decide +kernel
theorem dX4_letter_115 : decode cX4_letter 115 = .ok (.ireturn, 1) := by decide +kernel
theorem dX4_letter_116 : decode cX4_letter 116 = .ok (.aload_n 3, 1) := by decide +kernel
theorem dX4_letter_117 : decode cX4_letter 117 = .ok (.getfield 106, 3) := by decide +kernel
theorem dX4_letter_120 : decode cX4_letter 120 = .ok (.ireturn, 1) := by decide +kernel
theorem dX4_letter_121 : decode cX4_letter 121 = .ok (.aload_n 3, 1) := by decide +kernel
theorem dX4_letter_122 : decode cX4_letter 122 = .ok (.getfield 94, 3) := by decide +kernel
theorem dX4_letter_125 : decode cX4_letter 125 = .ok (.iconst 1, 1) := by decide +kernel
theorem dX4_letter_126 : decode cX4_letter 126 = .ok (.if_icmp .ne 10, 3) := by decide +kernel
theorem dX4_letter_129 : decode cX4_letter 129 = .ok (.aload_n 3, 1) := by decide +kernel
theorem dX4_letter_130 : decode cX4_letter 130 = .ok (.getfield 127, 3) := by decide +kernel
theorem dX4_letter_133 : decode cX4_letter 133 = .ok (.goto 5, 3) := by decide +kernel
theorem dX4_letter_136 : decode cX4_letter 136 = .ok (.bipush (-6), 2) := by decide +kernel
theorem dX4_letter_138 : decode cX4_letter 138 = .ok (.ireturn, 1) := by decide +kernel
theorem dX4_letter_139 : decode cX4_letter 139 = .ok (.aload_n 3, 1) := by decide +kernel
theorem dX4_letter_140 : decode cX4_letter 140 = .ok (.invokevirtual 130, 3) := by decide +kernel
theorem dX4_letter_143 : decode cX4_letter 143 = .ok (.ireturn, 1) := by decide +kernel
theorem dX4_letter_144 : decode cX4_letter 144 = .ok (.aload_n 3, 1) := by decide +kernel
theorem dX4_letter_145 : decode cX4_letter 145 = .ok (.getfield 133, 3) := by decide +kernel
theorem dX4_letter_148 : decode cX4_letter 148 = .ok (.ireturn, 1) := by decide +kernel
theorem dX4_letter_149 : decode cX4_letter 149 = .ok (.aload_n 3, 1) := by decide +kernel
theorem dX4_letter_150 : decode cX4_letter 150 = .ok (.getfield 136, 3) := by decide +kernel
theorem dX4_letter_153 : decode cX4_letter 153 = .ok (.ireturn, 1) := by decide +kernel
theorem dX4_letter_154 : decode cX4_letter 154 = .ok (.aload_n 0, 1) := by decide +kernel
theorem dX4_letter_155 : decode cX4_letter 155 = .ok (.getfield 12, 3) := by decide +kernel
theorem dX4_letter_158 : decode cX4_letter 158 = .ok (.iload_n 1, 1) := by decide +kernel
theorem dX4_letter_159 : decode cX4_letter 159 = .ok (.invokevirtual 139, 3) := by decide +kernel
theorem dX4_letter_162 : decode cX4_letter 162 = .ok (.ireturn, 1) := by decide +kernel
theorem dX4_letter_163 : decode cX4_letter 163 = .ok (.aload_n 3, 1) := by decide +kernel
theorem dX4_letter_164 : decode cX4_letter 164 = .ok (.getfield 142, 3) := by decide +kernel
theorem dX4_letter_167 : decode cX4_letter 167 = .ok (.ireturn, 1) := by decide +kernel
theorem dX4_letter_168 : decode cX4_letter 168 = .ok (.bipush (-2), 2) := by decide +kernel
theorem dX4_letter_170 : decode cX4_letter 170 = .ok (.ireturn, 1) := by decide +kernel
theorem dX4_word_0 : decode cX4_word 0 = .ok (.aload_n 0, 1) := by decide +kernel
theorem dX4_word_1 : decode cX4_word 1 = .ok (.getfield 12, 3) := by decide +kernel
theorem dX4_word_4 : decode cX4_word 4 = .ok (.iload_n 1, 1) := by decide +kernel
theorem dX4_word_5 : decode cX4_word 5 = .ok (.invokevirtual 86, 3) := by decide +kernel
theorem dX4_word_8 : decode cX4_word 8 = .ok (.ifCond .ne 5, 3) := by decide +kernel
theorem dX4_word_11 : decode cX4_word 11 = .ok (.iconst (-1), 1) := by decide +kernel
theorem dX4_word_12 : decode cX4_word 12 = .ok (.ireturn, 1) := by decide +kernel
theorem dX4_word_13 : decode cX4_word 13 = .ok (.aload_n 0, 1) := by decide +kernel
theorem dX4_word_14 : decode cX4_word 14 = .ok (.getfield 12, 3) := by decide +kernel
theorem dX4_word_17 : decode cX4_word 17 = .ok (.getfield 90, 3) := by decide +kernel
theorem dX4_word_20 : decode cX4_word 20 = .ok (.iload_n 1, 1) := by decide +kernel
theorem dX4_word_21 : decode cX4_word 21 = .ok (.aaload, 1) := by decide +kernel
theorem dX4_word_22 : decode cX4_word 22 = .ok (.astore_n 3, 1) := by decide +kernel
theorem dX4_word_23 : decode cX4_word 23 = .ok (.iload_n 2, 1) := by decide +kernel
theorem dX4_word_24 : decode cX4_word 24 = .ok (.ifCond .lt 11, 3) := by decide +kernel
theorem dX4_word_27 : decode cX4_word 27 = .ok (.iload_n 2, 1) := by decide +kernel
theorem dX4_word_28 : decode cX4_word 28 = .ok (.aload_n 3, 1) := by decide +kernel
theorem dX4_word_29 : decode cX4_word 29 = .ok (.getfield 142, 3) := by decide +kernel
theorem dX4_word_32 : decode cX4_word 32 = .ok (.if_icmp .lt 5, 3) := by decide +kernel
theorem dX4_word_35 : decode cX4_word 35 = .ok (.iconst (-1), 1) := by decide +kernel
theorem dX4_word_36 : decode cX4_word 36 = .ok (.ireturn, 1) := by decide +kernel
theorem dX4_word_37 : decode cX4_word 37 = .ok (.aload_n 3, 1) := by decide +kernel
theorem dX4_word_38 : decode cX4_word 38 = .ok (.iload_n 2, 1) := by decide +kernel
theorem dX4_word_39 : decode cX4_word 39 = .ok (.invokevirtual 145, 3) := by decide +kernel
theorem dX4_word_42 : decode cX4_word 42 = .ok (.ifCond .eq 8, 3) := by decide +kernel
theorem dX4_word_45 : decode cX4_word 45 = .ok (.bipush 42, 2) := by decide +kernel
theorem dX4_word_47 : decode cX4_word 47 = .ok (.goto 8, 3) := by decide +kernel
theorem dX4_word_50 : decode cX4_word 50 = .ok (.aload_n 3, 1) := by decide +kernel
theorem dX4_word_51 : decode cX4_word 51 = .ok (.iload_n 2, 1) := by decide +kernel
theorem dX4_word_52 : decode cX4_word 52 = .ok (.invokevirtual 148, 3) := by decide +kernel
theorem dX4_word_55 : decode cX4_word 55 = .ok (.ireturn, 1) := by decide +kernel
theorem dX4_why_0 : decode cX4_why 0 = .ok (.aload_n 0, 1) := by decide +kernel
theorem dX4_why_1 : decode cX4_why 1 = .ok (.getfield 12, 3) := by decide +kernel
theorem dX4_why_4 : decode cX4_why 4 = .ok (.iload_n 1, 1) := by decide +kernel
theorem dX4_why_5 : decode cX4_why 5 = .ok (.invokevirtual 86, 3) := by decide +kernel
theorem dX4_why_8 : decode cX4_why 8 = .ok (.ifCond .ne 5, 3) := by decide +kernel
theorem dX4_why_11 : decode cX4_why 11 = .ok (.iconst (-1), 1) := by decide +kernel
theorem dX4_why_12 : decode cX4_why 12 = .ok (.ireturn, 1) := by decide +kernel
theorem dX4_why_13 : decode cX4_why 13 = .ok (.aload_n 0, 1) := by decide +kernel
theorem dX4_why_14 : decode cX4_why 14 = .ok (.getfield 12, 3) := by decide +kernel
theorem dX4_why_17 : decode cX4_why 17 = .ok (.getfield 90, 3) := by decide +kernel
theorem dX4_why_20 : decode cX4_why 20 = .ok (.iload_n 1, 1) := by decide +kernel
theorem dX4_why_21 : decode cX4_why 21 = .ok (.aaload, 1) := by decide +kernel
theorem dX4_why_22 : decode cX4_why 22 = .ok (.astore_n 2, 1) := by decide +kernel
theorem dX4_why_23 : decode cX4_why 23 = .ok (.aload_n 2, 1) := by decide +kernel
theorem dX4_why_24 : decode cX4_why 24 = .ok (.getfield 94, 3) := by decide +kernel
theorem dX4_why_27 : decode cX4_why 27 = .ok (.ifCond .eq 5, 3) := by decide +kernel
theorem dX4_why_30 : decode cX4_why 30 = .ok (.iconst 1, 1) := by decide +kernel
theorem dX4_why_31 : decode cX4_why 31 = .ok (.ireturn, 1) := by decide +kernel
theorem dX4_why_32 : decode cX4_why 32 = .ok (.aload_n 0, 1) := by decide +kernel
theorem dX4_why_33 : decode cX4_why 33 = .ok (.getfield 12, 3) := by decide +kernel
theorem dX4_why_36 : decode cX4_why 36 = .ok (.invokevirtual 151, 3) := by decide +kernel
theorem dX4_why_39 : decode cX4_why 39 = .ok (.aload_n 2, 1) := by decide +kernel
theorem dX4_why_40 : decode cX4_why 40 = .ok (.getfield 154, 3) := by decide +kernel
theorem dX4_why_43 : decode cX4_why 43 = .ok (.ireturn, 1) := by decide +kernel
theorem dX4_censor_0 : decode cX4_censor 0 = .ok (.iload_n 1, 1) := by decide +kernel
theorem dX4_censor_1 : decode cX4_censor 1 = .ok (.ifCond .lt 8, 3) := by decide +kernel
theorem dX4_censor_4 : decode cX4_censor 4 = .ok (.iload_n 1, 1) := by decide +kernel
theorem dX4_censor_5 : decode cX4_censor 5 = .ok (.iconst 4, 1) := by decide +kernel
theorem dX4_censor_6 : decode cX4_censor 6 = .ok (.if_icmp .lt 5, 3) := by decide +kernel
theorem dX4_censor_9 : decode cX4_censor 9 = .ok (.iconst (-1), 1) := by decide +kernel
theorem dX4_censor_10 : decode cX4_censor 10 = .ok (.ireturn, 1) := by decide +kernel
theorem dX4_censor_11 : decode cX4_censor 11 = .ok (.aload_n 0, 1) := by decide +kernel
theorem dX4_censor_12 : decode cX4_censor 12 = .ok (.getfield 12, 3) := by decide +kernel
theorem dX4_censor_15 : decode cX4_censor 15 = .ok (.getfield 47, 3) := by decide +kernel
theorem dX4_censor_18 : decode cX4_censor 18 = .ok (.iload_n 1, 1) := by decide +kernel
theorem dX4_censor_19 : decode cX4_censor 19 = .ok (.aaload, 1) := by decide +kernel
theorem dX4_censor_20 : decode cX4_censor 20 = .ok (.astore_n 3, 1) := by decide +kernel
theorem dX4_censor_21 : decode cX4_censor 21 = .ok (.iload_n 2, 1) := by decide +kernel
theorem dX4_censor_22 : decode cX4_censor 22 = .ok (.tableswitch 63 0 4 #[34, 39, 48, 53, 58], 34) := by decide +kernel
theorem dX4_censor_56 : decode cX4_censor 56 = .ok (.aload_n 3, 1) := by decide +kernel
theorem dX4_censor_57 : decode cX4_censor 57 = .ok (.getfield 51, 3) := by decide +kernel
theorem dX4_censor_60 : decode cX4_censor 60 = .ok (.ireturn, 1) := by decide +kernel
theorem dX4_censor_61 : decode cX4_censor 61 = .ok (.aload_n 0, 1) := by decide +kernel
theorem dX4_censor_62 : decode cX4_censor 62 = .ok (.getfield 12, 3) := by decide +kernel
theorem dX4_censor_65 : decode cX4_censor 65 = .ok (.iload_n 1, 1) := by decide +kernel
theorem dX4_censor_66 : decode cX4_censor 66 = .ok (.invokevirtual 157, 3) := by decide +kernel
theorem dX4_censor_69 : decode cX4_censor 69 = .ok (.ireturn, 1) := by decide +kernel
theorem dX4_censor_70 : decode cX4_censor 70 = .ok (.aload_n 3, 1) := by decide +kernel
theorem dX4_censor_71 : decode cX4_censor 71 = .ok (.getfield 160, 3) := by decide +kernel
theorem dX4_censor_74 : decode cX4_censor 74 = .ok (.ireturn, 1) := by decide +kernel
theorem dX4_censor_75 : decode cX4_censor 75 = .ok (.aload_n 3, 1) := by decide +kernel
theorem dX4_censor_76 : decode cX4_censor 76 = .ok (.getfield 163, 3) := by decide +kernel
theorem dX4_censor_79 : decode cX4_censor 79 = .ok (.ireturn, 1) := by decide +kernel
theorem dX4_censor_80 : decode cX4_censor 80 = .ok (.aload_n 3, 1) := by decide +kernel
theorem dX4_censor_81 : decode cX4_censor 81 = .ok (.getfield 166, 3) := by decide +kernel
theorem dX4_censor_84 : decode cX4_censor 84 = .ok (.ireturn, 1) := by decide +kernel
theorem dX4_censor_85 : decode cX4_censor 85 = .ok (.bipush (-2), 2) := by decide +kernel
theorem dX4_censor_87 : decode cX4_censor 87 = .ok (.ireturn, 1) := by decide +kernel
theorem dX4_onShift_0 : decode cX4_onShift 0 = .ok (.iload_n 2, 1) := by decide +kernel
theorem dX4_onShift_1 : decode cX4_onShift 1 = .ok (.ifCond .lt 8, 3) := by decide +kernel
theorem dX4_onShift_4 : decode cX4_onShift 4 = .ok (.iload_n 2, 1) := by decide +kernel
theorem dX4_onShift_5 : decode cX4_onShift 5 = .ok (.iconst 2, 1) := by decide +kernel
theorem dX4_onShift_6 : decode cX4_onShift 6 = .ok (.if_icmp .lt 5, 3) := by decide +kernel
theorem dX4_onShift_9 : decode cX4_onShift 9 = .ok (.iconst (-1), 1) := by decide +kernel
theorem dX4_onShift_10 : decode cX4_onShift 10 = .ok (.ireturn, 1) := by decide +kernel
theorem dX4_onShift_11 : decode cX4_onShift 11 = .ok (.iload_n 1, 1) := by decide +kernel
theorem dX4_onShift_12 : decode cX4_onShift 12 = .ok (.ifCond .lt 10, 3) := by decide +kernel
theorem dX4_onShift_15 : decode cX4_onShift 15 = .ok (.iload_n 1, 1) := by decide +kernel
theorem dX4_onShift_16 : decode cX4_onShift 16 = .ok (.sipush 9999, 3) := by decide +kernel
theorem dX4_onShift_19 : decode cX4_onShift 19 = .ok (.if_icmp .le 6, 3) := by decide +kernel
theorem dX4_onShift_22 : decode cX4_onShift 22 = .ok (.bipush (-2), 2) := by decide +kernel
theorem dX4_onShift_24 : decode cX4_onShift 24 = .ok (.ireturn, 1) := by decide +kernel
theorem dX4_onShift_25 : decode cX4_onShift 25 = .ok (.aload_n 0, 1) := by decide +kernel
theorem dX4_onShift_26 : decode cX4_onShift 26 = .ok (.getfield 12, 3) := by decide +kernel
theorem dX4_onShift_29 : decode cX4_onShift 29 = .ok (.iload_n 1, 1) := by decide +kernel
theorem dX4_onShift_30 : decode cX4_onShift 30 = .ok (.iload_n 2, 1) := by decide +kernel
theorem dX4_onShift_31 : decode cX4_onShift 31 = .ok (.invokevirtual 169, 3) := by decide +kernel
theorem dX4_onShift_34 : decode cX4_onShift 34 = .ok (.ireturn, 1) := by decide +kernel
theorem dX4_count_0 : decode cX4_count 0 = .ok (.iload_n 1, 1) := by decide +kernel
theorem dX4_count_1 : decode cX4_count 1 = .ok (.tableswitch 220 0 15 #[79, 89, 99, 109, 117, 125, 134, 143, 152, 165, 178, 186, 194, 202, 210, 215], 79) := by decide +kernel
theorem dX4_count_80 : decode cX4_count 80 = .ok (.aload_n 0, 1) := by decide +kernel
theorem dX4_count_81 : decode cX4_count 81 = .ok (.getfield 12, 3) := by decide +kernel
theorem dX4_count_84 : decode cX4_count 84 = .ok (.getfield 44, 3) := by decide +kernel
theorem dX4_count_87 : decode cX4_count 87 = .ok (.iconst 0, 1) := by decide +kernel
theorem dX4_count_88 : decode cX4_count 88 = .ok (.iaload, 1) := by decide +kernel
theorem dX4_count_89 : decode cX4_count 89 = .ok (.ireturn, 1) := by decide +kernel
theorem dX4_count_90 : decode cX4_count 90 = .ok (.aload_n 0, 1) := by decide +kernel
theorem dX4_count_91 : decode cX4_count 91 = .ok (.getfield 12, 3) := by decide +kernel
theorem dX4_count_94 : decode cX4_count 94 = .ok (.getfield 44, 3) := by decide +kernel
theorem dX4_count_97 : decode cX4_count 97 = .ok (.iconst 1, 1) := by decide +kernel
theorem dX4_count_98 : decode cX4_count 98 = .ok (.iaload, 1) := by decide +kernel
theorem dX4_count_99 : decode cX4_count 99 = .ok (.ireturn, 1) := by decide +kernel
theorem dX4_count_100 : decode cX4_count 100 = .ok (.aload_n 0, 1) := by decide +kernel
theorem dX4_count_101 : decode cX4_count 101 = .ok (.getfield 12, 3) := by decide +kernel
theorem dX4_count_104 : decode cX4_count 104 = .ok (.getfield 44, 3) := by decide +kernel
theorem dX4_count_107 : decode cX4_count 107 = .ok (.iconst 2, 1) := by decide +kernel
theorem dX4_count_108 : decode cX4_count 108 = .ok (.iaload, 1) := by decide +kernel
theorem dX4_count_109 : decode cX4_count 109 = .ok (.ireturn, 1) := by decide +kernel
theorem dX4_count_110 : decode cX4_count 110 = .ok (.aload_n 0, 1) := by decide +kernel
theorem dX4_count_111 : decode cX4_count 111 = .ok (.getfield 12, 3) := by decide +kernel
theorem dX4_count_114 : decode cX4_count 114 = .ok (.getfield 103, 3) := by decide +kernel
theorem dX4_count_117 : decode cX4_count 117 = .ok (.ireturn, 1) := by decide +kernel
theorem dX4_count_118 : decode cX4_count 118 = .ok (.aload_n 0, 1) := by decide +kernel
theorem dX4_count_119 : decode cX4_count 119 = .ok (.getfield 12, 3) := by decide +kernel
theorem dX4_count_122 : decode cX4_count 122 = .ok (.getfield 74, 3) := by decide +kernel
theorem dX4_count_125 : decode cX4_count 125 = .ok (.ireturn, 1) := by decide +kernel
theorem dX4_count_126 : decode cX4_count 126 = .ok (.aload_n 0, 1) := by decide +kernel
theorem dX4_count_127 : decode cX4_count 127 = .ok (.getfield 12, 3) := by decide +kernel
theorem dX4_count_130 : decode cX4_count 130 = .ok (.iconst 0, 1) := by decide +kernel
theorem dX4_count_131 : decode cX4_count 131 = .ok (.invokevirtual 173, 3) := by decide +kernel
theorem dX4_count_134 : decode cX4_count 134 = .ok (.ireturn, 1) := by decide +kernel
theorem dX4_count_135 : decode cX4_count 135 = .ok (.aload_n 0, 1) := by decide +kernel
theorem dX4_count_136 : decode cX4_count 136 = .ok (.getfield 12, 3) := by decide +kernel
theorem dX4_count_139 : decode cX4_count 139 = .ok (.iconst 1, 1) := by decide +kernel
theorem dX4_count_140 : decode cX4_count 140 = .ok (.invokevirtual 173, 3) := by decide +kernel
theorem dX4_count_143 : decode cX4_count 143 = .ok (.ireturn, 1) := by decide +kernel
theorem dX4_count_144 : decode cX4_count 144 = .ok (.aload_n 0, 1) := by decide +kernel
theorem dX4_count_145 : decode cX4_count 145 = .ok (.getfield 12, 3) := by decide +kernel
theorem dX4_count_148 : decode cX4_count 148 = .ok (.iconst 2, 1) := by decide +kernel
theorem dX4_count_149 : decode cX4_count 149 = .ok (.invokevirtual 173, 3) := by decide +kernel
theorem dX4_count_152 : decode cX4_count 152 = .ok (.ireturn, 1) := by decide +kernel
theorem dX4_count_153 : decode cX4_count 153 = .ok (.aload_n 0, 1) := by decide +kernel
theorem dX4_count_154 : decode cX4_count 154 = .ok (.getfield 12, 3) := by decide +kernel
theorem dX4_count_157 : decode cX4_count 157 = .ok (.getfield 118, 3) := by decide +kernel
theorem dX4_count_160 : decode cX4_count 160 = .ok (.iconst 0, 1) := by decide +kernel
theorem dX4_count_161 : decode cX4_count 161 = .ok (.aaload, 1) := by decide +kernel
theorem dX4_count_162 : decode cX4_count 162 = .ok (.getfield 176, 3) := by decide +kernel
theorem dX4_count_165 : decode cX4_count 165 = .ok (.ireturn, 1) := by decide +kernel
theorem dX4_count_166 : decode cX4_count 166 = .ok (.aload_n 0, 1) := by decide +kernel
theorem dX4_count_167 : decode cX4_count 167 = .ok (.getfield 12, 3) := by decide +kernel
theorem dX4_count_170 : decode cX4_count 170 = .ok (.getfield 118, 3) := by decide +kernel
theorem dX4_count_173 : decode cX4_count 173 = .ok (.iconst 1, 1) := by decide +kernel
theorem dX4_count_174 : decode cX4_count 174 = .ok (.aaload, 1) := by decide +kernel
theorem dX4_count_175 : decode cX4_count 175 = .ok (.getfield 176, 3) := by decide +kernel
theorem dX4_count_178 : decode cX4_count 178 = .ok (.ireturn, 1) := by decide +kernel
theorem dX4_count_179 : decode cX4_count 179 = .ok (.aload_n 0, 1) := by decide +kernel
theorem dX4_count_180 : decode cX4_count 180 = .ok (.getfield 12, 3) := by decide +kernel
theorem dX4_count_183 : decode cX4_count 183 = .ok (.invokevirtual 179, 3) := by decide +kernel
theorem dX4_count_186 : decode cX4_count 186 = .ok (.ireturn, 1) := by decide +kernel
theorem dX4_count_187 : decode cX4_count 187 = .ok (.aload_n 0, 1) := by decide +kernel
theorem dX4_count_188 : decode cX4_count 188 = .ok (.getfield 12, 3) := by decide +kernel
theorem dX4_count_191 : decode cX4_count 191 = .ok (.invokevirtual 182, 3) := by decide +kernel
theorem dX4_count_194 : decode cX4_count 194 = .ok (.ireturn, 1) := by decide +kernel
theorem dX4_count_195 : decode cX4_count 195 = .ok (.aload_n 0, 1) := by decide +kernel
theorem dX4_count_196 : decode cX4_count 196 = .ok (.getfield 12, 3) := by decide +kernel
theorem dX4_count_199 : decode cX4_count 199 = .ok (.invokevirtual 185, 3) := by decide +kernel
theorem dX4_count_202 : decode cX4_count 202 = .ok (.ireturn, 1) := by decide +kernel
theorem dX4_count_203 : decode cX4_count 203 = .ok (.aload_n 0, 1) := by decide +kernel
theorem dX4_count_204 : decode cX4_count 204 = .ok (.getfield 12, 3) := by decide +kernel
theorem dX4_count_207 : decode cX4_count 207 = .ok (.invokevirtual 188, 3) := by decide +kernel
theorem dX4_count_210 : decode cX4_count 210 = .ok (.ireturn, 1) := by decide +kernel
theorem dX4_count_211 : decode cX4_count 211 = .ok (.aload_n 0, 1) := by decide +kernel
theorem dX4_count_212 : decode cX4_count 212 = .ok (.getfield 83, 3) := by decide +kernel
theorem dX4_count_215 : decode cX4_count 215 = .ok (.ireturn, 1) := by decide +kernel
theorem dX4_count_216 : decode cX4_count 216 = .ok (.aload_n 0, 1) := by decide +kernel
theorem dX4_count_217 : decode cX4_count 217 = .ok (.getfield 191, 3) := by decide +kernel
theorem dX4_count_220 : decode cX4_count 220 = .ok (.ireturn, 1) := by decide +kernel
theorem dX4_count_221 : decode cX4_count 221 = .ok (.bipush (-2), 2) := by decide +kernel
theorem dX4_count_223 : decode cX4_count 223 = .ok (.ireturn, 1) := by decide +kernel
theorem dX4_untilCome_0 : decode cX4_untilCome 0 = .ok (.aload_n 0, 1) := by decide +kernel
theorem dX4_untilCome_1 : decode cX4_untilCome 1 = .ok (.getfield 12, 3) := by decide +kernel
theorem dX4_untilCome_4 : decode cX4_untilCome 4 = .ok (.iload_n 1, 1) := by decide +kernel
theorem dX4_untilCome_5 : decode cX4_untilCome 5 = .ok (.invokevirtual 86, 3) := by decide +kernel
theorem dX4_untilCome_8 : decode cX4_untilCome 8 = .ok (.ifCond .ne 5, 3) := by decide +kernel
theorem dX4_untilCome_11 : decode cX4_untilCome 11 = .ok (.iconst (-1), 1) := by decide +kernel
theorem dX4_untilCome_12 : decode cX4_untilCome 12 = .ok (.ireturn, 1) := by decide +kernel
theorem dX4_untilCome_13 : decode cX4_untilCome 13 = .ok (.aload_n 0, 1) := by decide +kernel
theorem dX4_untilCome_14 : decode cX4_untilCome 14 = .ok (.getfield 16, 3) := by decide +kernel
theorem dX4_untilCome_17 : decode cX4_untilCome 17 = .ok (.aload_n 0, 1) := by decide +kernel
theorem dX4_untilCome_18 : decode cX4_untilCome 18 = .ok (.getfield 12, 3) := by decide +kernel
theorem dX4_untilCome_21 : decode cX4_untilCome 21 = .ok (.invokevirtual 194, 3) := by decide +kernel
theorem dX4_untilCome_24 : decode cX4_untilCome 24 = .ok (.aload_n 0, 1) := by decide +kernel
theorem dX4_untilCome_25 : decode cX4_untilCome 25 = .ok (.getfield 16, 3) := by decide +kernel
theorem dX4_untilCome_28 : decode cX4_untilCome 28 = .ok (.getfield 90, 3) := by decide +kernel
theorem dX4_untilCome_31 : decode cX4_untilCome 31 = .ok (.iload_n 1, 1) := by decide +kernel
theorem dX4_untilCome_32 : decode cX4_untilCome 32 = .ok (.aaload, 1) := by decide +kernel
theorem dX4_untilCome_33 : decode cX4_untilCome 33 = .ok (.astore_n 2, 1) := by decide +kernel
theorem dX4_untilCome_34 : decode cX4_untilCome 34 = .ok (.iconst 0, 1) := by decide +kernel
theorem dX4_untilCome_35 : decode cX4_untilCome 35 = .ok (.istore_n 3, 1) := by decide +kernel
theorem dX4_untilCome_36 : decode cX4_untilCome 36 = .ok (.iload_n 3, 1) := by decide +kernel
theorem dX4_untilCome_37 : decode cX4_untilCome 37 = .ok (.bipush 100, 2) := by decide +kernel
theorem dX4_untilCome_39 : decode cX4_untilCome 39 = .ok (.if_icmp .ge 24, 3) := by decide +kernel
theorem dX4_untilCome_42 : decode cX4_untilCome 42 = .ok (.aload_n 2, 1) := by decide +kernel
theorem dX4_untilCome_43 : decode cX4_untilCome 43 = .ok (.getfield 94, 3) := by decide +kernel
theorem dX4_untilCome_46 : decode cX4_untilCome 46 = .ok (.ifCond .ne 17, 3) := by decide +kernel
theorem dX4_untilCome_49 : decode cX4_untilCome 49 = .ok (.aload_n 0, 1) := by decide +kernel
theorem dX4_untilCome_50 : decode cX4_untilCome 50 = .ok (.getfield 16, 3) := by decide +kernel
theorem dX4_untilCome_53 : decode cX4_untilCome 53 = .ok (.invokevirtual 198, 3) := by decide +kernel
theorem dX4_untilCome_56 : decode cX4_untilCome 56 = .ok (.pop, 1) := by decide +kernel
theorem dX4_untilCome_57 : decode cX4_untilCome 57 = .ok (.iinc 3 1, 3) := by decide +kernel
theorem dX4_untilCome_60 : decode cX4_untilCome 60 = .ok (.goto (-24), 3) := by decide +kernel
theorem dX4_untilCome_63 : decode cX4_untilCome 63 = .ok (.aload_n 2, 1) := by decide +kernel
theorem dX4_untilCome_64 : decode cX4_untilCome 64 = .ok (.getfield 94, 3) := by decide +kernel
theorem dX4_untilCome_67 : decode cX4_untilCome 67 = .ok (.iconst 1, 1) := by decide +kernel
theorem dX4_untilCome_68 : decode cX4_untilCome 68 = .ok (.if_icmp .ne 7, 3) := by decide +kernel
theorem dX4_untilCome_71 : decode cX4_untilCome 71 = .ok (.iload_n 3, 1) := by decide +kernel
theorem dX4_untilCome_72 : decode cX4_untilCome 72 = .ok (.goto 5, 3) := by decide +kernel
theorem dX4_untilCome_75 : decode cX4_untilCome 75 = .ok (.bipush (-6), 2) := by decide +kernel
theorem dX4_untilCome_77 : decode cX4_untilCome 77 = .ok (.ireturn, 1) := by decide +kernel
theorem dX4_ifPassed_0 : decode cX4_ifPassed 0 = .ok (.iload_n 1, 1) := by decide +kernel
theorem dX4_ifPassed_1 : decode cX4_ifPassed 1 = .ok (.iconst 1, 1) := by decide +kernel
theorem dX4_ifPassed_2 : decode cX4_ifPassed 2 = .ok (.if_icmp .lt 18, 3) := by decide +kernel
theorem dX4_ifPassed_5 : decode cX4_ifPassed 5 = .ok (.iload_n 1, 1) := by decide +kernel
theorem dX4_ifPassed_6 : decode cX4_ifPassed 6 = .ok (.bipush 100, 2) := by decide +kernel
theorem dX4_ifPassed_8 : decode cX4_ifPassed 8 = .ok (.if_icmp .gt 12, 3) := by decide +kernel
theorem dX4_ifPassed_11 : decode cX4_ifPassed 11 = .ok (.iload_n 2, 1) := by decide +kernel
theorem dX4_ifPassed_12 : decode cX4_ifPassed 12 = .ok (.ifCond .lt 8, 3) := by decide +kernel
theorem dX4_ifPassed_15 : decode cX4_ifPassed 15 = .ok (.iload_n 2, 1) := by decide +kernel
theorem dX4_ifPassed_16 : decode cX4_ifPassed 16 = .ok (.iconst 2, 1) := by decide +kernel
theorem dX4_ifPassed_17 : decode cX4_ifPassed 17 = .ok (.if_icmp .le 6, 3) := by decide +kernel
theorem dX4_ifPassed_20 : decode cX4_ifPassed 20 = .ok (.bipush (-2), 2) := by decide +kernel
theorem dX4_ifPassed_22 : decode cX4_ifPassed 22 = .ok (.ireturn, 1) := by decide +kernel
theorem dX4_ifPassed_23 : decode cX4_ifPassed 23 = .ok (.aload_n 0, 1) := by decide +kernel
theorem dX4_ifPassed_24 : decode cX4_ifPassed 24 = .ok (.getfield 16, 3) := by decide +kernel
theorem dX4_ifPassed_27 : decode cX4_ifPassed 27 = .ok (.aload_n 0, 1) := by decide +kernel
theorem dX4_ifPassed_28 : decode cX4_ifPassed 28 = .ok (.getfield 12, 3) := by decide +kernel
theorem dX4_ifPassed_31 : decode cX4_ifPassed 31 = .ok (.invokevirtual 194, 3) := by decide +kernel
theorem dX4_ifPassed_34 : decode cX4_ifPassed 34 = .ok (.aload_n 0, 1) := by decide +kernel
theorem dX4_ifPassed_35 : decode cX4_ifPassed 35 = .ok (.getfield 16, 3) := by decide +kernel
theorem dX4_ifPassed_38 : decode cX4_ifPassed 38 = .ok (.iload_n 1, 1) := by decide +kernel
theorem dX4_ifPassed_39 : decode cX4_ifPassed 39 = .ok (.invokevirtual 109, 3) := by decide +kernel
theorem dX4_ifPassed_42 : decode cX4_ifPassed 42 = .ok (.istore_n 3, 1) := by decide +kernel
theorem dX4_ifPassed_43 : decode cX4_ifPassed 43 = .ok (.iload_n 2, 1) := by decide +kernel
theorem dX4_ifPassed_44 : decode cX4_ifPassed 44 = .ok (.lookupswitch 48 #[(0, 28), (1, 30)], 28) := by decide +kernel
theorem dX4_ifPassed_72 : decode cX4_ifPassed 72 = .ok (.iload_n 3, 1) := by decide +kernel
theorem dX4_ifPassed_73 : decode cX4_ifPassed 73 = .ok (.ireturn, 1) := by decide +kernel
theorem dX4_ifPassed_74 : decode cX4_ifPassed 74 = .ok (.aload_n 0, 1) := by decide +kernel
theorem dX4_ifPassed_75 : decode cX4_ifPassed 75 = .ok (.getfield 16, 3) := by decide +kernel
theorem dX4_ifPassed_78 : decode cX4_ifPassed 78 = .ok (.iconst 2, 1) := by decide +kernel
theorem dX4_ifPassed_79 : decode cX4_ifPassed 79 = .ok (.invokevirtual 173, 3) := by decide +kernel
theorem dX4_ifPassed_82 : decode cX4_ifPassed 82 = .ok (.aload_n 0, 1) := by decide +kernel
theorem dX4_ifPassed_83 : decode cX4_ifPassed 83 = .ok (.getfield 12, 3) := by decide +kernel
theorem dX4_ifPassed_86 : decode cX4_ifPassed 86 = .ok (.iconst 2, 1) := by decide +kernel
theorem dX4_ifPassed_87 : decode cX4_ifPassed 87 = .ok (.invokevirtual 173, 3) := by decide +kernel
theorem dX4_ifPassed_90 : decode cX4_ifPassed 90 = .ok (.isub, 1) := by decide +kernel
theorem dX4_ifPassed_91 : decode cX4_ifPassed 91 = .ok (.ireturn, 1) := by decide +kernel
theorem dX4_ifPassed_92 : decode cX4_ifPassed 92 = .ok (.aload_n 0, 1) := by decide +kernel
theorem dX4_ifPassed_93 : decode cX4_ifPassed 93 = .ok (.getfield 16, 3) := by decide +kernel
theorem dX4_ifPassed_96 : decode cX4_ifPassed 96 = .ok (.invokevirtual 185, 3) := by decide +kernel
theorem dX4_ifPassed_99 : decode cX4_ifPassed 99 = .ok (.aload_n 0, 1) := by decide +kernel
theorem dX4_ifPassed_100 : decode cX4_ifPassed 100 = .ok (.getfield 12, 3) := by decide +kernel
theorem dX4_ifPassed_103 : decode cX4_ifPassed 103 = .ok (.invokevirtual 185, 3) := by decide +kernel
theorem dX4_ifPassed_106 : decode cX4_ifPassed 106 = .ok (.isub, 1) := by decide +kernel
theorem dX4_ifPassed_107 : decode cX4_ifPassed 107 = .ok (.ireturn, 1) := by decide +kernel
theorem dX4_bestTrade_0 : decode cX4_bestTrade 0 = .ok (.aload_n 0, 1) := by decide +kernel
theorem dX4_bestTrade_1 : decode cX4_bestTrade 1 = .ok (.getfield 16, 3) := by decide +kernel
theorem dX4_bestTrade_4 : decode cX4_bestTrade 4 = .ok (.aload_n 0, 1) := by decide +kernel
theorem dX4_bestTrade_5 : decode cX4_bestTrade 5 = .ok (.getfield 12, 3) := by decide +kernel
theorem dX4_bestTrade_8 : decode cX4_bestTrade 8 = .ok (.invokevirtual 194, 3) := by decide +kernel
theorem dX4_bestTrade_11 : decode cX4_bestTrade 11 = .ok (.aload_n 0, 1) := by decide +kernel
theorem dX4_bestTrade_12 : decode cX4_bestTrade 12 = .ok (.getfield 16, 3) := by decide +kernel
theorem dX4_bestTrade_15 : decode cX4_bestTrade 15 = .ok (.iconst 4, 1) := by decide +kernel
theorem dX4_bestTrade_16 : decode cX4_bestTrade 16 = .ok (.invokevirtual 109, 3) := by decide +kernel
theorem dX4_bestTrade_19 : decode cX4_bestTrade 19 = .ok (.istore_n 1, 1) := by decide +kernel
theorem dX4_bestTrade_20 : decode cX4_bestTrade 20 = .ok (.bipush (-6), 2) := by decide +kernel
theorem dX4_bestTrade_22 : decode cX4_bestTrade 22 = .ok (.istore_n 2, 1) := by decide +kernel
theorem dX4_bestTrade_23 : decode cX4_bestTrade 23 = .ok (.iconst 0, 1) := by decide +kernel
theorem dX4_bestTrade_24 : decode cX4_bestTrade 24 = .ok (.istore_n 3, 1) := by decide +kernel
theorem dX4_bestTrade_25 : decode cX4_bestTrade 25 = .ok (.iload_n 3, 1) := by decide +kernel
theorem dX4_bestTrade_26 : decode cX4_bestTrade 26 = .ok (.bipush 8, 2) := by decide +kernel
theorem dX4_bestTrade_28 : decode cX4_bestTrade 28 = .ok (.if_icmp .ge 75, 3) := by decide +kernel
theorem dX4_bestTrade_31 : decode cX4_bestTrade 31 = .ok (.iload_n 3, 1) := by decide +kernel
theorem dX4_bestTrade_32 : decode cX4_bestTrade 32 = .ok (.iconst 1, 1) := by decide +kernel
theorem dX4_bestTrade_33 : decode cX4_bestTrade 33 = .ok (.iadd, 1) := by decide +kernel
theorem dX4_bestTrade_34 : decode cX4_bestTrade 34 = .ok (.istore 4, 2) := by decide +kernel
theorem dX4_bestTrade_36 : decode cX4_bestTrade 36 = .ok (.iload 4, 2) := by decide +kernel
theorem dX4_bestTrade_38 : decode cX4_bestTrade 38 = .ok (.bipush 8, 2) := by decide +kernel
theorem dX4_bestTrade_40 : decode cX4_bestTrade 40 = .ok (.if_icmp .ge 57, 3) := by decide +kernel
theorem dX4_bestTrade_43 : decode cX4_bestTrade 43 = .ok (.aload_n 0, 1) := by decide +kernel
theorem dX4_bestTrade_44 : decode cX4_bestTrade 44 = .ok (.getfield 16, 3) := by decide +kernel
theorem dX4_bestTrade_47 : decode cX4_bestTrade 47 = .ok (.aload_n 0, 1) := by decide +kernel
theorem dX4_bestTrade_48 : decode cX4_bestTrade 48 = .ok (.getfield 12, 3) := by decide +kernel
theorem dX4_bestTrade_51 : decode cX4_bestTrade 51 = .ok (.invokevirtual 194, 3) := by decide +kernel
theorem dX4_bestTrade_54 : decode cX4_bestTrade 54 = .ok (.aload_n 0, 1) := by decide +kernel
theorem dX4_bestTrade_55 : decode cX4_bestTrade 55 = .ok (.getfield 16, 3) := by decide +kernel
theorem dX4_bestTrade_58 : decode cX4_bestTrade 58 = .ok (.iload_n 3, 1) := by decide +kernel
theorem dX4_bestTrade_59 : decode cX4_bestTrade 59 = .ok (.iload 4, 2) := by decide +kernel
theorem dX4_bestTrade_61 : decode cX4_bestTrade 61 = .ok (.invokevirtual 66, 3) := by decide +kernel
theorem dX4_bestTrade_64 : decode cX4_bestTrade 64 = .ok (.aload_n 0, 1) := by decide +kernel
theorem dX4_bestTrade_65 : decode cX4_bestTrade 65 = .ok (.getfield 16, 3) := by decide +kernel
theorem dX4_bestTrade_68 : decode cX4_bestTrade 68 = .ok (.iconst 4, 1) := by decide +kernel
theorem dX4_bestTrade_69 : decode cX4_bestTrade 69 = .ok (.invokevirtual 109, 3) := by decide +kernel
theorem dX4_bestTrade_72 : decode cX4_bestTrade 72 = .ok (.istore 5, 2) := by decide +kernel
theorem dX4_bestTrade_74 : decode cX4_bestTrade 74 = .ok (.iload 5, 2) := by decide +kernel
theorem dX4_bestTrade_76 : decode cX4_bestTrade 76 = .ok (.iload_n 1, 1) := by decide +kernel
theorem dX4_bestTrade_77 : decode cX4_bestTrade 77 = .ok (.if_icmp .le 14, 3) := by decide +kernel
theorem dX4_bestTrade_80 : decode cX4_bestTrade 80 = .ok (.iload 5, 2) := by decide +kernel
theorem dX4_bestTrade_82 : decode cX4_bestTrade 82 = .ok (.istore_n 1, 1) := by decide +kernel
theorem dX4_bestTrade_83 : decode cX4_bestTrade 83 = .ok (.bipush 8, 2) := by decide +kernel
theorem dX4_bestTrade_85 : decode cX4_bestTrade 85 = .ok (.iload_n 3, 1) := by decide +kernel
theorem dX4_bestTrade_86 : decode cX4_bestTrade 86 = .ok (.imul, 1) := by decide +kernel
theorem dX4_bestTrade_87 : decode cX4_bestTrade 87 = .ok (.iload 4, 2) := by decide +kernel
theorem dX4_bestTrade_89 : decode cX4_bestTrade 89 = .ok (.iadd, 1) := by decide +kernel
theorem dX4_bestTrade_90 : decode cX4_bestTrade 90 = .ok (.istore_n 2, 1) := by decide +kernel
theorem dX4_bestTrade_91 : decode cX4_bestTrade 91 = .ok (.iinc 4 1, 3) := by decide +kernel
theorem dX4_bestTrade_94 : decode cX4_bestTrade 94 = .ok (.goto (-58), 3) := by decide +kernel
theorem dX4_bestTrade_97 : decode cX4_bestTrade 97 = .ok (.iinc 3 1, 3) := by decide +kernel
theorem dX4_bestTrade_100 : decode cX4_bestTrade 100 = .ok (.goto (-75), 3) := by decide +kernel
theorem dX4_bestTrade_103 : decode cX4_bestTrade 103 = .ok (.iload_n 2, 1) := by decide +kernel
theorem dX4_bestTrade_104 : decode cX4_bestTrade 104 = .ok (.ireturn, 1) := by decide +kernel
theorem dX4_leastLimit_0 : decode cX4_leastLimit 0 = .ok (.iconst 0, 1) := by decide +kernel
theorem dX4_leastLimit_1 : decode cX4_leastLimit 1 = .ok (.istore_n 1, 1) := by decide +kernel
theorem dX4_leastLimit_2 : decode cX4_leastLimit 2 = .ok (.iload_n 1, 1) := by decide +kernel
theorem dX4_leastLimit_3 : decode cX4_leastLimit 3 = .ok (.bipush 8, 2) := by decide +kernel
theorem dX4_leastLimit_5 : decode cX4_leastLimit 5 = .ok (.if_icmp .ge 17, 3) := by decide +kernel
theorem dX4_leastLimit_8 : decode cX4_leastLimit 8 = .ok (.aload_n 0, 1) := by decide +kernel
theorem dX4_leastLimit_9 : decode cX4_leastLimit 9 = .ok (.iload_n 1, 1) := by decide +kernel
theorem dX4_leastLimit_10 : decode cX4_leastLimit 10 = .ok (.invokevirtual 201, 3) := by decide +kernel
theorem dX4_leastLimit_13 : decode cX4_leastLimit 13 = .ok (.ifCond .eq 9, 3) := by decide +kernel
theorem dX4_leastLimit_16 : decode cX4_leastLimit 16 = .ok (.iinc 1 1, 3) := by decide +kernel
theorem dX4_leastLimit_19 : decode cX4_leastLimit 19 = .ok (.goto (-17), 3) := by decide +kernel
theorem dX4_leastLimit_22 : decode cX4_leastLimit 22 = .ok (.iload_n 1, 1) := by decide +kernel
theorem dX4_leastLimit_23 : decode cX4_leastLimit 23 = .ok (.ireturn, 1) := by decide +kernel
theorem dX4_turnsBackWith_0 : decode cX4_turnsBackWith 0 = .ok (.aload_n 0, 1) := by decide +kernel
theorem dX4_turnsBackWith_1 : decode cX4_turnsBackWith 1 = .ok (.getfield 16, 3) := by decide +kernel
theorem dX4_turnsBackWith_4 : decode cX4_turnsBackWith 4 = .ok (.aload_n 0, 1) := by decide +kernel
theorem dX4_turnsBackWith_5 : decode cX4_turnsBackWith 5 = .ok (.getfield 12, 3) := by decide +kernel
theorem dX4_turnsBackWith_8 : decode cX4_turnsBackWith 8 = .ok (.invokevirtual 194, 3) := by decide +kernel
theorem dX4_turnsBackWith_11 : decode cX4_turnsBackWith 11 = .ok (.aload_n 0, 1) := by decide +kernel
theorem dX4_turnsBackWith_12 : decode cX4_turnsBackWith 12 = .ok (.getfield 16, 3) := by decide +kernel
theorem dX4_turnsBackWith_15 : decode cX4_turnsBackWith 15 = .ok (.getfield 44, 3) := by decide +kernel
theorem dX4_turnsBackWith_18 : decode cX4_turnsBackWith 18 = .ok (.iconst 1, 1) := by decide +kernel
theorem dX4_turnsBackWith_19 : decode cX4_turnsBackWith 19 = .ok (.iload_n 1, 1) := by decide +kernel
theorem dX4_turnsBackWith_20 : decode cX4_turnsBackWith 20 = .ok (.iastore, 1) := by decide +kernel
theorem dX4_turnsBackWith_21 : decode cX4_turnsBackWith 21 = .ok (.aload_n 0, 1) := by decide +kernel
theorem dX4_turnsBackWith_22 : decode cX4_turnsBackWith 22 = .ok (.getfield 16, 3) := by decide +kernel
theorem dX4_turnsBackWith_25 : decode cX4_turnsBackWith 25 = .ok (.invokevirtual 204, 3) := by decide +kernel
theorem dX4_turnsBackWith_28 : decode cX4_turnsBackWith 28 = .ok (.istore_n 2, 1) := by decide +kernel
theorem dX4_turnsBackWith_29 : decode cX4_turnsBackWith 29 = .ok (.iconst 0, 1) := by decide +kernel
theorem dX4_turnsBackWith_30 : decode cX4_turnsBackWith 30 = .ok (.istore_n 3, 1) := by decide +kernel
theorem dX4_turnsBackWith_31 : decode cX4_turnsBackWith 31 = .ok (.iload_n 3, 1) := by decide +kernel
theorem dX4_turnsBackWith_32 : decode cX4_turnsBackWith 32 = .ok (.bipush 100, 2) := by decide +kernel
theorem dX4_turnsBackWith_34 : decode cX4_turnsBackWith 34 = .ok (.if_icmp .ge 30, 3) := by decide +kernel
theorem dX4_turnsBackWith_37 : decode cX4_turnsBackWith 37 = .ok (.aload_n 0, 1) := by decide +kernel
theorem dX4_turnsBackWith_38 : decode cX4_turnsBackWith 38 = .ok (.getfield 16, 3) := by decide +kernel
theorem dX4_turnsBackWith_41 : decode cX4_turnsBackWith 41 = .ok (.invokevirtual 198, 3) := by decide +kernel
theorem dX4_turnsBackWith_44 : decode cX4_turnsBackWith 44 = .ok (.pop, 1) := by decide +kernel
theorem dX4_turnsBackWith_45 : decode cX4_turnsBackWith 45 = .ok (.aload_n 0, 1) := by decide +kernel
theorem dX4_turnsBackWith_46 : decode cX4_turnsBackWith 46 = .ok (.getfield 16, 3) := by decide +kernel
theorem dX4_turnsBackWith_49 : decode cX4_turnsBackWith 49 = .ok (.invokevirtual 204, 3) := by decide +kernel
theorem dX4_turnsBackWith_52 : decode cX4_turnsBackWith 52 = .ok (.iload_n 2, 1) := by decide +kernel
theorem dX4_turnsBackWith_53 : decode cX4_turnsBackWith 53 = .ok (.if_icmp .le 5, 3) := by decide +kernel
theorem dX4_turnsBackWith_56 : decode cX4_turnsBackWith 56 = .ok (.iconst 1, 1) := by decide +kernel
theorem dX4_turnsBackWith_57 : decode cX4_turnsBackWith 57 = .ok (.ireturn, 1) := by decide +kernel
theorem dX4_turnsBackWith_58 : decode cX4_turnsBackWith 58 = .ok (.iinc 3 1, 3) := by decide +kernel
theorem dX4_turnsBackWith_61 : decode cX4_turnsBackWith 61 = .ok (.goto (-30), 3) := by decide +kernel
theorem dX4_turnsBackWith_64 : decode cX4_turnsBackWith 64 = .ok (.iconst 0, 1) := by decide +kernel
theorem dX4_turnsBackWith_65 : decode cX4_turnsBackWith 65 = .ok (.ireturn, 1) := by decide +kernel
theorem dX4_put_0 : decode cX4_put 0 = .ok (.lload_n 1, 1) := by decide +kernel
theorem dX4_put_1 : decode cX4_put 1 = .ok (.invokestatic 207, 3) := by decide +kernel
theorem dX4_put_4 : decode cX4_put 4 = .ok (.istore_n 3, 1) := by decide +kernel
theorem dX4_put_5 : decode cX4_put 5 = .ok (.iload_n 3, 1) := by decide +kernel
theorem dX4_put_6 : decode cX4_put 6 = .ok (.ifCond .ne 6, 3) := by decide +kernel
theorem dX4_put_9 : decode cX4_put 9 = .ok (.bipush (-2), 2) := by decide +kernel
theorem dX4_put_11 : decode cX4_put 11 = .ok (.ireturn, 1) := by decide +kernel
theorem dX4_put_12 : decode cX4_put 12 = .ok (.aload_n 0, 1) := by decide +kernel
theorem dX4_put_13 : decode cX4_put 13 = .ok (.getfield 83, 3) := by decide +kernel
theorem dX4_put_16 : decode cX4_put 16 = .ok (.iload_n 3, 1) := by decide +kernel
theorem dX4_put_17 : decode cX4_put 17 = .ok (.iadd, 1) := by decide +kernel
theorem dX4_put_18 : decode cX4_put 18 = .ok (.bipush 60, 2) := by decide +kernel
theorem dX4_put_20 : decode cX4_put 20 = .ok (.if_icmp .le 6, 3) := by decide +kernel
theorem dX4_put_23 : decode cX4_put 23 = .ok (.bipush (-4), 2) := by decide +kernel
theorem dX4_put_25 : decode cX4_put 25 = .ok (.ireturn, 1) := by decide +kernel
theorem dX4_put_26 : decode cX4_put 26 = .ok (.iload_n 3, 1) := by decide +kernel
theorem dX4_put_27 : decode cX4_put 27 = .ok (.iconst 1, 1) := by decide +kernel
theorem dX4_put_28 : decode cX4_put 28 = .ok (.isub, 1) := by decide +kernel
theorem dX4_put_29 : decode cX4_put 29 = .ok (.istore 4, 2) := by decide +kernel
theorem dX4_put_31 : decode cX4_put 31 = .ok (.iload 4, 2) := by decide +kernel
theorem dX4_put_33 : decode cX4_put 33 = .ok (.ifCond .lt 41, 3) := by decide +kernel
theorem dX4_put_36 : decode cX4_put 36 = .ok (.aload_n 0, 1) := by decide +kernel
theorem dX4_put_37 : decode cX4_put 37 = .ok (.getfield 30, 3) := by decide +kernel
theorem dX4_put_40 : decode cX4_put 40 = .ok (.aload_n 0, 1) := by decide +kernel
theorem dX4_put_41 : decode cX4_put 41 = .ok (.getfield 83, 3) := by decide +kernel
theorem dX4_put_44 : decode cX4_put 44 = .ok (.lload_n 1, 1) := by decide +kernel
theorem dX4_put_45 : decode cX4_put 45 = .ok (.bipush 8, 2) := by decide +kernel
theorem dX4_put_47 : decode cX4_put 47 = .ok (.iload 4, 2) := by decide +kernel
theorem dX4_put_49 : decode cX4_put 49 = .ok (.imul, 1) := by decide +kernel
theorem dX4_put_50 : decode cX4_put 50 = .ok (.lushr, 1) := by decide +kernel
theorem dX4_put_51 : decode cX4_put 51 = .ok (.ldc2_w 211, 3) := by decide +kernel
theorem dX4_put_54 : decode cX4_put 54 = .ok (.land, 1) := by decide +kernel
theorem dX4_put_55 : decode cX4_put 55 = .ok (.l2i, 1) := by decide +kernel
theorem dX4_put_56 : decode cX4_put 56 = .ok (.i2c, 1) := by decide +kernel
theorem dX4_put_57 : decode cX4_put 57 = .ok (.castore, 1) := by decide +kernel
theorem dX4_put_58 : decode cX4_put 58 = .ok (.aload_n 0, 1) := by decide +kernel
theorem dX4_put_59 : decode cX4_put 59 = .ok (.dup, 1) := by decide +kernel
theorem dX4_put_60 : decode cX4_put 60 = .ok (.getfield 83, 3) := by decide +kernel
theorem dX4_put_63 : decode cX4_put 63 = .ok (.iconst 1, 1) := by decide +kernel
theorem dX4_put_64 : decode cX4_put 64 = .ok (.iadd, 1) := by decide +kernel
theorem dX4_put_65 : decode cX4_put 65 = .ok (.putfield 83, 3) := by decide +kernel
theorem dX4_put_68 : decode cX4_put 68 = .ok (.iinc 4 (-1), 3) := by decide +kernel
theorem dX4_put_71 : decode cX4_put 71 = .ok (.goto (-40), 3) := by decide +kernel
theorem dX4_put_74 : decode cX4_put 74 = .ok (.aload_n 0, 1) := by decide +kernel
theorem dX4_put_75 : decode cX4_put 75 = .ok (.getfield 83, 3) := by decide +kernel
theorem dX4_put_78 : decode cX4_put 78 = .ok (.ireturn, 1) := by decide +kernel
theorem dX4_lengthOf_0 : decode cX4_lengthOf 0 = .ok (.iconst 0, 1) := by decide +kernel
theorem dX4_lengthOf_1 : decode cX4_lengthOf 1 = .ok (.istore_n 2, 1) := by decide +kernel
theorem dX4_lengthOf_2 : decode cX4_lengthOf 2 = .ok (.lload_n 0, 1) := by decide +kernel
theorem dX4_lengthOf_3 : decode cX4_lengthOf 3 = .ok (.lstore_n 3, 1) := by decide +kernel
theorem dX4_lengthOf_4 : decode cX4_lengthOf 4 = .ok (.iload_n 2, 1) := by decide +kernel
theorem dX4_lengthOf_5 : decode cX4_lengthOf 5 = .ok (.bipush 8, 2) := by decide +kernel
theorem dX4_lengthOf_7 : decode cX4_lengthOf 7 = .ok (.if_icmp .ge 44, 3) := by decide +kernel
theorem dX4_lengthOf_10 : decode cX4_lengthOf 10 = .ok (.lload_n 3, 1) := by decide +kernel
theorem dX4_lengthOf_11 : decode cX4_lengthOf 11 = .ok (.lconst 0, 1) := by decide +kernel
theorem dX4_lengthOf_12 : decode cX4_lengthOf 12 = .ok (.lcmp, 1) := by decide +kernel
theorem dX4_lengthOf_13 : decode cX4_lengthOf 13 = .ok (.ifCond .eq 38, 3) := by decide +kernel
theorem dX4_lengthOf_16 : decode cX4_lengthOf 16 = .ok (.lload_n 3, 1) := by decide +kernel
theorem dX4_lengthOf_17 : decode cX4_lengthOf 17 = .ok (.ldc2_w 211, 3) := by decide +kernel
theorem dX4_lengthOf_20 : decode cX4_lengthOf 20 = .ok (.land, 1) := by decide +kernel
theorem dX4_lengthOf_21 : decode cX4_lengthOf 21 = .ok (.l2i, 1) := by decide +kernel
theorem dX4_lengthOf_22 : decode cX4_lengthOf 22 = .ok (.istore 5, 2) := by decide +kernel
theorem dX4_lengthOf_24 : decode cX4_lengthOf 24 = .ok (.iload 5, 2) := by decide +kernel
theorem dX4_lengthOf_26 : decode cX4_lengthOf 26 = .ok (.bipush 33, 2) := by decide +kernel
theorem dX4_lengthOf_28 : decode cX4_lengthOf 28 = .ok (.if_icmp .lt 10, 3) := by decide +kernel
theorem dX4_lengthOf_31 : decode cX4_lengthOf 31 = .ok (.iload 5, 2) := by decide +kernel
theorem dX4_lengthOf_33 : decode cX4_lengthOf 33 = .ok (.bipush 126, 2) := by decide +kernel
theorem dX4_lengthOf_35 : decode cX4_lengthOf 35 = .ok (.if_icmp .le 5, 3) := by decide +kernel
theorem dX4_lengthOf_38 : decode cX4_lengthOf 38 = .ok (.iconst 0, 1) := by decide +kernel
theorem dX4_lengthOf_39 : decode cX4_lengthOf 39 = .ok (.ireturn, 1) := by decide +kernel
theorem dX4_lengthOf_40 : decode cX4_lengthOf 40 = .ok (.lload_n 3, 1) := by decide +kernel
theorem dX4_lengthOf_41 : decode cX4_lengthOf 41 = .ok (.bipush 8, 2) := by decide +kernel
theorem dX4_lengthOf_43 : decode cX4_lengthOf 43 = .ok (.lushr, 1) := by decide +kernel
theorem dX4_lengthOf_44 : decode cX4_lengthOf 44 = .ok (.lstore_n 3, 1) := by decide +kernel
theorem dX4_lengthOf_45 : decode cX4_lengthOf 45 = .ok (.iinc 2 1, 3) := by decide +kernel
theorem dX4_lengthOf_48 : decode cX4_lengthOf 48 = .ok (.goto (-44), 3) := by decide +kernel
theorem dX4_lengthOf_51 : decode cX4_lengthOf 51 = .ok (.iload_n 2, 1) := by decide +kernel
theorem dX4_lengthOf_52 : decode cX4_lengthOf 52 = .ok (.ireturn, 1) := by decide +kernel
theorem dX4_wipe_0 : decode cX4_wipe 0 = .ok (.aload_n 0, 1) := by decide +kernel
theorem dX4_wipe_1 : decode cX4_wipe 1 = .ok (.getfield 83, 3) := by decide +kernel
theorem dX4_wipe_4 : decode cX4_wipe 4 = .ok (.istore_n 1, 1) := by decide +kernel
theorem dX4_wipe_5 : decode cX4_wipe 5 = .ok (.aload_n 0, 1) := by decide +kernel
theorem dX4_wipe_6 : decode cX4_wipe 6 = .ok (.iconst 0, 1) := by decide +kernel
theorem dX4_wipe_7 : decode cX4_wipe 7 = .ok (.putfield 83, 3) := by decide +kernel
theorem dX4_wipe_10 : decode cX4_wipe 10 = .ok (.iload_n 1, 1) := by decide +kernel
theorem dX4_wipe_11 : decode cX4_wipe 11 = .ok (.ireturn, 1) := by decide +kernel
theorem dX4_fault_0 : decode cX4_fault 0 = .ok (.aload_n 0, 1) := by decide +kernel
theorem dX4_fault_1 : decode cX4_fault 1 = .ok (.invokevirtual 70, 3) := by decide +kernel
theorem dX4_fault_4 : decode cX4_fault 4 = .ok (.ireturn, 1) := by decide +kernel
theorem dX4_faultOfPad_0 : decode cX4_faultOfPad 0 = .ok (.iconst 0, 1) := by decide +kernel
theorem dX4_faultOfPad_1 : decode cX4_faultOfPad 1 = .ok (.istore_n 1, 1) := by decide +kernel
theorem dX4_faultOfPad_2 : decode cX4_faultOfPad 2 = .ok (.iconst 0, 1) := by decide +kernel
theorem dX4_faultOfPad_3 : decode cX4_faultOfPad 3 = .ok (.istore_n 2, 1) := by decide +kernel
theorem dX4_faultOfPad_4 : decode cX4_faultOfPad 4 = .ok (.iload_n 2, 1) := by decide +kernel
theorem dX4_faultOfPad_5 : decode cX4_faultOfPad 5 = .ok (.aload_n 0, 1) := by decide +kernel
theorem dX4_faultOfPad_6 : decode cX4_faultOfPad 6 = .ok (.getfield 83, 3) := by decide +kernel
theorem dX4_faultOfPad_9 : decode cX4_faultOfPad 9 = .ok (.if_icmp .ge 27, 3) := by decide +kernel
theorem dX4_faultOfPad_12 : decode cX4_faultOfPad 12 = .ok (.iload_n 1, 1) := by decide +kernel
theorem dX4_faultOfPad_13 : decode cX4_faultOfPad 13 = .ok (.aload_n 0, 1) := by decide +kernel
theorem dX4_faultOfPad_14 : decode cX4_faultOfPad 14 = .ok (.getfield 30, 3) := by decide +kernel
theorem dX4_faultOfPad_17 : decode cX4_faultOfPad 17 = .ok (.iload_n 2, 1) := by decide +kernel
theorem dX4_faultOfPad_18 : decode cX4_faultOfPad 18 = .ok (.caload, 1) := by decide +kernel
theorem dX4_faultOfPad_19 : decode cX4_faultOfPad 19 = .ok (.invokestatic 213, 3) := by decide +kernel
theorem dX4_faultOfPad_22 : decode cX4_faultOfPad 22 = .ok (.istore_n 1, 1) := by decide +kernel
theorem dX4_faultOfPad_23 : decode cX4_faultOfPad 23 = .ok (.iload_n 1, 1) := by decide +kernel
theorem dX4_faultOfPad_24 : decode cX4_faultOfPad 24 = .ok (.iconst (-1), 1) := by decide +kernel
theorem dX4_faultOfPad_25 : decode cX4_faultOfPad 25 = .ok (.if_icmp .ne 5, 3) := by decide +kernel
theorem dX4_faultOfPad_28 : decode cX4_faultOfPad 28 = .ok (.iload_n 2, 1) := by decide +kernel
theorem dX4_faultOfPad_29 : decode cX4_faultOfPad 29 = .ok (.ireturn, 1) := by decide +kernel
theorem dX4_faultOfPad_30 : decode cX4_faultOfPad 30 = .ok (.iinc 2 1, 3) := by decide +kernel
theorem dX4_faultOfPad_33 : decode cX4_faultOfPad 33 = .ok (.goto (-29), 3) := by decide +kernel
theorem dX4_faultOfPad_36 : decode cX4_faultOfPad 36 = .ok (.iload_n 1, 1) := by decide +kernel
theorem dX4_faultOfPad_37 : decode cX4_faultOfPad 37 = .ok (.iconst 2, 1) := by decide +kernel
theorem dX4_faultOfPad_38 : decode cX4_faultOfPad 38 = .ok (.if_icmp .le 8, 3) := by decide +kernel
theorem dX4_faultOfPad_41 : decode cX4_faultOfPad 41 = .ok (.bipush (-6), 2) := by decide +kernel
theorem dX4_faultOfPad_43 : decode cX4_faultOfPad 43 = .ok (.goto 7, 3) := by decide +kernel
theorem dX4_faultOfPad_46 : decode cX4_faultOfPad 46 = .ok (.aload_n 0, 1) := by decide +kernel
theorem dX4_faultOfPad_47 : decode cX4_faultOfPad 47 = .ok (.getfield 83, 3) := by decide +kernel
theorem dX4_faultOfPad_50 : decode cX4_faultOfPad 50 = .ok (.ireturn, 1) := by decide +kernel
theorem dX4_stageBehind_0 : decode cX4_stageBehind 0 = .ok (.iload_n 0, 1) := by decide +kernel
theorem dX4_stageBehind_1 : decode cX4_stageBehind 1 = .ok (.ifCond .ne 21, 3) := by decide +kernel
theorem dX4_stageBehind_4 : decode cX4_stageBehind 4 = .ok (.iload_n 1, 1) := by decide +kernel
theorem dX4_stageBehind_5 : decode cX4_stageBehind 5 = .ok (.bipush 48, 2) := by decide +kernel
theorem dX4_stageBehind_7 : decode cX4_stageBehind 7 = .ok (.if_icmp .lt 13, 3) := by decide +kernel
theorem dX4_stageBehind_10 : decode cX4_stageBehind 10 = .ok (.iload_n 1, 1) := by decide +kernel
theorem dX4_stageBehind_11 : decode cX4_stageBehind 11 = .ok (.bipush 53, 2) := by decide +kernel
theorem dX4_stageBehind_13 : decode cX4_stageBehind 13 = .ok (.if_icmp .ge 7, 3) := by decide +kernel
theorem dX4_stageBehind_16 : decode cX4_stageBehind 16 = .ok (.iconst 1, 1) := by decide +kernel
theorem dX4_stageBehind_17 : decode cX4_stageBehind 17 = .ok (.goto 4, 3) := by decide +kernel
theorem dX4_stageBehind_20 : decode cX4_stageBehind 20 = .ok (.iconst (-1), 1) := by decide +kernel
theorem dX4_stageBehind_21 : decode cX4_stageBehind 21 = .ok (.ireturn, 1) := by decide +kernel
theorem dX4_stageBehind_22 : decode cX4_stageBehind 22 = .ok (.iload_n 0, 1) := by decide +kernel
theorem dX4_stageBehind_23 : decode cX4_stageBehind 23 = .ok (.iconst 1, 1) := by decide +kernel
theorem dX4_stageBehind_24 : decode cX4_stageBehind 24 = .ok (.if_icmp .ne 21, 3) := by decide +kernel
theorem dX4_stageBehind_27 : decode cX4_stageBehind 27 = .ok (.iload_n 1, 1) := by decide +kernel
theorem dX4_stageBehind_28 : decode cX4_stageBehind 28 = .ok (.bipush 62, 2) := by decide +kernel
theorem dX4_stageBehind_30 : decode cX4_stageBehind 30 = .ok (.if_icmp .eq 9, 3) := by decide +kernel
theorem dX4_stageBehind_33 : decode cX4_stageBehind 33 = .ok (.iload_n 1, 1) := by decide +kernel
theorem dX4_stageBehind_34 : decode cX4_stageBehind 34 = .ok (.bipush 60, 2) := by decide +kernel
theorem dX4_stageBehind_36 : decode cX4_stageBehind 36 = .ok (.if_icmp .ne 7, 3) := by decide +kernel
theorem dX4_stageBehind_39 : decode cX4_stageBehind 39 = .ok (.iconst 2, 1) := by decide +kernel
theorem dX4_stageBehind_40 : decode cX4_stageBehind 40 = .ok (.goto 4, 3) := by decide +kernel
theorem dX4_stageBehind_43 : decode cX4_stageBehind 43 = .ok (.iconst (-1), 1) := by decide +kernel
theorem dX4_stageBehind_44 : decode cX4_stageBehind 44 = .ok (.ireturn, 1) := by decide +kernel
theorem dX4_stageBehind_45 : decode cX4_stageBehind 45 = .ok (.iload_n 1, 1) := by decide +kernel
theorem dX4_stageBehind_46 : decode cX4_stageBehind 46 = .ok (.invokestatic 217, 3) := by decide +kernel
theorem dX4_stageBehind_49 : decode cX4_stageBehind 49 = .ok (.ifCond .eq 17, 3) := by decide +kernel
theorem dX4_stageBehind_52 : decode cX4_stageBehind 52 = .ok (.iload_n 0, 1) := by decide +kernel
theorem dX4_stageBehind_53 : decode cX4_stageBehind 53 = .ok (.bipush 10, 2) := by decide +kernel
theorem dX4_stageBehind_55 : decode cX4_stageBehind 55 = .ok (.if_icmp .ge 9, 3) := by decide +kernel
theorem dX4_stageBehind_58 : decode cX4_stageBehind 58 = .ok (.iload_n 0, 1) := by decide +kernel
theorem dX4_stageBehind_59 : decode cX4_stageBehind 59 = .ok (.iconst 1, 1) := by decide +kernel
theorem dX4_stageBehind_60 : decode cX4_stageBehind 60 = .ok (.iadd, 1) := by decide +kernel
theorem dX4_stageBehind_61 : decode cX4_stageBehind 61 = .ok (.goto 4, 3) := by decide +kernel
theorem dX4_stageBehind_64 : decode cX4_stageBehind 64 = .ok (.iconst (-1), 1) := by decide +kernel
theorem dX4_stageBehind_65 : decode cX4_stageBehind 65 = .ok (.ireturn, 1) := by decide +kernel
theorem dX4_stageBehind_66 : decode cX4_stageBehind 66 = .ok (.iload_n 1, 1) := by decide +kernel
theorem dX4_stageBehind_67 : decode cX4_stageBehind 67 = .ok (.bipush 44, 2) := by decide +kernel
theorem dX4_stageBehind_69 : decode cX4_stageBehind 69 = .ok (.if_icmp .ne 12, 3) := by decide +kernel
theorem dX4_stageBehind_72 : decode cX4_stageBehind 72 = .ok (.iload_n 0, 1) := by decide +kernel
theorem dX4_stageBehind_73 : decode cX4_stageBehind 73 = .ok (.iconst 2, 1) := by decide +kernel
theorem dX4_stageBehind_74 : decode cX4_stageBehind 74 = .ok (.if_icmp .le 7, 3) := by decide +kernel
theorem dX4_stageBehind_77 : decode cX4_stageBehind 77 = .ok (.iconst 0, 1) := by decide +kernel
theorem dX4_stageBehind_78 : decode cX4_stageBehind 78 = .ok (.goto 4, 3) := by decide +kernel
theorem dX4_stageBehind_81 : decode cX4_stageBehind 81 = .ok (.iconst (-1), 1) := by decide +kernel
theorem dX4_stageBehind_82 : decode cX4_stageBehind 82 = .ok (.ireturn, 1) := by decide +kernel
theorem dX4_isWord_0 : decode cX4_isWord 0 = .ok (.iload_n 0, 1) := by decide +kernel
theorem dX4_isWord_1 : decode cX4_isWord 1 = .ok (.bipush 97, 2) := by decide +kernel
theorem dX4_isWord_3 : decode cX4_isWord 3 = .ok (.if_icmp .lt 13, 3) := by decide +kernel
theorem dX4_isWord_6 : decode cX4_isWord 6 = .ok (.iload_n 0, 1) := by decide +kernel
theorem dX4_isWord_7 : decode cX4_isWord 7 = .ok (.bipush 122, 2) := by decide +kernel
theorem dX4_isWord_9 : decode cX4_isWord 9 = .ok (.if_icmp .gt 7, 3) := by decide +kernel
theorem dX4_isWord_12 : decode cX4_isWord 12 = .ok (.iconst 1, 1) := by decide +kernel
theorem dX4_isWord_13 : decode cX4_isWord 13 = .ok (.goto 4, 3) := by decide +kernel
theorem dX4_isWord_16 : decode cX4_isWord 16 = .ok (.iconst 0, 1) := by decide +kernel
theorem dX4_isWord_17 : decode cX4_isWord 17 = .ok (.ireturn, 1) := by decide +kernel
theorem dX4_lettersOfPad_0 : decode cX4_lettersOfPad 0 = .ok (.iconst 1, 1) := by decide +kernel
theorem dX4_lettersOfPad_1 : decode cX4_lettersOfPad 1 = .ok (.istore_n 1, 1) := by decide +kernel
theorem dX4_lettersOfPad_2 : decode cX4_lettersOfPad 2 = .ok (.iconst 0, 1) := by decide +kernel
theorem dX4_lettersOfPad_3 : decode cX4_lettersOfPad 3 = .ok (.istore_n 2, 1) := by decide +kernel
theorem dX4_lettersOfPad_4 : decode cX4_lettersOfPad 4 = .ok (.iload_n 2, 1) := by decide +kernel
theorem dX4_lettersOfPad_5 : decode cX4_lettersOfPad 5 = .ok (.aload_n 0, 1) := by decide +kernel
theorem dX4_lettersOfPad_6 : decode cX4_lettersOfPad 6 = .ok (.getfield 83, 3) := by decide +kernel
theorem dX4_lettersOfPad_9 : decode cX4_lettersOfPad 9 = .ok (.if_icmp .ge 23, 3) := by decide +kernel
theorem dX4_lettersOfPad_12 : decode cX4_lettersOfPad 12 = .ok (.aload_n 0, 1) := by decide +kernel
theorem dX4_lettersOfPad_13 : decode cX4_lettersOfPad 13 = .ok (.getfield 30, 3) := by decide +kernel
theorem dX4_lettersOfPad_16 : decode cX4_lettersOfPad 16 = .ok (.iload_n 2, 1) := by decide +kernel
theorem dX4_lettersOfPad_17 : decode cX4_lettersOfPad 17 = .ok (.caload, 1) := by decide +kernel
theorem dX4_lettersOfPad_18 : decode cX4_lettersOfPad 18 = .ok (.bipush 44, 2) := by decide +kernel
theorem dX4_lettersOfPad_20 : decode cX4_lettersOfPad 20 = .ok (.if_icmp .ne 6, 3) := by decide +kernel
theorem dX4_lettersOfPad_23 : decode cX4_lettersOfPad 23 = .ok (.iinc 1 1, 3) := by decide +kernel
theorem dX4_lettersOfPad_26 : decode cX4_lettersOfPad 26 = .ok (.iinc 2 1, 3) := by decide +kernel
theorem dX4_lettersOfPad_29 : decode cX4_lettersOfPad 29 = .ok (.goto (-25), 3) := by decide +kernel
theorem dX4_lettersOfPad_32 : decode cX4_lettersOfPad 32 = .ok (.iload_n 1, 1) := by decide +kernel
theorem dX4_lettersOfPad_33 : decode cX4_lettersOfPad 33 = .ok (.ireturn, 1) := by decide +kernel
theorem dX4_writeLettersOfPad_0 : decode cX4_writeLettersOfPad 0 = .ok (.aconst_null, 1) := by decide +kernel
theorem dX4_writeLettersOfPad_1 : decode cX4_writeLettersOfPad 1 = .ok (.astore_n 1, 1) := by decide +kernel
theorem dX4_writeLettersOfPad_2 : decode cX4_writeLettersOfPad 2 = .ok (.iconst 0, 1) := by decide +kernel
theorem dX4_writeLettersOfPad_3 : decode cX4_writeLettersOfPad 3 = .ok (.istore_n 2, 1) := by decide +kernel
theorem dX4_writeLettersOfPad_4 : decode cX4_writeLettersOfPad 4 = .ok (.iload_n 2, 1) := by decide +kernel
theorem dX4_writeLettersOfPad_5 : decode cX4_writeLettersOfPad 5 = .ok (.aload_n 0, 1) := by decide +kernel
theorem dX4_writeLettersOfPad_6 : decode cX4_writeLettersOfPad 6 = .ok (.getfield 83, 3) := by decide +kernel
theorem dX4_writeLettersOfPad_9 : decode cX4_writeLettersOfPad 9 = .ok (.if_icmp .ge 87, 3) := by decide +kernel
theorem dX4_writeLettersOfPad_12 : decode cX4_writeLettersOfPad 12 = .ok (.aload_n 0, 1) := by decide +kernel
theorem dX4_writeLettersOfPad_13 : decode cX4_writeLettersOfPad 13 = .ok (.getfield 30, 3) := by decide +kernel
theorem dX4_writeLettersOfPad_16 : decode cX4_writeLettersOfPad 16 = .ok (.iload_n 2, 1) := by decide +kernel
theorem dX4_writeLettersOfPad_17 : decode cX4_writeLettersOfPad 17 = .ok (.caload, 1) := by decide +kernel
theorem dX4_writeLettersOfPad_18 : decode cX4_writeLettersOfPad 18 = .ok (.istore_n 3, 1) := by decide +kernel
theorem dX4_writeLettersOfPad_19 : decode cX4_writeLettersOfPad 19 = .ok (.iload_n 3, 1) := by decide +kernel
theorem dX4_writeLettersOfPad_20 : decode cX4_writeLettersOfPad 20 = .ok (.invokestatic 217, 3) := by decide +kernel
theorem dX4_writeLettersOfPad_23 : decode cX4_writeLettersOfPad 23 = .ok (.ifCond .eq 15, 3) := by decide +kernel
theorem dX4_writeLettersOfPad_26 : decode cX4_writeLettersOfPad 26 = .ok (.aload_n 1, 1) := by decide +kernel
theorem dX4_writeLettersOfPad_27 : decode cX4_writeLettersOfPad 27 = .ok (.ifnull 63, 3) := by decide +kernel
theorem dX4_writeLettersOfPad_30 : decode cX4_writeLettersOfPad 30 = .ok (.aload_n 1, 1) := by decide +kernel
theorem dX4_writeLettersOfPad_31 : decode cX4_writeLettersOfPad 31 = .ok (.iload_n 3, 1) := by decide +kernel
theorem dX4_writeLettersOfPad_32 : decode cX4_writeLettersOfPad 32 = .ok (.invokevirtual 221, 3) := by decide +kernel
theorem dX4_writeLettersOfPad_35 : decode cX4_writeLettersOfPad 35 = .ok (.goto 55, 3) := by decide +kernel
theorem dX4_writeLettersOfPad_38 : decode cX4_writeLettersOfPad 38 = .ok (.iload_n 3, 1) := by decide +kernel
theorem dX4_writeLettersOfPad_39 : decode cX4_writeLettersOfPad 39 = .ok (.bipush 62, 2) := by decide +kernel
theorem dX4_writeLettersOfPad_41 : decode cX4_writeLettersOfPad 41 = .ok (.if_icmp .ne 14, 3) := by decide +kernel
theorem dX4_writeLettersOfPad_44 : decode cX4_writeLettersOfPad 44 = .ok (.aload_n 0, 1) := by decide +kernel
theorem dX4_writeLettersOfPad_45 : decode cX4_writeLettersOfPad 45 = .ok (.getfield 12, 3) := by decide +kernel
theorem dX4_writeLettersOfPad_48 : decode cX4_writeLettersOfPad 48 = .ok (.iconst 0, 1) := by decide +kernel
theorem dX4_writeLettersOfPad_49 : decode cX4_writeLettersOfPad 49 = .ok (.invokevirtual 224, 3) := by decide +kernel
theorem dX4_writeLettersOfPad_52 : decode cX4_writeLettersOfPad 52 = .ok (.goto 38, 3) := by decide +kernel
theorem dX4_writeLettersOfPad_55 : decode cX4_writeLettersOfPad 55 = .ok (.iload_n 3, 1) := by decide +kernel
theorem dX4_writeLettersOfPad_56 : decode cX4_writeLettersOfPad 56 = .ok (.bipush 60, 2) := by decide +kernel
theorem dX4_writeLettersOfPad_58 : decode cX4_writeLettersOfPad 58 = .ok (.if_icmp .ne 14, 3) := by decide +kernel
theorem dX4_writeLettersOfPad_61 : decode cX4_writeLettersOfPad 61 = .ok (.aload_n 0, 1) := by decide +kernel
theorem dX4_writeLettersOfPad_62 : decode cX4_writeLettersOfPad 62 = .ok (.getfield 12, 3) := by decide +kernel
theorem dX4_writeLettersOfPad_65 : decode cX4_writeLettersOfPad 65 = .ok (.iconst 1, 1) := by decide +kernel
theorem dX4_writeLettersOfPad_66 : decode cX4_writeLettersOfPad 66 = .ok (.invokevirtual 224, 3) := by decide +kernel
theorem dX4_writeLettersOfPad_69 : decode cX4_writeLettersOfPad 69 = .ok (.goto 21, 3) := by decide +kernel
theorem dX4_writeLettersOfPad_72 : decode cX4_writeLettersOfPad 72 = .ok (.iload_n 3, 1) := by decide +kernel
theorem dX4_writeLettersOfPad_73 : decode cX4_writeLettersOfPad 73 = .ok (.bipush 44, 2) := by decide +kernel
theorem dX4_writeLettersOfPad_75 : decode cX4_writeLettersOfPad 75 = .ok (.if_icmp .eq 15, 3) := by decide +kernel
theorem dX4_writeLettersOfPad_78 : decode cX4_writeLettersOfPad 78 = .ok (.aload_n 0, 1) := by decide +kernel
theorem dX4_writeLettersOfPad_79 : decode cX4_writeLettersOfPad 79 = .ok (.getfield 12, 3) := by decide +kernel
theorem dX4_writeLettersOfPad_82 : decode cX4_writeLettersOfPad 82 = .ok (.iload_n 3, 1) := by decide +kernel
theorem dX4_writeLettersOfPad_83 : decode cX4_writeLettersOfPad 83 = .ok (.bipush 48, 2) := by decide +kernel
theorem dX4_writeLettersOfPad_85 : decode cX4_writeLettersOfPad 85 = .ok (.isub, 1) := by decide +kernel
theorem dX4_writeLettersOfPad_86 : decode cX4_writeLettersOfPad 86 = .ok (.invokevirtual 227, 3) := by decide +kernel
theorem dX4_writeLettersOfPad_89 : decode cX4_writeLettersOfPad 89 = .ok (.astore_n 1, 1) := by decide +kernel
theorem dX4_writeLettersOfPad_90 : decode cX4_writeLettersOfPad 90 = .ok (.iinc 2 1, 3) := by decide +kernel
theorem dX4_writeLettersOfPad_93 : decode cX4_writeLettersOfPad 93 = .ok (.goto (-89), 3) := by decide +kernel
theorem dX4_writeLettersOfPad_96 : decode cX4_writeLettersOfPad 96 = .ok (.return_, 1) := by decide +kernel
theorem dX4_undo_0 : decode cX4_undo 0 = .ok (.aload_n 0, 1) := by decide +kernel
theorem dX4_undo_1 : decode cX4_undo 1 = .ok (.getfield 191, 3) := by decide +kernel
theorem dX4_undo_4 : decode cX4_undo 4 = .ok (.ifCond .ne 6, 3) := by decide +kernel
theorem dX4_undo_7 : decode cX4_undo 7 = .ok (.bipush (-5), 2) := by decide +kernel
theorem dX4_undo_9 : decode cX4_undo 9 = .ok (.ireturn, 1) := by decide +kernel
theorem dX4_undo_10 : decode cX4_undo 10 = .ok (.aload_n 0, 1) := by decide +kernel
theorem dX4_undo_11 : decode cX4_undo 11 = .ok (.dup, 1) := by decide +kernel
theorem dX4_undo_12 : decode cX4_undo 12 = .ok (.getfield 191, 3) := by decide +kernel
theorem dX4_undo_15 : decode cX4_undo 15 = .ok (.iconst 1, 1) := by decide +kernel
theorem dX4_undo_16 : decode cX4_undo 16 = .ok (.isub, 1) := by decide +kernel
theorem dX4_undo_17 : decode cX4_undo 17 = .ok (.putfield 191, 3) := by decide +kernel
theorem dX4_undo_20 : decode cX4_undo 20 = .ok (.aload_n 0, 1) := by decide +kernel
theorem dX4_undo_21 : decode cX4_undo 21 = .ok (.getfield 12, 3) := by decide +kernel
theorem dX4_undo_24 : decode cX4_undo 24 = .ok (.aload_n 0, 1) := by decide +kernel
theorem dX4_undo_25 : decode cX4_undo 25 = .ok (.getfield 19, 3) := by decide +kernel
theorem dX4_undo_28 : decode cX4_undo 28 = .ok (.aload_n 0, 1) := by decide +kernel
theorem dX4_undo_29 : decode cX4_undo 29 = .ok (.getfield 191, 3) := by decide +kernel
theorem dX4_undo_32 : decode cX4_undo 32 = .ok (.aaload, 1) := by decide +kernel
theorem dX4_undo_33 : decode cX4_undo 33 = .ok (.invokevirtual 194, 3) := by decide +kernel
theorem dX4_undo_36 : decode cX4_undo 36 = .ok (.aload_n 0, 1) := by decide +kernel
theorem dX4_undo_37 : decode cX4_undo 37 = .ok (.getfield 191, 3) := by decide +kernel
theorem dX4_undo_40 : decode cX4_undo 40 = .ok (.ireturn, 1) := by decide +kernel
theorem dX4_save_0 : decode cX4_save 0 = .ok (.iload_n 1, 1) := by decide +kernel
theorem dX4_save_1 : decode cX4_save 1 = .ok (.ifCond .lt 8, 3) := by decide +kernel
theorem dX4_save_4 : decode cX4_save 4 = .ok (.iload_n 1, 1) := by decide +kernel
theorem dX4_save_5 : decode cX4_save 5 = .ok (.iconst 2, 1) := by decide +kernel
theorem dX4_save_6 : decode cX4_save 6 = .ok (.if_icmp .lt 6, 3) := by decide +kernel
theorem dX4_save_9 : decode cX4_save 9 = .ok (.bipush (-2), 2) := by decide +kernel
theorem dX4_save_11 : decode cX4_save 11 = .ok (.ireturn, 1) := by decide +kernel
theorem dX4_save_12 : decode cX4_save 12 = .ok (.aload_n 0, 1) := by decide +kernel
theorem dX4_save_13 : decode cX4_save 13 = .ok (.getfield 23, 3) := by decide +kernel
theorem dX4_save_16 : decode cX4_save 16 = .ok (.iload_n 1, 1) := by decide +kernel
theorem dX4_save_17 : decode cX4_save 17 = .ok (.aaload, 1) := by decide +kernel
theorem dX4_save_18 : decode cX4_save 18 = .ok (.aload_n 0, 1) := by decide +kernel
theorem dX4_save_19 : decode cX4_save 19 = .ok (.getfield 12, 3) := by decide +kernel
theorem dX4_save_22 : decode cX4_save 22 = .ok (.invokevirtual 194, 3) := by decide +kernel
theorem dX4_save_25 : decode cX4_save 25 = .ok (.aload_n 0, 1) := by decide +kernel
theorem dX4_save_26 : decode cX4_save 26 = .ok (.getfield 26, 3) := by decide +kernel
theorem dX4_save_29 : decode cX4_save 29 = .ok (.iload_n 1, 1) := by decide +kernel
theorem dX4_save_30 : decode cX4_save 30 = .ok (.iconst 1, 1) := by decide +kernel
theorem dX4_save_31 : decode cX4_save 31 = .ok (.bastore, 1) := by decide +kernel
theorem dX4_save_32 : decode cX4_save 32 = .ok (.aload_n 0, 1) := by decide +kernel
theorem dX4_save_33 : decode cX4_save 33 = .ok (.getfield 12, 3) := by decide +kernel
theorem dX4_save_36 : decode cX4_save 36 = .ok (.getfield 103, 3) := by decide +kernel
theorem dX4_save_39 : decode cX4_save 39 = .ok (.ireturn, 1) := by decide +kernel
theorem dX4_restore_0 : decode cX4_restore 0 = .ok (.iload_n 1, 1) := by decide +kernel
theorem dX4_restore_1 : decode cX4_restore 1 = .ok (.ifCond .lt 8, 3) := by decide +kernel
theorem dX4_restore_4 : decode cX4_restore 4 = .ok (.iload_n 1, 1) := by decide +kernel
theorem dX4_restore_5 : decode cX4_restore 5 = .ok (.iconst 2, 1) := by decide +kernel
theorem dX4_restore_6 : decode cX4_restore 6 = .ok (.if_icmp .lt 6, 3) := by decide +kernel
theorem dX4_restore_9 : decode cX4_restore 9 = .ok (.bipush (-2), 2) := by decide +kernel
theorem dX4_restore_11 : decode cX4_restore 11 = .ok (.ireturn, 1) := by decide +kernel
theorem dX4_restore_12 : decode cX4_restore 12 = .ok (.aload_n 0, 1) := by decide +kernel
theorem dX4_restore_13 : decode cX4_restore 13 = .ok (.getfield 26, 3) := by decide +kernel
theorem dX4_restore_16 : decode cX4_restore 16 = .ok (.iload_n 1, 1) := by decide +kernel
theorem dX4_restore_17 : decode cX4_restore 17 = .ok (.baload, 1) := by decide +kernel
theorem dX4_restore_18 : decode cX4_restore 18 = .ok (.ifCond .ne 6, 3) := by decide +kernel
theorem dX4_restore_21 : decode cX4_restore 21 = .ok (.bipush (-5), 2) := by decide +kernel
theorem dX4_restore_23 : decode cX4_restore 23 = .ok (.ireturn, 1) := by decide +kernel
theorem dX4_restore_24 : decode cX4_restore 24 = .ok (.aload_n 0, 1) := by decide +kernel
theorem dX4_restore_25 : decode cX4_restore 25 = .ok (.invokevirtual 41, 3) := by decide +kernel
theorem dX4_restore_28 : decode cX4_restore 28 = .ok (.aload_n 0, 1) := by decide +kernel
theorem dX4_restore_29 : decode cX4_restore 29 = .ok (.getfield 12, 3) := by decide +kernel
theorem dX4_restore_32 : decode cX4_restore 32 = .ok (.aload_n 0, 1) := by decide +kernel
theorem dX4_restore_33 : decode cX4_restore 33 = .ok (.getfield 23, 3) := by decide +kernel
theorem dX4_restore_36 : decode cX4_restore 36 = .ok (.iload_n 1, 1) := by decide +kernel
theorem dX4_restore_37 : decode cX4_restore 37 = .ok (.aaload, 1) := by decide +kernel
theorem dX4_restore_38 : decode cX4_restore 38 = .ok (.invokevirtual 194, 3) := by decide +kernel
theorem dX4_restore_41 : decode cX4_restore 41 = .ok (.aload_n 0, 1) := by decide +kernel
theorem dX4_restore_42 : decode cX4_restore 42 = .ok (.getfield 12, 3) := by decide +kernel
theorem dX4_restore_45 : decode cX4_restore 45 = .ok (.getfield 103, 3) := by decide +kernel
theorem dX4_restore_48 : decode cX4_restore 48 = .ok (.ireturn, 1) := by decide +kernel
theorem dX4_remember_0 : decode cX4_remember 0 = .ok (.aload_n 0, 1) := by decide +kernel
theorem dX4_remember_1 : decode cX4_remember 1 = .ok (.getfield 191, 3) := by decide +kernel
theorem dX4_remember_4 : decode cX4_remember 4 = .ok (.iconst 4, 1) := by decide +kernel
theorem dX4_remember_5 : decode cX4_remember 5 = .ok (.if_icmp .ne 54, 3) := by decide +kernel
theorem dX4_remember_8 : decode cX4_remember 8 = .ok (.aload_n 0, 1) := by decide +kernel
theorem dX4_remember_9 : decode cX4_remember 9 = .ok (.getfield 19, 3) := by decide +kernel
theorem dX4_remember_12 : decode cX4_remember 12 = .ok (.iconst 0, 1) := by decide +kernel
theorem dX4_remember_13 : decode cX4_remember 13 = .ok (.aaload, 1) := by decide +kernel
theorem dX4_remember_14 : decode cX4_remember 14 = .ok (.astore_n 1, 1) := by decide +kernel
theorem dX4_remember_15 : decode cX4_remember 15 = .ok (.iconst 1, 1) := by decide +kernel
theorem dX4_remember_16 : decode cX4_remember 16 = .ok (.istore_n 2, 1) := by decide +kernel
theorem dX4_remember_17 : decode cX4_remember 17 = .ok (.iload_n 2, 1) := by decide +kernel
theorem dX4_remember_18 : decode cX4_remember 18 = .ok (.iconst 4, 1) := by decide +kernel
theorem dX4_remember_19 : decode cX4_remember 19 = .ok (.if_icmp .ge 23, 3) := by decide +kernel
theorem dX4_remember_22 : decode cX4_remember 22 = .ok (.aload_n 0, 1) := by decide +kernel
theorem dX4_remember_23 : decode cX4_remember 23 = .ok (.getfield 19, 3) := by decide +kernel
theorem dX4_remember_26 : decode cX4_remember 26 = .ok (.iload_n 2, 1) := by decide +kernel
theorem dX4_remember_27 : decode cX4_remember 27 = .ok (.iconst 1, 1) := by decide +kernel
theorem dX4_remember_28 : decode cX4_remember 28 = .ok (.isub, 1) := by decide +kernel
theorem dX4_remember_29 : decode cX4_remember 29 = .ok (.aload_n 0, 1) := by decide +kernel
theorem dX4_remember_30 : decode cX4_remember 30 = .ok (.getfield 19, 3) := by decide +kernel
theorem dX4_remember_33 : decode cX4_remember 33 = .ok (.iload_n 2, 1) := by decide +kernel
theorem dX4_remember_34 : decode cX4_remember 34 = .ok (.aaload, 1) := by decide +kernel
theorem dX4_remember_35 : decode cX4_remember 35 = .ok (.aastore, 1) := by decide +kernel
theorem dX4_remember_36 : decode cX4_remember 36 = .ok (.iinc 2 1, 3) := by decide +kernel
theorem dX4_remember_39 : decode cX4_remember 39 = .ok (.goto (-22), 3) := by decide +kernel
theorem dX4_remember_42 : decode cX4_remember 42 = .ok (.aload_n 0, 1) := by decide +kernel
theorem dX4_remember_43 : decode cX4_remember 43 = .ok (.getfield 19, 3) := by decide +kernel
theorem dX4_remember_46 : decode cX4_remember 46 = .ok (.iconst 3, 1) := by decide +kernel
theorem dX4_remember_47 : decode cX4_remember 47 = .ok (.aload_n 1, 1) := by decide +kernel
theorem dX4_remember_48 : decode cX4_remember 48 = .ok (.aastore, 1) := by decide +kernel
theorem dX4_remember_49 : decode cX4_remember 49 = .ok (.aload_n 0, 1) := by decide +kernel
theorem dX4_remember_50 : decode cX4_remember 50 = .ok (.dup, 1) := by decide +kernel
theorem dX4_remember_51 : decode cX4_remember 51 = .ok (.getfield 191, 3) := by decide +kernel
theorem dX4_remember_54 : decode cX4_remember 54 = .ok (.iconst 1, 1) := by decide +kernel
theorem dX4_remember_55 : decode cX4_remember 55 = .ok (.isub, 1) := by decide +kernel
theorem dX4_remember_56 : decode cX4_remember 56 = .ok (.putfield 191, 3) := by decide +kernel
theorem dX4_remember_59 : decode cX4_remember 59 = .ok (.aload_n 0, 1) := by decide +kernel
theorem dX4_remember_60 : decode cX4_remember 60 = .ok (.getfield 19, 3) := by decide +kernel
theorem dX4_remember_63 : decode cX4_remember 63 = .ok (.aload_n 0, 1) := by decide +kernel
theorem dX4_remember_64 : decode cX4_remember 64 = .ok (.getfield 191, 3) := by decide +kernel
theorem dX4_remember_67 : decode cX4_remember 67 = .ok (.aaload, 1) := by decide +kernel
theorem dX4_remember_68 : decode cX4_remember 68 = .ok (.aload_n 0, 1) := by decide +kernel
theorem dX4_remember_69 : decode cX4_remember 69 = .ok (.getfield 12, 3) := by decide +kernel
theorem dX4_remember_72 : decode cX4_remember 72 = .ok (.invokevirtual 194, 3) := by decide +kernel
theorem dX4_remember_75 : decode cX4_remember 75 = .ok (.aload_n 0, 1) := by decide +kernel
theorem dX4_remember_76 : decode cX4_remember 76 = .ok (.dup, 1) := by decide +kernel
theorem dX4_remember_77 : decode cX4_remember 77 = .ok (.getfield 191, 3) := by decide +kernel
theorem dX4_remember_80 : decode cX4_remember 80 = .ok (.iconst 1, 1) := by decide +kernel
theorem dX4_remember_81 : decode cX4_remember 81 = .ok (.iadd, 1) := by decide +kernel
theorem dX4_remember_82 : decode cX4_remember 82 = .ok (.putfield 191, 3) := by decide +kernel
theorem dX4_remember_85 : decode cX4_remember 85 = .ok (.return_, 1) := by decide +kernel
theorem dJ6_bitCount_0f7a4_0 : decode cJ6_bitCount_0f7a4 0 = .ok (.iload_n 0, 1) := by decide +kernel
theorem dJ6_bitCount_0f7a4_1 : decode cJ6_bitCount_0f7a4 1 = .ok (.iload_n 0, 1) := by decide +kernel
theorem dJ6_bitCount_0f7a4_2 : decode cJ6_bitCount_0f7a4 2 = .ok (.iconst 1, 1) := by decide +kernel
theorem dJ6_bitCount_0f7a4_3 : decode cJ6_bitCount_0f7a4 3 = .ok (.iushr, 1) := by decide +kernel
theorem dJ6_bitCount_0f7a4_4 : decode cJ6_bitCount_0f7a4 4 = .ok (.ldc_w 265, 3) := by decide +kernel
theorem dJ6_bitCount_0f7a4_7 : decode cJ6_bitCount_0f7a4 7 = .ok (.iand, 1) := by decide +kernel
theorem dJ6_bitCount_0f7a4_8 : decode cJ6_bitCount_0f7a4 8 = .ok (.isub, 1) := by decide +kernel
theorem dJ6_bitCount_0f7a4_9 : decode cJ6_bitCount_0f7a4 9 = .ok (.istore_n 0, 1) := by decide +kernel
theorem dJ6_bitCount_0f7a4_10 : decode cJ6_bitCount_0f7a4 10 = .ok (.iload_n 0, 1) := by decide +kernel
theorem dJ6_bitCount_0f7a4_11 : decode cJ6_bitCount_0f7a4 11 = .ok (.ldc_w 266, 3) := by decide +kernel
theorem dJ6_bitCount_0f7a4_14 : decode cJ6_bitCount_0f7a4 14 = .ok (.iand, 1) := by decide +kernel
theorem dJ6_bitCount_0f7a4_15 : decode cJ6_bitCount_0f7a4 15 = .ok (.iload_n 0, 1) := by decide +kernel
theorem dJ6_bitCount_0f7a4_16 : decode cJ6_bitCount_0f7a4 16 = .ok (.iconst 2, 1) := by decide +kernel
theorem dJ6_bitCount_0f7a4_17 : decode cJ6_bitCount_0f7a4 17 = .ok (.iushr, 1) := by decide +kernel
theorem dJ6_bitCount_0f7a4_18 : decode cJ6_bitCount_0f7a4 18 = .ok (.ldc_w 266, 3) := by decide +kernel
theorem dJ6_bitCount_0f7a4_21 : decode cJ6_bitCount_0f7a4 21 = .ok (.iand, 1) := by decide +kernel
theorem dJ6_bitCount_0f7a4_22 : decode cJ6_bitCount_0f7a4 22 = .ok (.iadd, 1) := by decide +kernel
theorem dJ6_bitCount_0f7a4_23 : decode cJ6_bitCount_0f7a4 23 = .ok (.istore_n 0, 1) := by decide +kernel
theorem dJ6_bitCount_0f7a4_24 : decode cJ6_bitCount_0f7a4 24 = .ok (.iload_n 0, 1) := by decide +kernel
theorem dJ6_bitCount_0f7a4_25 : decode cJ6_bitCount_0f7a4 25 = .ok (.iload_n 0, 1) := by decide +kernel
theorem dJ6_bitCount_0f7a4_26 : decode cJ6_bitCount_0f7a4 26 = .ok (.iconst 4, 1) := by decide +kernel
theorem dJ6_bitCount_0f7a4_27 : decode cJ6_bitCount_0f7a4 27 = .ok (.iushr, 1) := by decide +kernel
theorem dJ6_bitCount_0f7a4_28 : decode cJ6_bitCount_0f7a4 28 = .ok (.iadd, 1) := by decide +kernel
theorem dJ6_bitCount_0f7a4_29 : decode cJ6_bitCount_0f7a4 29 = .ok (.ldc_w 267, 3) := by decide +kernel
theorem dJ6_bitCount_0f7a4_32 : decode cJ6_bitCount_0f7a4 32 = .ok (.iand, 1) := by decide +kernel
theorem dJ6_bitCount_0f7a4_33 : decode cJ6_bitCount_0f7a4 33 = .ok (.istore_n 0, 1) := by decide +kernel
theorem dJ6_bitCount_0f7a4_34 : decode cJ6_bitCount_0f7a4 34 = .ok (.iload_n 0, 1) := by decide +kernel
theorem dJ6_bitCount_0f7a4_35 : decode cJ6_bitCount_0f7a4 35 = .ok (.iload_n 0, 1) := by decide +kernel
theorem dJ6_bitCount_0f7a4_36 : decode cJ6_bitCount_0f7a4 36 = .ok (.bipush 8, 2) := by decide +kernel
theorem dJ6_bitCount_0f7a4_38 : decode cJ6_bitCount_0f7a4 38 = .ok (.iushr, 1) := by decide +kernel
theorem dJ6_bitCount_0f7a4_39 : decode cJ6_bitCount_0f7a4 39 = .ok (.iadd, 1) := by decide +kernel
theorem dJ6_bitCount_0f7a4_40 : decode cJ6_bitCount_0f7a4 40 = .ok (.istore_n 0, 1) := by decide +kernel
theorem dJ6_bitCount_0f7a4_41 : decode cJ6_bitCount_0f7a4 41 = .ok (.iload_n 0, 1) := by decide +kernel
theorem dJ6_bitCount_0f7a4_42 : decode cJ6_bitCount_0f7a4 42 = .ok (.iload_n 0, 1) := by decide +kernel
theorem dJ6_bitCount_0f7a4_43 : decode cJ6_bitCount_0f7a4 43 = .ok (.bipush 16, 2) := by decide +kernel
theorem dJ6_bitCount_0f7a4_45 : decode cJ6_bitCount_0f7a4 45 = .ok (.iushr, 1) := by decide +kernel
theorem dJ6_bitCount_0f7a4_46 : decode cJ6_bitCount_0f7a4 46 = .ok (.iadd, 1) := by decide +kernel
theorem dJ6_bitCount_0f7a4_47 : decode cJ6_bitCount_0f7a4 47 = .ok (.istore_n 0, 1) := by decide +kernel
theorem dJ6_bitCount_0f7a4_48 : decode cJ6_bitCount_0f7a4 48 = .ok (.iload_n 0, 1) := by decide +kernel
theorem dJ6_bitCount_0f7a4_49 : decode cJ6_bitCount_0f7a4 49 = .ok (.bipush 63, 2) := by decide +kernel
theorem dJ6_bitCount_0f7a4_51 : decode cJ6_bitCount_0f7a4 51 = .ok (.iand, 1) := by decide +kernel
theorem dJ6_bitCount_0f7a4_52 : decode cJ6_bitCount_0f7a4 52 = .ok (.ireturn, 1) := by decide +kernel
theorem dJ9_max_7cf53_0 : decode cJ9_max_7cf53 0 = .ok (.iload_n 0, 1) := by decide +kernel
theorem dJ9_max_7cf53_1 : decode cJ9_max_7cf53 1 = .ok (.iload_n 1, 1) := by decide +kernel
theorem dJ9_max_7cf53_2 : decode cJ9_max_7cf53 2 = .ok (.if_icmp .lt 7, 3) := by decide +kernel
theorem dJ9_max_7cf53_5 : decode cJ9_max_7cf53 5 = .ok (.iload_n 0, 1) := by decide +kernel
theorem dJ9_max_7cf53_6 : decode cJ9_max_7cf53 6 = .ok (.goto 4, 3) := by decide +kernel
theorem dJ9_max_7cf53_9 : decode cJ9_max_7cf53 9 = .ok (.iload_n 1, 1) := by decide +kernel
theorem dJ9_max_7cf53_10 : decode cJ9_max_7cf53 10 = .ok (.ireturn, 1) := by decide +kernel
end
section
/-! the memory: ints by cell and place, longs by cell, the four pasts -/
abbrev cz_M : Type := (Nat → Nat → Int32) × (Nat → Int64) × (Nat → Nat)
def cz_mI (M : cz_M) (a k : Nat) (v : Int32) : cz_M := (fun x y => if x = a ∧ y = k then v else M.1 x y, M.2)
def cz_mL (M : cz_M) (a : Nat) (v : Int64) : cz_M := (M.1, (fun x => if x = a then v else M.2.1 x), M.2.2)
def cz_mP (M : cz_M) (k v : Nat) : cz_M := (M.1, M.2.1, (fun x => if x = k then v else M.2.2 x))
def cz_mA (M : cz_M) (a : Nat) (f : Nat → Int32) : cz_M := (fun x y => if x = a then f y else M.1 x y, M.2)
def cz_ib (i : Int32) (n : Nat) : Bool := decide (¬ i < 0) && decide (i.toNatClampNeg < n)
def cz_cb (sp dp n : Int32) (n0 n1 : Nat) : Bool := decide (¬ sp < 0) && (decide (¬ dp < 0) && (decide (¬ n < 0) && (decide (sp.toNatClampNeg + n.toNatClampNeg ≤ n0) && decide (dp.toNatClampNeg + n.toNatClampNeg ≤ n1))))
def cz_zb (x : Int32) : Bool := decide (x = 0 ∨ x = 1)
def cz_hb (x : Int32) : Bool := decide (narrow .char (.int x) = .int x ∧ fits .char (.int x) = true)
def cz_gd {α : Type} (c : Bool) (k : Option α) : Option α := match c with
  | true => k
  | false => none
def cz_lt {α β : Type} (v : β) (k : β → Option α) : Option α := k v
theorem cz_gd_t {α : Type} {c : Bool} {k : Option α} {r : α} (h : cz_gd c k = some r) : c = true ∧ k = some r := by
  cases c with
  | true => exact ⟨rfl, h⟩
  | false => cases h
theorem cz_bd_t {α β : Type} {o : Option β} {k : β → Option α} {r : α} (h : o.bind k = some r) : ∃ v, o = some v ∧ k v = some r := by
  cases o with
  | none => cases h
  | some v => exact ⟨v, rfl, h⟩
theorem cz_ite_t {α : Type} {c : Prop} [Decidable c] {a b : Option α} {r : Option α} (hc : c) (h : (if c then a else b) = r) : a = r := by rw [if_pos hc] at h; exact h
theorem cz_ite_f {α : Type} {c : Prop} [Decidable c] {a b : Option α} {r : Option α} (hc : ¬ c) (h : (if c then a else b) = r) : b = r := by rw [if_neg hc] at h; exact h
theorem cz_ib_in {i : Int32} {n : Nat} (h : cz_ib i n = true) : vp_in i n := by
  simp only [cz_ib, Bool.and_eq_true, decide_eq_true_eq] at h
  intro q
  rcases q with q | q
  · exact h.1 q
  · omega
theorem cz_ib_lt {i : Int32} {n : Nat} (h : cz_ib i n = true) : i.toNatClampNeg < n := by
  simp only [cz_ib, Bool.and_eq_true, decide_eq_true_eq] at h
  exact h.2
/-! the cells, by their place behind the base -/
def cz_pk (o : Nat) : Nat := if o = 0 then 2 else if o = 1 then 103 else if o = 2 then 10 else if o = 3 then 108 else if o = 4 then 11 else if o = 5 then 12 else if o = 6 then 3 else if o = 7 then 140 else if o = 8 then 105 else if o < 13 then 0 else if o < 53 then 1 else if o = 53 then 3 else if o = 54 then 140 else if o = 55 then 3 else 140
def cz_kd (o : Nat) : Nat := if o = 0 then 4 else if o < 115 then cz_pk ((o - 1) % 57) else if o = 115 then 13 else if o = 116 then 14 else if o = 117 then 5002 else if o = 118 then 7 else if o < 461 then cz_pk ((o - 119) % 57) else if o = 461 then 5 else if o < 464 then 651 else if o = 464 then 2304 else if o = 465 then 1202 else if o = 466 then 5002 else if o = 467 then 160 else if o = 470 then 140 else 5040
def cz_fs (ci a : Nat) (M : cz_M) : List Value := match ci with
  | 0 => [.int (M.1 a 0), .int (M.1 a 1), .int (M.1 a 2), .int (M.1 a 3)]
  | 1 => [.int (M.1 a 0), .int (M.1 a 1), .long (M.2.1 a), .int (M.1 a 3), .int (M.1 a 4), .int (M.1 a 5), .int (M.1 a 6), .int (M.1 a 7), .int (M.1 a 8), .int (M.1 a 9), .int (M.1 a 10)]
  | 2 => [.ref (a + 1), .ref (a + 2), .ref (a + 3), .ref (a + 4), .ref (a + 5), .ref (a + 6), .ref (a + 8), .int (M.1 a 7), .int (M.1 a 8)]
  | 3 => [.ref (a + 1), .int (M.1 a 1)]
  | 4 => [.ref (a + 1), .ref (a + 58), .ref (a + 115), .ref (a + 116), .ref (a + 117), .ref (a + 118), .int (M.1 a 6), .int (M.1 a 7)]
  | 5 => [.ref (a + 1), .ref (a + 2), .ref (a + 3), .int (M.1 a 3), .ref (a + 4), .ref (a + 5), .ref (a + 6), .int (M.1 a 7), .ref (a + 7), .ref (a + 8), .ref (a + 9), .int (M.1 a 11)]
  | _ => []
def cz_cel (y : Nat → ClassId) (a kd : Nat) (M : cz_M) : va_E :=
  if kd < 6 then .inr (kd, cz_fs kd a M)
  else if kd = 7 then .inl (y 1, 60, .inl (M.1 a))
  else if kd = 10 then .inl (y 3, 4, .inr (.inr (.inr (.inr (fun j => some (a + 7 + j))))))
  else if kd = 11 then .inl (y 4, 40, .inr (.inr (.inr (.inr (fun j => some (a + 9 + j))))))
  else if kd = 12 then .inl (y 5, 2, .inr (.inr (.inr (.inr (fun j => some (a + 48 + 2 * j))))))
  else if kd = 13 then .inl (y 6, 4, .inr (.inr (.inr (.inr (fun j => some (M.2.2 j))))))
  else if kd = 14 then .inl (y 6, 2, .inr (.inr (.inr (.inr (fun j => some (a + 231 + 57 * j))))))
  else if kd < 5000 then .inl (y 0, kd - 100, .inl (M.1 a))
  else .inl (y 2, kd - 5000, .inl (M.1 a))
def cz_wl (y : Nat → ClassId) (b : Nat) (M : cz_M) : va_W := (List.range 471).map (fun o => (b + o, cz_cel y (b + o) (cz_kd o) M))
def cz_tys (y : Nat → ClassId) : List (ClassId × FieldType) := [(y 0, .int), (y 1, .char), (y 2, .boolean), (y 3, .object RX0), (y 4, .object RX1), (y 5, .object RX3), (y 6, .object RX2)]
def cz_K (b a k : Nat) : Prop := b ≤ a ∧ a < b + 471 ∧ cz_kd (a - b) = k
theorem cz_K_ch {b a k δ kc : Nat} (h : cz_K b a k) (hd : ∀ o, o < 471 → cz_kd o = k → o + δ < 471 ∧ cz_kd (o + δ) = kc) : cz_K b (a + δ) kc := by
  obtain ⟨h1, h2, h3⟩ := h
  obtain ⟨h4, h5⟩ := hd (a - b) (by omega) h3
  refine ⟨by omega, by omega, ?_⟩
  rw [show a + δ - b = a - b + δ by omega]
  exact h5
theorem cz_wl_len (y : Nat → ClassId) (b : Nat) (M : cz_M) : (cz_wl y b M).length = 471 := by simp [cz_wl]
theorem cz_wl_at (y : Nat → ClassId) (b : Nat) (M : cz_M) {i : Nat} (h : i < 471) : (cz_wl y b M)[i]? = some (b + i, cz_cel y (b + i) (cz_kd i) M) := by
  rw [cz_wl, List.getElem?_map, List.getElem?_range h]
  rfl
theorem cz_wl_get {y : Nat → ClassId} {b a k : Nat} {M : cz_M} (h : cz_K b a k) : (cz_wl y b M)[a - b]? = some (a, cz_cel y a k M) := by
  obtain ⟨h1, h2, h3⟩ := h
  rw [cz_wl_at y b M (by omega), show b + (a - b) = a by omega, h3]
theorem cz_wl_set {y : Nat → ClassId} {b a k : Nat} {M M' : cz_M} {e : va_E} (h : cz_K b a k) (he : e = cz_cel y a k M') (ho : ∀ x kd, x ≠ a → cz_cel y x kd M' = cz_cel y x kd M) : (cz_wl y b M).set (a - b) (a, e) = cz_wl y b M' := by
  subst he
  obtain ⟨h1, h2, h3⟩ := h
  apply List.ext_getElem?
  intro i
  by_cases hi : i < 471
  · by_cases hia : i = a - b
    · subst hia
      rw [List.getElem?_set_self (by rw [cz_wl_len]; exact hi), cz_wl_at y b M' hi, show b + (a - b) = a by omega, h3]
    · rw [List.getElem?_set_ne (Ne.symm hia), cz_wl_at y b M hi, cz_wl_at y b M' hi, ho (b + i) (cz_kd i) (by omega)]
  · rw [List.getElem?_eq_none (by rw [List.length_set, cz_wl_len]; omega), List.getElem?_eq_none (by rw [cz_wl_len]; omega)]
theorem cz_wl_D (y : Nat → ClassId) (b : Nat) (M : cz_M) : va_D (fun q => b ≤ q) (cz_wl y b M) := by
  have key : ∀ (k : Nat) (q : Nat × va_E), (cz_wl y b M)[k]? = some q → q.1 = b + k := by
    intro k q hk
    have hl := (List.getElem?_eq_some_iff.mp hk).1
    rw [cz_wl_len] at hl
    rw [cz_wl_at y b M hl] at hk
    cases hk
    rfl
  refine ⟨fun i j p q hi hj hpq => ?_, fun k q hk => ?_⟩
  · have h1 := key i p hi
    have h2 := key j q hj
    omega
  · show b ≤ q.1
    rw [key k q hk]
    exact Nat.le_add_right _ _
abbrev cz_G : Type := (Nat → ClassId) × va_G
/-- the two tables of numbers that the class reads -/
def cz_ST (b : Nat) (U : State) (H : Heap) : Prop := (∃ t : Nat, va_Z RX4 "LEAST_VALUES" "[I" (.ref t) (fun q => b ≤ q) U H ∧ va_T .int t 3 (fun j => .int (if j = 0 then 1 else if j = 1 then 0 else 1)) (fun q => b ≤ q) U H) ∧ ∃ t : Nat, va_Z RX4 "MOST_VALUES" "[I" (.ref t) (fun q => b ≤ q) U H ∧ va_T .int t 3 (fun j => .int (if j = 0 then 9 else if j = 1 then 8 else 5)) (fun q => b ≤ q) U H
theorem cz_ST.go {b : Nat} {u U : State} {H H1 : Heap} (h : cz_ST b u H) (hvm : u.vm.Alike U.vm) (hq : ∀ a : Nat, a < H.size → ¬ (fun q => b ≤ q) a → H1[a]? = H[a]?) : cz_ST b U H1 := by
  obtain ⟨⟨t, h1, h2⟩, t2, h3, h4⟩ := h
  exact ⟨⟨t, va_Z.kept (va_Z.moved hvm h1) hq, va_T.kept (va_T.moved hvm h2) hq⟩, t2, va_Z.kept (va_Z.moved hvm h3) hq, va_T.kept (va_T.moved hvm h4) hq⟩
/-- the world in a state; in a walk -/
def cz_WW (g : cz_G) (b : Nat) (M : cz_M) (U : State) : Prop := va_K g.2 vwCl (cz_tys g.1) U ∧ va_P g.2 vwCl (cz_wl g.1 b M) U.heap ∧ (∀ j, j < 4 → cz_K b (M.2.2 j) 2) ∧ cz_ST b U U.heap
def cz_WS (g : cz_G) (b : Nat) (M : cz_M) (s : State) (H : Heap) (locs : List Loc) : Prop := va_P g.2 vwCl (cz_wl g.1 b M) H ∧ (∀ j, j < 4 → cz_K b (M.2.2 j) 2) ∧ va_S (fun q => b ≤ q) s.heap H locs
def cz_Q (g : cz_G) (b : Nat) (v : Option Value) (M : cz_M) : Array Value → State → Outcome → State → Prop := fun _ st oc t => (oc = .returned v ∧ cz_WW g b M t) ∧ va_F (fun q => b ≤ q) st t
def cz_C (l : Launch) (y : MethodName) (cc : ByteArray) (maxL : Nat) (ret : Option FieldType) (F N : Nat) (g : cz_G) (b : Nat) (av : List Value) (M : cz_M) (v : Option Value) (M' : cz_M) : Prop :=
  Met l y (Cond.code y cc maxL ret :: lw_gd) { frames := F, cells := 0, slots := 0, locals := N } (va_Pc av (fun U => cz_WW g b M U)) (cz_Q g b v M') 0 0 (fun q => b ≤ q)
def cz_X (p : Program) (s : State) (m : MethodId) (args : Array Value) (meth : Method) (c : Code) (cc : ByteArray) (nL : Nat) (own : String) (g : cz_G) (b : Nat) (rt : Option FieldType) : Prop :=
  p.tables.exec = Jvm.exec ∧ c.code = cc ∧ c.maxLocals = nL ∧ s.vm.findClass own = some m.cls ∧ (∀ w ∈ lw_gd, w.before args s = true) ∧ va_K g.2 vwCl (cz_tys g.1) s ∧ cz_ST b s s.heap ∧ meth.sig.returnType = rt ∧ meth.locks = false
theorem cz_start {l : Launch} {y : MethodName} {cc : ByteArray} {maxL : Nat} {ret : Option FieldType} {F N : Nat} {g : cz_G} {b : Nat} {av : List Value} {M M' : cz_M} {v : Option Value} (hy : plainName y.cls = true) (hlen : (lg_sl av).length ≤ maxL)
    (body : ∀ (p : Program) (e : Env) (s : State) (m : MethodId) (args : Array Value) (below : List Frame) (meth : Method) (c : Code), cz_X p s m args meth c cc maxL y.cls g b ret → ∀ (H : Heap) (ls : Array Slot), cz_WS g b M s H [] → lv_has ls maxL (lv_args 0 av) →
      W p l e { frames := F, cells := 0, slots := 0, locals := N } s m args below meth c H [] 0 0 (MQ below (cz_Q g b v M') args s 0 0 (fun q => b ≤ q)) (F0 m 0 ls [])) : cz_C l y cc maxL ret F N g b av M v M' := by
  refine Met.ofW (cc := cc) (maxL := maxL) (ret := ret) hy rfl ?_
  intro p e s m args below meth c s₁ B hml hv
  obtain ⟨rfl, hK, hP, hp, hst⟩ := hv
  rw [lg_entry_eq]
  have hts := atoms_spec (ws := Cond.code y cc maxL ret :: lw_gd) B.pre
  exact body p e s m _ below meth c ⟨B.exec, B.bytes, hml, findClass_of_methodNamed B.named, fun w h => hts w (List.mem_cons_of_mem _ h), hK, hst, B.returns, B.notSynchronized⟩ _ _ ⟨hP, hp, va_S.rf⟩ (lv_entry av hlen)
/-! what is said of a field, once a field -/
def cz_fI (ci k : Nat) (C : String) (T : u_T) (N : Nat) : Prop := vwCl[ci]? = some (C, T, N) ∧ ci < 6 ∧ k < N ∧ (∀ w ∈ u_ws C T N, w ∈ lw_gd) ∧ (T k).1 = C ∧ (T k).2.2.2 = false ∧ parseFieldDescriptor (T k).2.2.1 = some .int ∧ (∀ a M, (cz_fs ci a M)[k]? = some (.int (M.1 a k))) ∧ (∀ a M v, cz_fs ci a (cz_mI M a k v) = (cz_fs ci a M).set k (.int v)) ∧ (∀ a M, k < (cz_fs ci a M).length) ∧ (∃ ty0 : Nat → FieldType, ∀ j, j < N → parseFieldDescriptor (T j).2.2.1 = some (ty0 j)) ∧ ∀ a, a < N → ∀ b, b < N → a ≠ b → (T a).2.1 ≠ (T b).2.1
def cz_fL (C : String) (T : u_T) (N : Nat) : Prop := vwCl[1]? = some (C, T, N) ∧ 2 < N ∧ (∀ w ∈ u_ws C T N, w ∈ lw_gd) ∧ (T 2).1 = C ∧ (T 2).2.2.2 = false ∧ parseFieldDescriptor (T 2).2.2.1 = some .long ∧ (∃ ty0 : Nat → FieldType, ∀ j, j < N → parseFieldDescriptor (T j).2.2.1 = some (ty0 j)) ∧ ∀ a, a < N → ∀ b, b < N → a ≠ b → (T a).2.1 ≠ (T b).2.1
def cz_fR (ci k δ kc : Nat) (C : String) (T : u_T) (N : Nat) : Prop := vwCl[ci]? = some (C, T, N) ∧ ci < 6 ∧ k < N ∧ (∀ w ∈ u_ws C T N, w ∈ lw_gd) ∧ (T k).1 = C ∧ (∀ a M, (cz_fs ci a M)[k]? = some (.ref (a + δ))) ∧ ∀ o, o < 471 → cz_kd o = ci → o + δ < 471 ∧ cz_kd (o + δ) = kc
theorem cz_cel_obj {y : Nat → ClassId} {a ci : Nat} {M : cz_M} (h : ci < 6) : cz_cel y a ci M = .inr (ci, cz_fs ci a M) := by rw [cz_cel, if_pos h]
theorem cz_cel_int {y : Nat → ClassId} {a n : Nat} {M : cz_M} (h : n < 4900) : cz_cel y a (n + 100) M = .inl (y 0, n, .inl (M.1 a)) := by
  rw [cz_cel, if_neg (by omega), if_neg (by omega), if_neg (by omega), if_neg (by omega), if_neg (by omega), if_neg (by omega), if_neg (by omega), if_pos (by omega), Nat.add_sub_cancel]
theorem cz_cel_zb {y : Nat → ClassId} {a n : Nat} {M : cz_M} : cz_cel y a (n + 5000) M = .inl (y 2, n, .inl (M.1 a)) := by
  rw [cz_cel, if_neg (by omega), if_neg (by omega), if_neg (by omega), if_neg (by omega), if_neg (by omega), if_neg (by omega), if_neg (by omega), if_neg (by omega), Nat.add_sub_cancel]
theorem cz_fs_I {ci x a k : Nat} {v : Int32} {M : cz_M} (h : x ≠ a) : cz_fs ci x (cz_mI M a k v) = cz_fs ci x M := by
  have e : ∀ j, (cz_mI M a k v).1 x j = M.1 x j := fun j => by simp [cz_mI, h]
  have e2 : (cz_mI M a k v).2.1 x = M.2.1 x := rfl
  unfold cz_fs
  split <;> simp only [e, e2]
theorem cz_fs_A {ci x a : Nat} {f : Nat → Int32} {M : cz_M} (h : x ≠ a) : cz_fs ci x (cz_mA M a f) = cz_fs ci x M := by
  have e : ∀ j, (cz_mA M a f).1 x j = M.1 x j := fun j => by simp [cz_mA, h]
  have e2 : (cz_mA M a f).2.1 x = M.2.1 x := rfl
  unfold cz_fs
  split <;> simp only [e, e2]
theorem cz_fs_L {ci x a : Nat} {v : Int64} {M : cz_M} (h : x ≠ a) : cz_fs ci x (cz_mL M a v) = cz_fs ci x M := by
  have e2 : (cz_mL M a v).2.1 x = M.2.1 x := by simp [cz_mL, h]
  have e : ∀ j, (cz_mL M a v).1 x j = M.1 x j := fun j => rfl
  unfold cz_fs
  split <;> simp only [e, e2]
theorem cz_fs_P {ci x k v : Nat} {M : cz_M} : cz_fs ci x (cz_mP M k v) = cz_fs ci x M := by
  unfold cz_fs
  split <;> rfl
theorem cz_cel_I {y : Nat → ClassId} {x a k kd : Nat} {v : Int32} {M : cz_M} (h : x ≠ a) : cz_cel y x kd (cz_mI M a k v) = cz_cel y x kd M := by
  have e : (cz_mI M a k v).1 x = M.1 x := by funext j; simp [cz_mI, h]
  have e3 : (cz_mI M a k v).2.2 = M.2.2 := rfl
  unfold cz_cel
  rw [cz_fs_I h, e, e3]
theorem cz_cel_A {y : Nat → ClassId} {x a kd : Nat} {f : Nat → Int32} {M : cz_M} (h : x ≠ a) : cz_cel y x kd (cz_mA M a f) = cz_cel y x kd M := by
  have e : (cz_mA M a f).1 x = M.1 x := by funext j; simp [cz_mA, h]
  have e3 : (cz_mA M a f).2.2 = M.2.2 := rfl
  unfold cz_cel
  rw [cz_fs_A h, e, e3]
theorem cz_cel_L {y : Nat → ClassId} {x a kd : Nat} {v : Int64} {M : cz_M} (h : x ≠ a) : cz_cel y x kd (cz_mL M a v) = cz_cel y x kd M := by
  have e : (cz_mL M a v).1 = M.1 := rfl
  have e3 : (cz_mL M a v).2.2 = M.2.2 := rfl
  unfold cz_cel
  rw [cz_fs_L h, e, e3]
theorem cz_cel_P {y : Nat → ClassId} {x k w kd : Nat} {M : cz_M} (h : kd ≠ 13) : cz_cel y x kd (cz_mP M k w) = cz_cel y x kd M := by
  have e : (cz_mP M k w).1 = M.1 := rfl
  unfold cz_cel
  rw [cz_fs_P, e, if_neg h, if_neg h]
section CZ
variable {p : Program} {l : Launch} {e : Env} {R : Room} {s : State} {m : MethodId} {args : Array Value} {below : List Frame} {meth : Method} {c : Code} {H : Heap} {locs : List Loc} {Q : State → Prop}
variable {cc : ByteArray} {pc nL : Nat} {ls : Array Slot} {rest : List Value} {g : cz_G} {b a : Nat} {own : String} {rt : Option FieldType} {M : cz_M} {α : Type} {res : α}
theorem cz_getI (X : cz_X p s m args meth c cc nL own g b rt) (hM : cz_WS g b M s H locs) {ci k N idx : Nat} {C : String} {T : u_T} (hF : cz_fI ci k C T N) (hk : cz_K b a ci) (hl : Cond.fieldLink own idx C (T k).2.1 (T k).2.2.1 ∈ lw_gd) (hd : decode cc pc = .ok (.getfield idx, 3))
    (kk : W p l e R s m args below meth c H locs 0 0 Q (F0 m (pc + 3) ls (.int (M.1 a k) :: rest))) : W p l e R s m args below meth c H locs 0 0 Q (F0 m pc ls (.ref a :: rest)) := by
  obtain ⟨h1, h2, h3, h4, h5, -, -, h8, -⟩ := hF
  obtain ⟨hx, hb, -, ho, ht, hK, -⟩ := X
  exact va_get hx hb ht h4 ho hK hM.1 (a - b) (by rw [cz_wl_get hk, cz_cel_obj h2]) h1 k h3 (ht _ hl) (fun _ h9 => by rw [h5] at h9; exact h9) (h8 a M) hd kk
theorem cz_getL (X : cz_X p s m args meth c cc nL own g b rt) (hM : cz_WS g b M s H locs) {N idx : Nat} {C : String} {T : u_T} (hF : cz_fL C T N) (hk : cz_K b a 1) (hl : Cond.fieldLink own idx C (T 2).2.1 (T 2).2.2.1 ∈ lw_gd) (hd : decode cc pc = .ok (.getfield idx, 3))
    (kk : W p l e R s m args below meth c H locs 0 0 Q (F0 m (pc + 3) ls (.long (M.2.1 a) :: rest))) : W p l e R s m args below meth c H locs 0 0 Q (F0 m pc ls (.ref a :: rest)) := by
  obtain ⟨h1, h3, h4, h5, -⟩ := hF
  obtain ⟨hx, hb, -, ho, ht, hK, -⟩ := X
  exact va_get hx hb ht h4 ho hK hM.1 (a - b) (by rw [cz_wl_get hk, cz_cel_obj (by decide)]) h1 2 h3 (ht _ hl) (fun _ h9 => by rw [h5] at h9; exact h9) rfl hd kk
theorem cz_getR (X : cz_X p s m args meth c cc nL own g b rt) (hM : cz_WS g b M s H locs) {ci k δ kc N idx : Nat} {C : String} {T : u_T} (hF : cz_fR ci k δ kc C T N) (hk : cz_K b a ci) (hl : Cond.fieldLink own idx C (T k).2.1 (T k).2.2.1 ∈ lw_gd) (hd : decode cc pc = .ok (.getfield idx, 3))
    (kk : cz_K b (a + δ) kc → W p l e R s m args below meth c H locs 0 0 Q (F0 m (pc + 3) ls (.ref (a + δ) :: rest))) : W p l e R s m args below meth c H locs 0 0 Q (F0 m pc ls (.ref a :: rest)) := by
  obtain ⟨h1, h2, h3, h4, h5, h6, h7⟩ := hF
  obtain ⟨hx, hb, -, ho, ht, hK, -⟩ := X
  exact va_get hx hb ht h4 ho hK hM.1 (a - b) (by rw [cz_wl_get hk, cz_cel_obj h2]) h1 k h3 (ht _ hl) (fun _ h9 => by rw [h5] at h9; exact h9) (h6 a M) hd (kk (cz_K_ch hk h7))
theorem cz_putI (X : cz_X p s m args meth c cc nL own g b rt) (hM : cz_WS g b M s H locs) {ci k N idx : Nat} {C : String} {T : u_T} {v : Int32} {K : cz_M → Option α} (h : cz_lt (cz_mI M a k v) K = some res) (hF : cz_fI ci k C T N) (hk : cz_K b a ci) (hl : Cond.fieldLink own idx C (T k).2.1 (T k).2.2.1 ∈ lw_gd) (hd : decode cc pc = .ok (.putfield idx, 3))
    (kk : ∀ (M : cz_M) (H : Heap) (locs : List Loc), K M = some res → cz_WS g b M s H locs → W p l e R s m args below meth c H locs 0 0 Q (F0 m (pc + 3) ls rest)) : W p l e R s m args below meth c H locs 0 0 Q (F0 m pc ls (.int v :: .ref a :: rest)) := by
  obtain ⟨h1, h2, h3, h4, h5, h6, h7, h8, h9, h10, ⟨ty0, h11⟩, h12⟩ := hF
  obtain ⟨hx, hb, -, ho, ht, hK, -⟩ := X
  refine va_put hx hb ht h4 ty0 h11 h12 ho hK hM.1 (cz_wl_D g.1 b M) hM.2.2 (a - b) (by rw [cz_wl_get hk, cz_cel_obj h2]) h1 k h3 (ht _ hl) (fun _ h9 => by rw [h5] at h9; exact h9) h6 h7 rfl rfl (h10 a M) hd (fun H1 locs1 q1 q2 q3 => ?_)
  refine kk _ H1 locs1 h ⟨?_, hM.2.1, q3⟩
  rw [cz_wl_set hk (M' := cz_mI M a k v) (by rw [cz_cel_obj h2, h9]) (fun x kd hx => cz_cel_I hx)] at q1
  exact q1
theorem cz_putL (X : cz_X p s m args meth c cc nL own g b rt) (hM : cz_WS g b M s H locs) {N idx : Nat} {C : String} {T : u_T} {v : Int64} {K : cz_M → Option α} (h : cz_lt (cz_mL M a v) K = some res) (hF : cz_fL C T N) (hk : cz_K b a 1) (hl : Cond.fieldLink own idx C (T 2).2.1 (T 2).2.2.1 ∈ lw_gd) (hd : decode cc pc = .ok (.putfield idx, 3))
    (kk : ∀ (M : cz_M) (H : Heap) (locs : List Loc), K M = some res → cz_WS g b M s H locs → W p l e R s m args below meth c H locs 0 0 Q (F0 m (pc + 3) ls rest)) : W p l e R s m args below meth c H locs 0 0 Q (F0 m pc ls (.long v :: .ref a :: rest)) := by
  obtain ⟨h1, h3, h4, h5, h6, h7, ⟨ty0, h11⟩, h12⟩ := hF
  obtain ⟨hx, hb, -, ho, ht, hK, -⟩ := X
  refine va_put hx hb ht h4 ty0 h11 h12 ho hK hM.1 (cz_wl_D g.1 b M) hM.2.2 (a - b) (by rw [cz_wl_get hk, cz_cel_obj (by decide)]) h1 2 h3 (ht _ hl) (fun _ h9 => by rw [h5] at h9; exact h9) h6 h7 rfl rfl (by simp [cz_fs]) hd (fun H1 locs1 q1 q2 q3 => ?_)
  refine kk _ H1 locs1 h ⟨?_, hM.2.1, q3⟩
  rw [cz_wl_set hk (M' := cz_mL M a v) (by rw [cz_cel_obj (by decide)]; simp [cz_fs, cz_mL]) (fun x kd hx => cz_cel_L hx)] at q1
  exact q1
theorem cz_iald {n : Nat} (X : cz_X p s m args meth c cc nL own g b rt) (hM : cz_WS g b M s H locs) {i : Int32} {K : Option α} (h : cz_gd (cz_ib i n) K = some res) (hk : cz_K b a (n + 100)) (hn : n < 4900) (hd : decode cc pc = .ok (.iaload, 1))
    (kk : K = some res → W p l e R s m args below meth c H locs 0 0 Q (F0 m (pc + 1) ls (.int (M.1 a i.toNatClampNeg) :: rest))) : W p l e R s m args below meth c H locs 0 0 Q (F0 m pc ls (.int i :: .ref a :: rest)) := by
  obtain ⟨hi, hK⟩ := cz_gd_t h
  obtain ⟨hx, hb, -, ho, ht, hKK, -⟩ := X
  exact va_iald hx hb hKK hM.1 (a - b) 0 (by rw [cz_wl_get hk, cz_cel_int hn]) rfl (cz_ib_in hi) hd (kk hK)
theorem cz_zald {n : Nat} (X : cz_X p s m args meth c cc nL own g b rt) (hM : cz_WS g b M s H locs) {i : Int32} {K : Option α} (h : cz_gd (cz_ib i n) K = some res) (hk : cz_K b a (n + 5000)) (hd : decode cc pc = .ok (.baload, 1))
    (kk : K = some res → W p l e R s m args below meth c H locs 0 0 Q (F0 m (pc + 1) ls (.int (M.1 a i.toNatClampNeg) :: rest))) : W p l e R s m args below meth c H locs 0 0 Q (F0 m pc ls (.int i :: .ref a :: rest)) := by
  obtain ⟨hi, hK⟩ := cz_gd_t h
  obtain ⟨hx, hb, -, ho, ht, hKK, -⟩ := X
  exact va_zald hx hb hKK hM.1 (a - b) 2 (by rw [cz_wl_get hk, cz_cel_zb]) rfl (cz_ib_in hi) hd (kk hK)
theorem cz_cald (X : cz_X p s m args meth c cc nL own g b rt) (hM : cz_WS g b M s H locs) {i : Int32} {K : Option α} (h : cz_gd (cz_ib i 60) K = some res) (hk : cz_K b a 7) (hd : decode cc pc = .ok (.caload, 1))
    (kk : K = some res → W p l e R s m args below meth c H locs 0 0 Q (F0 m (pc + 1) ls (.int (M.1 a i.toNatClampNeg) :: rest))) : W p l e R s m args below meth c H locs 0 0 Q (F0 m pc ls (.int i :: .ref a :: rest)) := by
  obtain ⟨hi, hK⟩ := cz_gd_t h
  obtain ⟨hx, hb, -, ho, ht, hKK, -⟩ := X
  exact va_cald hx hb hKK hM.1 (a - b) 1 (by rw [cz_wl_get hk]; rfl) rfl (cz_ib_in hi) hd (kk hK)
theorem cz_iast {n : Nat} (X : cz_X p s m args meth c cc nL own g b rt) (hM : cz_WS g b M s H locs) {i v : Int32} {K : cz_M → Option α} (h : cz_gd (cz_ib i n) (cz_lt (cz_mI M a i.toNatClampNeg v) K) = some res) (hk : cz_K b a (n + 100)) (hn : n < 4900) (hd : decode cc pc = .ok (.iastore, 1))
    (kk : ∀ (M : cz_M) (H : Heap) (locs : List Loc), K M = some res → cz_WS g b M s H locs → W p l e R s m args below meth c H locs 0 0 Q (F0 m (pc + 1) ls rest)) : W p l e R s m args below meth c H locs 0 0 Q (F0 m pc ls (.int v :: .int i :: .ref a :: rest)) := by
  obtain ⟨hi, hK⟩ := cz_gd_t h
  obtain ⟨hx, hb, -, ho, ht, hKK, -⟩ := X
  refine va_iast hx hb hKK hM.1 (cz_wl_D g.1 b M) hM.2.2 (a - b) 0 (by rw [cz_wl_get hk, cz_cel_int hn]) rfl (cz_ib_in hi) hd (fun H1 locs1 q1 q2 q3 => ?_)
  refine kk _ H1 locs1 hK ⟨?_, hM.2.1, q3⟩
  rw [cz_wl_set hk (M' := cz_mI M a i.toNatClampNeg v) (by
    rw [cz_cel_int hn]
    refine congrArg (fun z => Sum.inl (g.1 0, n, Sum.inl z)) ?_
    funext j
    simp [cz_mI, upd]) (fun x kd hx => cz_cel_I hx)] at q1
  exact q1
theorem cz_zast {n : Nat} (X : cz_X p s m args meth c cc nL own g b rt) (hM : cz_WS g b M s H locs) {i v : Int32} {K : cz_M → Option α} (h : cz_gd (cz_ib i n) (cz_gd (cz_zb v) (cz_lt (cz_mI M a i.toNatClampNeg v) K)) = some res) (hk : cz_K b a (n + 5000)) (hd : decode cc pc = .ok (.bastore, 1))
    (kk : ∀ (M : cz_M) (H : Heap) (locs : List Loc), K M = some res → cz_WS g b M s H locs → W p l e R s m args below meth c H locs 0 0 Q (F0 m (pc + 1) ls rest)) : W p l e R s m args below meth c H locs 0 0 Q (F0 m pc ls (.int v :: .int i :: .ref a :: rest)) := by
  obtain ⟨hi, hK⟩ := cz_gd_t h
  obtain ⟨hz, hK⟩ := cz_gd_t hK
  have hv : vp_nar .boolean v = v := by
    simp only [cz_zb, decide_eq_true_eq] at hz
    rcases hz with rfl | rfl <;> rfl
  obtain ⟨hx, hb, -, ho, ht, hKK, -⟩ := X
  refine va_zast hx hb hKK hM.1 (cz_wl_D g.1 b M) hM.2.2 (a - b) 2 (by rw [cz_wl_get hk, cz_cel_zb]) rfl (cz_ib_in hi) hd (fun H1 locs1 q1 q2 q3 => ?_)
  refine kk _ H1 locs1 hK ⟨?_, hM.2.1, q3⟩
  rw [hv] at q1
  rw [cz_wl_set hk (M' := cz_mI M a i.toNatClampNeg v) (by
    rw [cz_cel_zb]
    refine congrArg (fun z => Sum.inl (g.1 2, n, Sum.inl z)) ?_
    funext j
    simp [cz_mI, upd]) (fun x kd hx => cz_cel_I hx)] at q1
  exact q1
theorem cz_cast (X : cz_X p s m args meth c cc nL own g b rt) (hM : cz_WS g b M s H locs) {i v : Int32} {K : cz_M → Option α} (h : cz_gd (cz_ib i 60) (cz_gd (cz_hb v) (cz_lt (cz_mI M a i.toNatClampNeg v) K)) = some res) (hk : cz_K b a 7) (hd : decode cc pc = .ok (.castore, 1))
    (kk : ∀ (M : cz_M) (H : Heap) (locs : List Loc), K M = some res → cz_WS g b M s H locs → W p l e R s m args below meth c H locs 0 0 Q (F0 m (pc + 1) ls rest)) : W p l e R s m args below meth c H locs 0 0 Q (F0 m pc ls (.int v :: .int i :: .ref a :: rest)) := by
  obtain ⟨hi, hK⟩ := cz_gd_t h
  obtain ⟨hz, hK⟩ := cz_gd_t hK
  have hv : vp_nar .char v = v := by
    simp only [cz_hb, decide_eq_true_eq] at hz
    show (match narrow .char (.int v) with | .int y => y | _ => 0) = v
    rw [hz.1]
  obtain ⟨hx, hb, -, ho, ht, hKK, -⟩ := X
  refine va_cast hx hb hKK hM.1 (cz_wl_D g.1 b M) hM.2.2 (a - b) 1 (by rw [cz_wl_get hk]; rfl) rfl (cz_ib_in hi) hd (fun H1 locs1 q1 q2 q3 => ?_)
  refine kk _ H1 locs1 hK ⟨?_, hM.2.1, q3⟩
  rw [hv] at q1
  rw [cz_wl_set hk (M' := cz_mI M a i.toNatClampNeg v) (by
    show _ = Sum.inl (g.1 1, 60, Sum.inl _)
    refine congrArg (fun z => Sum.inl (g.1 1, 60, Sum.inl z)) ?_
    funext j
    simp [cz_mI, upd]) (fun x kd hx => cz_cel_I hx)] at q1
  exact q1
theorem cz_in_nat {i : Int32} {n : Nat} (h : cz_ib i n = true) : i.toNatClampNeg < n := cz_ib_lt h
theorem cz_aald {kd n t0 kc : Nat} {cN : String} {δ : Nat → Nat} (X : cz_X p s m args meth c cc nL own g b rt) (hM : cz_WS g b M s H locs) {i : Int32} {K : Option α} (h : cz_gd (cz_ib i n) K = some res) (hk : cz_K b a kd) (he : cz_cel g.1 a kd M = .inl (g.1 t0, n, .inr (.inr (.inr (.inr (fun j => some (a + δ j))))))) (ht0 : (cz_tys g.1)[t0]? = some (g.1 t0, .object cN)) (hch : ∀ o, o < 471 → cz_kd o = kd → ∀ j, j < n → o + δ j < 471 ∧ cz_kd (o + δ j) = kc) (hd : decode cc pc = .ok (.aaload, 1))
    (kk : K = some res → cz_K b (a + δ i.toNatClampNeg) kc → W p l e R s m args below meth c H locs 0 0 Q (F0 m (pc + 1) ls (.ref (a + δ i.toNatClampNeg) :: rest))) : W p l e R s m args below meth c H locs 0 0 Q (F0 m pc ls (.int i :: .ref a :: rest)) := by
  obtain ⟨hi, hK⟩ := cz_gd_t h
  obtain ⟨hx, hb, -, ho, ht, hKK, -⟩ := X
  exact va_aldq (f := fun j => some (a + δ j)) hx hb hKK hM.1 (a - b) t0 (by rw [cz_wl_get hk, he]) ht0 (cz_ib_in hi) hd (kk hK (cz_K_ch hk (fun o h1 h2 => hch o h1 h2 _ (cz_ib_lt hi))))
theorem cz_ch0 : ∀ o, o < 471 → cz_kd o = 10 → ∀ j, j < 4 → o + (7 + j) < 471 ∧ cz_kd (o + (7 + j)) = 0 := by decide +kernel
theorem cz_ch1 : ∀ o, o < 471 → cz_kd o = 11 → ∀ j, j < 40 → o + (9 + j) < 471 ∧ cz_kd (o + (9 + j)) = 1 := by decide +kernel
theorem cz_ch2 : ∀ o, o < 471 → cz_kd o = 12 → ∀ j, j < 2 → o + (48 + 2 * j) < 471 ∧ cz_kd (o + (48 + 2 * j)) = 3 := by decide +kernel
theorem cz_ch4 : ∀ o, o < 471 → cz_kd o = 14 → ∀ j, j < 2 → o + (231 + 57 * j) < 471 ∧ cz_kd (o + (231 + 57 * j)) = 2 := by decide +kernel
theorem cz_aald0 (X : cz_X p s m args meth c cc nL own g b rt) (hM : cz_WS g b M s H locs) {i : Int32} {K : Option α} (h : cz_gd (cz_ib i 4) K = some res) (hk : cz_K b a 10) (hd : decode cc pc = .ok (.aaload, 1))
    (kk : K = some res → cz_K b (a + (7 + i.toNatClampNeg)) 0 → W p l e R s m args below meth c H locs 0 0 Q (F0 m (pc + 1) ls (.ref (a + (7 + i.toNatClampNeg)) :: rest))) : W p l e R s m args below meth c H locs 0 0 Q (F0 m pc ls (.int i :: .ref a :: rest)) :=
  cz_aald (δ := fun j => 7 + j) (t0 := 3) (cN := RX0) X hM h hk (by simp only [cz_cel]; simp [Nat.add_assoc]) rfl cz_ch0 hd kk
theorem cz_aald1 (X : cz_X p s m args meth c cc nL own g b rt) (hM : cz_WS g b M s H locs) {i : Int32} {K : Option α} (h : cz_gd (cz_ib i 40) K = some res) (hk : cz_K b a 11) (hd : decode cc pc = .ok (.aaload, 1))
    (kk : K = some res → cz_K b (a + (9 + i.toNatClampNeg)) 1 → W p l e R s m args below meth c H locs 0 0 Q (F0 m (pc + 1) ls (.ref (a + (9 + i.toNatClampNeg)) :: rest))) : W p l e R s m args below meth c H locs 0 0 Q (F0 m pc ls (.int i :: .ref a :: rest)) :=
  cz_aald (δ := fun j => 9 + j) (t0 := 4) (cN := RX1) X hM h hk (by simp only [cz_cel]; simp [Nat.add_assoc]) rfl cz_ch1 hd kk
theorem cz_aald2 (X : cz_X p s m args meth c cc nL own g b rt) (hM : cz_WS g b M s H locs) {i : Int32} {K : Option α} (h : cz_gd (cz_ib i 2) K = some res) (hk : cz_K b a 12) (hd : decode cc pc = .ok (.aaload, 1))
    (kk : K = some res → cz_K b (a + (48 + 2 * i.toNatClampNeg)) 3 → W p l e R s m args below meth c H locs 0 0 Q (F0 m (pc + 1) ls (.ref (a + (48 + 2 * i.toNatClampNeg)) :: rest))) : W p l e R s m args below meth c H locs 0 0 Q (F0 m pc ls (.int i :: .ref a :: rest)) :=
  cz_aald (δ := fun j => 48 + 2 * j) (t0 := 5) (cN := RX3) X hM h hk (by simp only [cz_cel]; simp [Nat.add_assoc]) rfl cz_ch2 hd kk
theorem cz_aald4 (X : cz_X p s m args meth c cc nL own g b rt) (hM : cz_WS g b M s H locs) {i : Int32} {K : Option α} (h : cz_gd (cz_ib i 2) K = some res) (hk : cz_K b a 14) (hd : decode cc pc = .ok (.aaload, 1))
    (kk : K = some res → cz_K b (a + (231 + 57 * i.toNatClampNeg)) 2 → W p l e R s m args below meth c H locs 0 0 Q (F0 m (pc + 1) ls (.ref (a + (231 + 57 * i.toNatClampNeg)) :: rest))) : W p l e R s m args below meth c H locs 0 0 Q (F0 m pc ls (.int i :: .ref a :: rest)) :=
  cz_aald (δ := fun j => 231 + 57 * j) (t0 := 6) (cN := RX2) X hM h hk (by simp only [cz_cel]; simp [Nat.add_assoc]) rfl cz_ch4 hd kk
theorem cz_aald3 (X : cz_X p s m args meth c cc nL own g b rt) (hM : cz_WS g b M s H locs) {i : Int32} {K : Option α} (h : cz_gd (cz_ib i 4) K = some res) (hk : cz_K b a 13) (hd : decode cc pc = .ok (.aaload, 1))
    (kk : K = some res → cz_K b (M.2.2 i.toNatClampNeg) 2 → W p l e R s m args below meth c H locs 0 0 Q (F0 m (pc + 1) ls (.ref (M.2.2 i.toNatClampNeg) :: rest))) : W p l e R s m args below meth c H locs 0 0 Q (F0 m pc ls (.int i :: .ref a :: rest)) := by
  obtain ⟨hi, hK⟩ := cz_gd_t h
  obtain ⟨hx, hb, -, ho, ht, hKK, -⟩ := X
  exact va_aldq (f := fun j => some (M.2.2 j)) (C := RX2) hx hb hKK hM.1 (a - b) 6 (by rw [cz_wl_get hk]; rfl) rfl (cz_ib_in hi) hd (kk hK (hM.2.1 _ (cz_ib_lt hi)))
/-- the one cell of kind 13 -/
theorem cz_one13 : ∀ o, o < 471 → cz_kd o = 13 → o = 115 := by decide +kernel
theorem cz_wl_setP {y : Nat → ClassId} {b a : Nat} {M M' : cz_M} {e : va_E} (h : cz_K b a 13) (he : e = cz_cel y a 13 M') (ho : ∀ x kd, kd ≠ 13 → cz_cel y x kd M' = cz_cel y x kd M) : (cz_wl y b M).set (a - b) (a, e) = cz_wl y b M' := by
  subst he
  obtain ⟨h1, h2, h3⟩ := h
  have h4 := cz_one13 (a - b) (by omega) h3
  apply List.ext_getElem?
  intro i
  by_cases hi : i < 471
  · by_cases hia : i = a - b
    · subst hia
      rw [List.getElem?_set_self (by rw [cz_wl_len]; exact hi), cz_wl_at y b M' hi, show b + (a - b) = a by omega, h3]
    · rw [List.getElem?_set_ne (Ne.symm hia), cz_wl_at y b M hi, cz_wl_at y b M' hi, ho (b + i) (cz_kd i) (fun q => hia (by rw [h4]; exact cz_one13 i hi q))]
  · rw [List.getElem?_eq_none (by rw [List.length_set, cz_wl_len]; omega), List.getElem?_eq_none (by rw [cz_wl_len]; omega)]
theorem cz_aast {w : Nat} (X : cz_X p s m args meth c cc nL own g b rt) (hM : cz_WS g b M s H locs) {i : Int32} {K : cz_M → Option α} (h : cz_gd (cz_ib i 4) (cz_lt (cz_mP M i.toNatClampNeg w) K) = some res) (hk : cz_K b a 13) (hw : cz_K b w 2) (hd : decode cc pc = .ok (.aastore, 1))
    (kk : ∀ (M : cz_M) (H : Heap) (locs : List Loc), K M = some res → cz_WS g b M s H locs → W p l e R s m args below meth c H locs 0 0 Q (F0 m (pc + 1) ls rest)) : W p l e R s m args below meth c H locs 0 0 Q (F0 m pc ls (.ref w :: .int i :: .ref a :: rest)) := by
  obtain ⟨hi, hK⟩ := cz_gd_t h
  obtain ⟨hx, hb, -, ho, ht, hKK, -⟩ := X
  refine va_astq (r := (RX2, TX2, 9)) hx hb hKK hM.1 (cz_wl_D g.1 b M) hM.2.2 (a - b) 6 (w - b) 2 (n := 4) (f := fun j => some (M.2.2 j)) (by rw [cz_wl_get hk]; rfl) rfl (by rw [cz_wl_get hw, cz_cel_obj (by decide)]) rfl (cz_ib_in hi) hd (fun H1 locs1 q1 q2 q3 => ?_)
  refine kk _ H1 locs1 hK ⟨?_, ?_, q3⟩
  · rw [cz_wl_setP hk (M' := cz_mP M i.toNatClampNeg w) (by
      show _ = Sum.inl (g.1 6, 4, Sum.inr (Sum.inr (Sum.inr (Sum.inr _))))
      refine congrArg (fun z => Sum.inl (g.1 6, 4, Sum.inr (Sum.inr (Sum.inr (Sum.inr z))))) ?_
      funext j
      by_cases hj : j = i.toNatClampNeg <;> simp [cz_mP, va_up, hj]) (fun x kd hx => cz_cel_P hx)] at q1
    exact q1
  · intro j hj
    by_cases hji : j = i.toNatClampNeg
    · show cz_K b (if j = i.toNatClampNeg then w else M.2.2 j) 2
      rw [if_pos hji]; exact hw
    · show cz_K b (if j = i.toNatClampNeg then w else M.2.2 j) 2
      rw [if_neg hji]; exact hM.2.1 j hj
theorem cz_alen {n : Nat} {v : Int32} (X : cz_X p s m args meth c cc nL own g b rt) (hM : cz_WS g b M s H locs) (hk : cz_K b a (n + 100)) (hn : n < 4900) (hv : Int32.ofNat n = v) (hd : decode cc pc = .ok (.arraylength, 1))
    (kk : W p l e R s m args below meth c H locs 0 0 Q (F0 m (pc + 1) ls (.int v :: rest))) : W p l e R s m args below meth c H locs 0 0 Q (F0 m pc ls (.ref a :: rest)) := by
  obtain ⟨hx, hb, -, ho, ht, hKK, -⟩ := X
  exact va_alen hx hb hKK hM.1 (a - b) 0 (x := (n, .inl (M.1 a))) (by rw [cz_wl_get hk, cz_cel_int hn]) (ty := .int) rfl hv hd kk
theorem cz_copy {n0 n1 a0 idx : Nat} {sp dp n : Int32} (X : cz_X p s m args meth c cc nL own g b rt) (hM : cz_WS g b M s H locs) (hls : ls.size = nL) {K : cz_M → Option α} (h : cz_gd (cz_cb sp dp n n0 n1) (cz_lt (cz_mA M a (va_cpy (M.1 a0) (M.1 a) sp.toNatClampNeg dp.toNatClampNeg n.toNatClampNeg)) K) = some res) (hk0 : cz_K b a0 (n0 + 100)) (hk1 : cz_K b a (n1 + 100)) (hn0 : n0 < 4900) (hn1 : n1 < 4900)
    (hl : Cond.methodLink own idx arraycopyName ∈ lw_gd) (hfr : 1 ≤ R.frames) (hlo : (rest.map fun v => v.category).sum + (nativeFrameWords "java/lang/System" "arraycopy" 5 + 11) ≤ R.locals) (hd : decode cc pc = .ok (.invokestatic idx, 3))
    (kk : ∀ (M : cz_M) (H : Heap) (locs : List Loc), K M = some res → cz_WS g b M s H locs → W p l e R s m args below meth c H locs 0 0 Q (F0 m (pc + 3) ls rest)) : W p l e R s m args below meth c H locs 0 0 Q (F0 m pc ls (.int n :: .int dp :: .ref a :: .int sp :: .ref a0 :: rest)) := by
  obtain ⟨hi, hK⟩ := cz_gd_t h
  simp only [cz_cb, Bool.and_eq_true, decide_eq_true_eq] at hi
  obtain ⟨i1, i2, i3, i4, i5⟩ := hi
  obtain ⟨hx, hb, hml, ho, ht, hKK, -⟩ := X
  refine va_copyi hx hb (hml.trans hls.symm) ho (ht _ hl) (ht _ mn_acopy) (ht _ mt_acopy) (ht _ ini_J10) hKK hM.1 (cz_wl_D g.1 b M) hM.2.2 (a0 - b) (a - b) 0 0 (by rw [cz_wl_get hk0, cz_cel_int hn0]) (by rw [cz_wl_get hk1, cz_cel_int hn1]) rfl rfl rfl i1 i2 i3 i4 i5 (fun _ _ => rfl) hfr hlo hd (fun H1 locs1 q1 q2 q3 => ?_)
  refine kk _ H1 locs1 hK ⟨?_, hM.2.1, q3⟩
  rw [cz_wl_set hk1 (M' := cz_mA M a (va_cpy (M.1 a0) (M.1 a) sp.toNatClampNeg dp.toNatClampNeg n.toNatClampNeg)) (by
    rw [cz_cel_int hn1]
    refine congrArg (fun z => Sum.inl (g.1 0, n1, Sum.inl z)) ?_
    funext j
    simp [cz_mA]) (fun x kd hx => cz_cel_A hx)] at q1
  exact q1
theorem cz_max {idx : Nat} {x y : Int32} (X : cz_X p s m args meth c cc nL own g b rt) (hls : ls.size = nL) (hl : Cond.methodLink own idx Lib.Math.max.name ∈ lw_gd) (hfr : 1 ≤ R.frames) (hlo : (rest.map fun v => v.category).sum + 13 ≤ R.locals) (hd : decode cc pc = .ok (.invokestatic idx, 3))
    (kk : W p l e R s m args below meth c H locs 0 0 Q (F0 m (pc + 3) ls (.int (if x < y then y else x) :: rest))) : W p l e R s m args below meth c H locs 0 0 Q (F0 m pc ls (.int y :: .int x :: rest)) := by
  obtain ⟨hx, hb, hml, ho, ht, -⟩ := X
  exact va_mmax hx hb (hml.trans hls.symm) ho (ht _ hl) (ht _ mt_max) (ht _ ini_J9) (ht _ mc_max) hfr hlo (Nat.zero_le _) (Nat.zero_le _) hd kk
theorem cz_stL {idx : Nat} (X : cz_X p s m args meth c cc nL own g b rt) (hM : cz_WS g b M s H locs) (hl : Cond.fieldLink own idx RX4 "LEAST_VALUES" "[I" ∈ lw_gd) (hd : decode cc pc = .ok (.getstatic idx, 3))
    (kk : ∀ t : Nat, va_T .int t 3 (fun j => .int (if j = 0 then 1 else if j = 1 then 0 else 1)) (fun q => b ≤ q) s s.heap → W p l e R s m args below meth c H locs 0 0 Q (F0 m (pc + 3) ls (.ref t :: rest))) : W p l e R s m args below meth c H locs 0 0 Q (F0 m pc ls rest) := by
  obtain ⟨hx, hb, hml, ho, ht, hKK, ⟨⟨t, h1, h2⟩, -⟩, -⟩ := X
  exact va_gets hx hb h1 hM.2.2 ho (ht _ hl) (fun _ h9 => h9) hd (kk t h2)
theorem cz_stM {idx : Nat} (X : cz_X p s m args meth c cc nL own g b rt) (hM : cz_WS g b M s H locs) (hl : Cond.fieldLink own idx RX4 "MOST_VALUES" "[I" ∈ lw_gd) (hd : decode cc pc = .ok (.getstatic idx, 3))
    (kk : ∀ t : Nat, va_T .int t 3 (fun j => .int (if j = 0 then 9 else if j = 1 then 8 else 5)) (fun q => b ≤ q) s s.heap → W p l e R s m args below meth c H locs 0 0 Q (F0 m (pc + 3) ls (.ref t :: rest))) : W p l e R s m args below meth c H locs 0 0 Q (F0 m pc ls rest) := by
  obtain ⟨hx, hb, hml, ho, ht, hKK, ⟨-, ⟨t, h1, h2⟩⟩, -⟩ := X
  exact va_gets hx hb h1 hM.2.2 ho (ht _ hl) (fun _ h9 => h9) hd (kk t h2)
theorem cz_stld {t : Nat} {f : Nat → Int32} (X : cz_X p s m args meth c cc nL own g b rt) (hM : cz_WS g b M s H locs) (hT : va_T .int t 3 (fun j => .int (f j)) (fun q => b ≤ q) s s.heap) {i : Int32} {K : Option α} (h : cz_gd (cz_ib i 3) K = some res) (hd : decode cc pc = .ok (.iaload, 1))
    (kk : K = some res → W p l e R s m args below meth c H locs 0 0 Q (F0 m (pc + 1) ls (.int (f i.toNatClampNeg) :: rest))) : W p l e R s m args below meth c H locs 0 0 Q (F0 m pc ls (.int i :: .ref t :: rest)) := by
  obtain ⟨hi, hK⟩ := cz_gd_t h
  obtain ⟨hx, hb, -⟩ := X
  exact va_ti hx hb hT hM.2.2 (cz_ib_in hi) (v := .int (f i.toNatClampNeg)) rfl hd (kk hK)
theorem cz_nmi {v : Int32} {K : Int32 → Option α} (h : cz_lt v K = some res) (kk : ∀ v : Int32, K v = some res → W p l e R s m args below meth c H locs 0 0 Q (F0 m pc ls (.int v :: rest))) : W p l e R s m args below meth c H locs 0 0 Q (F0 m pc ls (.int v :: rest)) := kk v h
theorem cz_nml {v : Int64} {K : Int64 → Option α} (h : cz_lt v K = some res) (kk : ∀ v : Int64, K v = some res → W p l e R s m args below meth c H locs 0 0 Q (F0 m pc ls (.long v :: rest))) : W p l e R s m args below meth c H locs 0 0 Q (F0 m pc ls (.long v :: rest)) := kk v h
theorem cz_nmr {v kc : Nat} {K : Nat → Option α} (h : cz_lt v K = some res) (hk : cz_K b v kc) (kk : ∀ v : Nat, K v = some res → cz_K b v kc → W p l e R s m args below meth c H locs 0 0 Q (F0 m pc ls (.ref v :: rest))) : W p l e R s m args below meth c H locs 0 0 Q (F0 m pc ls (.ref v :: rest)) := kk v h hk
/-! returns -/
theorem cz_reti {v r0 : Int32} {M0 : cz_M} {ty : FieldType} (X : cz_X p s m args meth c cc nL own g b (some ty)) (hM : cz_WS g b M s H locs) (h : some (v, M) = some (r0, M0)) (hn : narrow ty (.int v) = .int v) (hd : decode cc pc = .ok (.ireturn, 1)) : W p l e R s m args below meth c H locs 0 0 (MQ below (cz_Q g b (some (.int r0)) M0) args s 0 0 (fun q => b ≤ q)) (F0 m pc ls [.int v]) := by
  cases h
  obtain ⟨hx, hb, hml, ho, ht, hKK, hst, hr, hlk⟩ := X
  exact W.zret hx hb hr hn (fun t ht hW => ⟨⟨rfl, va_K.moved hW.alike hKK, by rw [ht]; exact hM.1, hM.2.1, hst.go hW.alike (by rw [ht]; exact hM.2.2.2.1)⟩, hM.2.2.F ht⟩) hM.2.2.2.2 hd hlk
theorem cz_retp {v r0 : Int32} {ty : FieldType} (X : cz_X p s m args meth c cc nL own g b (some ty)) (hM : cz_WS g b M s H locs) (h : some v = some r0) (hn : narrow ty (.int v) = .int v) (hd : decode cc pc = .ok (.ireturn, 1)) : W p l e R s m args below meth c H locs 0 0 (MQ below (cz_Q g b (some (.int r0)) M) args s 0 0 (fun q => b ≤ q)) (F0 m pc ls [.int v]) := by
  cases h
  exact cz_reti X hM rfl hn hd
theorem cz_zbn {v : Int32} (h : cz_zb v = true) : narrow .boolean (.int v) = .int v := by
  simp only [cz_zb, decide_eq_true_eq] at h
  rcases h with rfl | rfl <;> rfl
theorem cz_retz {v r0 : Int32} (X : cz_X p s m args meth c cc nL own g b (some .boolean)) (hM : cz_WS g b M s H locs) (h : cz_gd (cz_zb v) (some v) = some r0) (hd : decode cc pc = .ok (.ireturn, 1)) : W p l e R s m args below meth c H locs 0 0 (MQ below (cz_Q g b (some (.int r0)) M) args s 0 0 (fun q => b ≤ q)) (F0 m pc ls [.int v]) := by
  obtain ⟨h1, h2⟩ := cz_gd_t h
  exact cz_retp X hM h2 (cz_zbn h1) hd
theorem cz_retzM {v r0 : Int32} {M0 : cz_M} (X : cz_X p s m args meth c cc nL own g b (some .boolean)) (hM : cz_WS g b M s H locs) (h : cz_gd (cz_zb v) (some (v, M)) = some (r0, M0)) (hd : decode cc pc = .ok (.ireturn, 1)) : W p l e R s m args below meth c H locs 0 0 (MQ below (cz_Q g b (some (.int r0)) M0) args s 0 0 (fun q => b ≤ q)) (F0 m pc ls [.int v]) := by
  obtain ⟨h1, h2⟩ := cz_gd_t h
  exact cz_reti X hM h2 (cz_zbn h1) hd
theorem cz_retv {M0 : cz_M} (X : cz_X p s m args meth c cc nL own g b none) (hM : cz_WS g b M s H locs) (h : some M = some M0) (hd : decode cc pc = .ok (.return_, 1)) : W p l e R s m args below meth c H locs 0 0 (MQ below (cz_Q g b none M0) args s 0 0 (fun q => b ≤ q)) (F0 m pc ls []) := by
  cases h
  obtain ⟨hx, hb, hml, ho, ht, hKK, hst, hr, hlk⟩ := X
  exact W.vret hx hb hr (fun t ht hW => ⟨⟨rfl, va_K.moved hW.alike hKK, by rw [ht]; exact hM.1, hM.2.1, hst.go hW.alike (by rw [ht]; exact hM.2.2.2.1)⟩, hM.2.2.F ht⟩) hM.2.2.2.2 hd hlk
/-- a reference, or null, is the answer -/
theorem cz_retq {v r0 : Option Nat} {M0 : cz_M} {cN : String} (X : cz_X p s m args meth c cc nL own g b (some (.object cN))) (hM : cz_WS g b M s H locs) (h : some (v, M) = some (r0, M0)) (hd : decode cc pc = .ok (.areturn, 1)) : W p l e R s m args below meth c H locs 0 0 (MQ below (cz_Q g b (some (va_rf r0)) M0) args s 0 0 (fun q => b ≤ q)) (F0 m pc ls [va_rf v]) := by
  cases h
  obtain ⟨hx, hb, hml, ho, ht, hKK, hst, hr, hlk⟩ := X
  exact W.aret hx hb hr (Or.inl ⟨_, rfl⟩) (va_rf_or _) (fun t ht hW => ⟨⟨rfl, va_K.moved hW.alike hKK, by rw [ht]; exact hM.1, hM.2.1, hst.go hW.alike (by rw [ht]; exact hM.2.2.2.1)⟩, hM.2.2.F ht⟩) hM.2.2.2.2 hd hlk
/-! calls -/
theorem cz_blind {av : List Value} : FrameBlind (va_Pc av (fun U => cz_WW g b M U)) := fun a U gg mk q => ⟨q.1, va_K.moved (u := U) (U := U.calling gg mk a) (Vm.Alike.refl U.vm) q.2.1, q.2.2.1, q.2.2.2.1, cz_ST.go q.2.2.2.2 (Vm.Alike.refl U.vm) (fun _ _ _ => rfl)⟩
theorem cz_pre (X : cz_X p s m args meth c cc nL own g b rt) (hM : cz_WS g b M s H locs) (U : State) (hU : U.heap = H) (hW : s.WarmedH U.vm) : cz_WW g b M U := by
  obtain ⟨hx, hb, hml, ho, ht, hKK, hst, hr, hlk⟩ := X
  exact ⟨va_K.moved hW.alike hKK, by rw [hU]; exact hM.1, hM.2.1, hst.go hW.alike (by rw [hU]; exact hM.2.2.2.1)⟩
theorem cz_back {v : Option Value} {M1 : cz_M} {st0 : List Value} {a0 : Array Value} (hr : va_Run p l e R s m args below meth c H locs 0 0 0 0 (F0 m pc ls st0) rest (cz_Q g b v M1 a0) (fun q => b ≤ q)) (hM : cz_WS g b M s H locs)
    (kk : ∀ (H1 : Heap) (locs1 : List Loc), cz_WS g b M1 s H1 locs1 → W p l e R s m args below meth c H1 locs1 0 0 Q (F0 m (pc + 3) ls (v.toList ++ rest))) : W p l e R s m args below meth c H locs 0 0 Q (F0 m pc ls st0) := by
  intro T hT X
  obtain ⟨v', st₀, t, T', L, h0, X', hL, e1, e2, ⟨⟨hv, hK1, hP1, hp1, -⟩, hz, hk⟩, st⟩ := hr T hT X
  cases hv
  rw [h0] at hz hk
  obtain ⟨hS1, hS2, hS3⟩ := hM.2.2
  obtain ⟨t2, a1, b1⟩ := kk T'.heap (locs ++ L) ⟨by rw [e1]; exact hP1, hp1, Nat.le_trans hS1 (by rw [e1]; exact hz), fun q h1 h2 => by rw [e1, hk q (Nat.lt_of_lt_of_le h1 hS1) h2]; exact hS2 q h1 h2, fun q hq => by
      rcases List.mem_append.mp hq with h | h
      · exact hS3 q h
      · exact hL q h⟩ T' rfl X'
  exact ⟨t2, st t2 a1, b1⟩
def cz_MV (y : MethodName) (cc : ByteArray) (maxL : Nat) (ret : Option FieldType) (C : String) (n : Nat) : Prop := Cond.instanceMethod y ∈ lw_gd ∧ Cond.selects C y y ∈ lw_gd ∧ Cond.code y cc maxL ret ∈ lw_gd ∧ Cond.initialized C ∈ lw_gd ∧ (y.cls = C ∧ y.cls ≠ "java/lang/invoke/MethodHandle" ∧ y.cls ≠ "java/lang/invoke/VarHandle" ∧ (parseMethodDescriptor y.desc).map (fun d => d.parameters.length) = some n)
def cz_MS (y : MethodName) (cc : ByteArray) (maxL : Nat) (ret : Option FieldType) (n : Nat) : Prop := Cond.static y ∈ lw_gd ∧ Cond.code y cc maxL ret ∈ lw_gd ∧ Cond.initialized y.cls ∈ lw_gd ∧ (y.cls ≠ "java/lang/invoke/MethodHandle" ∧ y.cls ≠ "java/lang/invoke/VarHandle" ∧ (parseMethodDescriptor y.desc).map (fun d => d.parameters.length) = some n)
theorem cz_inV {y : MethodName} {cc' : ByteArray} {maxL n idx : Nat} {ret : Option FieldType} {C : String} (hy : cz_MV y cc' maxL ret C n) (hl : Cond.methodLink own idx y ∈ lw_gd) : GoodIn lw_gd (wsV own idx C y (Cond.code y cc' maxL ret :: lw_gd)) := by
  obtain ⟨h1, h2, h3, h4, -⟩ := hy
  intro w hw
  have hw : w ∈ lw_gd := by
    simp only [wsV, List.cons_append, List.nil_append, List.mem_cons] at hw
    rcases hw with rfl | rfl | rfl | rfl | rfl | hw
    · exact hl
    · exact h1
    · exact h2
    · exact h4
    · exact h3
    · exact hw
  exact ⟨hw, good_of_word (gd_good hw)⟩
theorem cz_inS {y : MethodName} {cc' : ByteArray} {maxL n idx : Nat} {ret : Option FieldType} (hy : cz_MS y cc' maxL ret n) (hl : Cond.methodLink own idx y ∈ lw_gd) : GoodIn lw_gd (va_wsS own idx y (Cond.code y cc' maxL ret :: lw_gd)) := by
  obtain ⟨h1, h2, h3, -⟩ := hy
  intro w hw
  have hw : w ∈ lw_gd := by
    simp only [va_wsS, List.cons_append, List.nil_append, List.mem_cons] at hw
    rcases hw with rfl | rfl | rfl | rfl | hw
    · exact hl
    · exact h1
    · exact h3
    · exact h2
    · exact hw
  exact ⟨hw, good_of_word (gd_good hw)⟩
/-- a virtual call: whatever the answer -/
theorem cz_runV {y : MethodName} {cc' : ByteArray} {maxL n idx F N ci : Nat} {ret : Option FieldType} {C : String} {T : u_T} {N0 : Nat} {v : Option Value} {M1 : cz_M} {As st0 : List Value} (X : cz_X p s m args meth c cc nL own g b rt) (hM : cz_WS g b M s H locs) (hls : ls.size = nL) (hC : cz_C l y cc' maxL ret F N g b (.ref a :: As) M v M1) (hy : cz_MV y cc' maxL ret C n) (hci : vwCl[ci]? = some (C, T, N0)) (hc6 : ci < 6) (hk : cz_K b a ci) (hl : Cond.methodLink own idx y ∈ lw_gd)
    (hR : F + 1 ≤ R.frames ∧ 8 + (maxL + 11) + N ≤ R.locals) (hn : As.length = n) (hst : st0 = As.reverse ++ .ref a :: rest) (hro : (rest.map fun v => v.category).sum ≤ 8) (hd : decode cc pc = .ok (.invokevirtual idx, 3))
    (kk : ∀ (H1 : Heap) (locs1 : List Loc), cz_WS g b M1 s H1 locs1 → W p l e R s m args below meth c H1 locs1 0 0 Q (F0 m (pc + 3) ls (v.toList ++ rest))) : W p l e R s m args below meth c H locs 0 0 Q (F0 m pc ls st0) := by
  have X0 := X
  obtain ⟨hx, hb, hml, ho, ht, hKK, -⟩ := X
  exact cz_back (va_runV (As := As) (rest := rest) ⟨hx, hb, hml, ho, ht⟩ hC (cwV n ht (cz_inV hy hl) rfl rfl rfl hy.2.2.2.2 hR) ⟨cz_blind, va_recv hKK hM.1 hci (q0 := a - b) (by rw [cz_wl_get hk, cz_cel_obj hc6]), fun U hU hW => ⟨rfl, cz_pre X0 hM U hU hW⟩⟩ rfl hn hls hst (lv_room hro) hd ⟨Nat.zero_le _, Nat.zero_le _⟩) hM kk
theorem cz_runS {y : MethodName} {cc' : ByteArray} {maxL n idx F N : Nat} {ret : Option FieldType} {v : Option Value} {M1 : cz_M} {As st0 : List Value} (X : cz_X p s m args meth c cc nL own g b rt) (hM : cz_WS g b M s H locs) (hls : ls.size = nL) (hC : cz_C l y cc' maxL ret F N g b As M v M1) (hy : cz_MS y cc' maxL ret n) (hl : Cond.methodLink own idx y ∈ lw_gd)
    (hR : F + 1 ≤ R.frames ∧ 8 + (maxL + 11) + N ≤ R.locals) (hn : As.length = n) (hst : st0 = As.reverse ++ rest) (hro : (rest.map fun v => v.category).sum ≤ 8) (hd : decode cc pc = .ok (.invokestatic idx, 3))
    (kk : ∀ (H1 : Heap) (locs1 : List Loc), cz_WS g b M1 s H1 locs1 → W p l e R s m args below meth c H1 locs1 0 0 Q (F0 m (pc + 3) ls (v.toList ++ rest))) : W p l e R s m args below meth c H locs 0 0 Q (F0 m pc ls st0) := by
  have X0 := X
  obtain ⟨hx, hb, hml, ho, ht, hKK, -⟩ := X
  exact cz_back (va_runS (As := As) (rest := rest) ⟨hx, hb, hml, ho, ht⟩ hC (va_cwS n ht (cz_inS hy hl) rfl rfl rfl hy.2.2.2 hR) ⟨cz_blind, fun U hU hW => ⟨rfl, cz_pre X0 hM U hU hW⟩⟩ rfl hn hls hst (lv_room hro) hd ⟨Nat.zero_le _, Nat.zero_le _⟩) hM kk
theorem cz_astq {r : Option Nat} {k : Fin 4} {i : Nat} {lv lv' : List (Nat × Value)} (hexec : p.tables.exec = Jvm.exec) (hb : c.code = cc) (hdg : decode cc pc = .ok (.astore_n k, 1)) (hi : (k : Nat) = i) (h : lv_has ls nL lv) (hn : i < nL) (hl : (i, va_rf r) :: lv.filter (fun q => !(q.1 == i) && !(q.1 + 1 == i && q.2.category == 2)) = lv')
    (kk : ∀ ls' : Array Slot, lv_has ls' nL lv' → W p l e R s m args below meth c H locs 0 0 Q (F0 m (pc + 1) ls' rest)) : W p l e R s m args below meth c H locs 0 0 Q (F0 m pc ls (va_rf r :: rest)) := by
  cases r with
  | none => exact lv_astore_nN hexec hb hdg hi h hn hl kk
  | some x => exact lv_astore_n hexec hb hdg hi h hn hl kk
end CZ
theorem cz_nmL {α : Type} {res : α} {P : Prop} {v : Int32} {K : Int32 → Option α} (h : cz_lt v K = some res) (kk : ∀ y : Int32, y = v → K y = some res → P) : P := kk v rfl h
def cz_b2 {α β γ : Type} (o : Option (β × γ)) (k : β → γ → Option α) : Option α := o.bind fun z => k z.1 z.2
theorem cz_b2_t {α β γ : Type} {o : Option (β × γ)} {k : β → γ → Option α} {r : α} (h : cz_b2 o k = some r) : ∃ x y, o = some (x, y) ∧ k x y = some r := by
  cases o with
  | none => cases h
  | some v => exact ⟨v.1, v.2, rfl, h⟩
abbrev cz_on {α : Type} (o : Option Nat) (x : Option α) (f : Nat → Option α) : Option α := match o with
  | none => x
  | some q => f q
def cz_kb (b a k : Nat) : Bool := decide (b ≤ a) && (decide (a < b + 471) && decide (cz_kd (a - b) = k))
theorem cz_kb_t {b a x k : Nat} (hb : b = a) (h : cz_kb a x k = true) : cz_K b x k := by
  subst hb
  simpa [cz_kb, cz_K] using h
theorem cz_one4 : ∀ o, o < 471 → cz_kd o = 4 → o = 0 := by decide +kernel
theorem cz_base {b a : Nat} (h : cz_K b a 4) : b = a := by
  obtain ⟨h1, h2, h3⟩ := h
  have := cz_one4 (a - b) (by omega) h3
  omega
def cz_us (x y : Int32) : Int32 := (x.toUInt32 >>> (y.toUInt32 &&& Int32.toUInt32 31)).toInt32
def cz_usl (x : Int64) (y : Int32) : Int64 := (x.toUInt64 >>> (y.toInt64.toUInt64 &&& Int64.toUInt64 63)).toInt64
def cz_sl (x : Int64) (y : Int32) : Int64 := x <<< (y.toInt64 &&& 63)
def cz_chr (x : Int32) : Int32 := (x.toUInt32 % 65536).toInt32
def cz_tL (j : Nat) : Int32 := if j = 0 then 1 else if j = 1 then 0 else 1
def cz_tM (j : Nat) : Int32 := if j = 0 then 9 else if j = 1 then 8 else 5
def cz_it1 {A R : Type} (F : (A → Option R) → A → Option R) : Nat → A → Option R
  | 0 => fun _ => none
  | n + 1 => F (cz_it1 F n)
def cz_it2 {A B R : Type} (F : (A → B → Option R) → A → B → Option R) : Nat → A → B → Option R
  | 0 => fun _ _ => none
  | n + 1 => F (cz_it2 F n)
def cz_it3 {A B C R : Type} (F : (A → B → C → Option R) → A → B → C → Option R) : Nat → A → B → C → Option R
  | 0 => fun _ _ _ => none
  | n + 1 => F (cz_it3 F n)
def cz_it4 {A B C D R : Type} (F : (A → B → C → D → Option R) → A → B → C → D → Option R) : Nat → A → B → C → D → Option R
  | 0 => fun _ _ _ _ => none
  | n + 1 => F (cz_it4 F n)
def cz_it5 {A B C D E R : Type} (F : (A → B → C → D → E → Option R) → A → B → C → D → E → Option R) : Nat → A → B → C → D → E → Option R
  | 0 => fun _ _ _ _ _ => none
  | n + 1 => F (cz_it5 F n)
end
section
theorem ff_X0_0 : cz_fI 0 0 RX0 TX0 4 := ⟨rfl, by decide, by decide, inX0, rfl, rfl, by decide +kernel, fun _ _ => rfl, fun a M v => by simp [cz_fs, cz_mI], fun _ _ => by simp [cz_fs], ⟨tyX0, tyX0_ok⟩, nmX0⟩
theorem ff_X0_1 : cz_fI 0 1 RX0 TX0 4 := ⟨rfl, by decide, by decide, inX0, rfl, rfl, by decide +kernel, fun _ _ => rfl, fun a M v => by simp [cz_fs, cz_mI], fun _ _ => by simp [cz_fs], ⟨tyX0, tyX0_ok⟩, nmX0⟩
theorem ff_X0_2 : cz_fI 0 2 RX0 TX0 4 := ⟨rfl, by decide, by decide, inX0, rfl, rfl, by decide +kernel, fun _ _ => rfl, fun a M v => by simp [cz_fs, cz_mI], fun _ _ => by simp [cz_fs], ⟨tyX0, tyX0_ok⟩, nmX0⟩
theorem ff_X0_3 : cz_fI 0 3 RX0 TX0 4 := ⟨rfl, by decide, by decide, inX0, rfl, rfl, by decide +kernel, fun _ _ => rfl, fun a M v => by simp [cz_fs, cz_mI], fun _ _ => by simp [cz_fs], ⟨tyX0, tyX0_ok⟩, nmX0⟩
theorem ff_X1_0 : cz_fI 1 0 RX1 TX1 11 := ⟨rfl, by decide, by decide, inX1, rfl, rfl, by decide +kernel, fun _ _ => rfl, fun a M v => by simp [cz_fs, cz_mI], fun _ _ => by simp [cz_fs], ⟨tyX1, tyX1_ok⟩, nmX1⟩
theorem ff_X1_1 : cz_fI 1 1 RX1 TX1 11 := ⟨rfl, by decide, by decide, inX1, rfl, rfl, by decide +kernel, fun _ _ => rfl, fun a M v => by simp [cz_fs, cz_mI], fun _ _ => by simp [cz_fs], ⟨tyX1, tyX1_ok⟩, nmX1⟩
theorem ff_X1_2 : cz_fL RX1 TX1 11 := ⟨rfl, by decide, inX1, rfl, rfl, by decide +kernel, ⟨tyX1, tyX1_ok⟩, nmX1⟩
theorem ff_X1_3 : cz_fI 1 3 RX1 TX1 11 := ⟨rfl, by decide, by decide, inX1, rfl, rfl, by decide +kernel, fun _ _ => rfl, fun a M v => by simp [cz_fs, cz_mI], fun _ _ => by simp [cz_fs], ⟨tyX1, tyX1_ok⟩, nmX1⟩
theorem ff_X1_4 : cz_fI 1 4 RX1 TX1 11 := ⟨rfl, by decide, by decide, inX1, rfl, rfl, by decide +kernel, fun _ _ => rfl, fun a M v => by simp [cz_fs, cz_mI], fun _ _ => by simp [cz_fs], ⟨tyX1, tyX1_ok⟩, nmX1⟩
theorem ff_X1_5 : cz_fI 1 5 RX1 TX1 11 := ⟨rfl, by decide, by decide, inX1, rfl, rfl, by decide +kernel, fun _ _ => rfl, fun a M v => by simp [cz_fs, cz_mI], fun _ _ => by simp [cz_fs], ⟨tyX1, tyX1_ok⟩, nmX1⟩
theorem ff_X1_6 : cz_fI 1 6 RX1 TX1 11 := ⟨rfl, by decide, by decide, inX1, rfl, rfl, by decide +kernel, fun _ _ => rfl, fun a M v => by simp [cz_fs, cz_mI], fun _ _ => by simp [cz_fs], ⟨tyX1, tyX1_ok⟩, nmX1⟩
theorem ff_X1_7 : cz_fI 1 7 RX1 TX1 11 := ⟨rfl, by decide, by decide, inX1, rfl, rfl, by decide +kernel, fun _ _ => rfl, fun a M v => by simp [cz_fs, cz_mI], fun _ _ => by simp [cz_fs], ⟨tyX1, tyX1_ok⟩, nmX1⟩
theorem ff_X1_8 : cz_fI 1 8 RX1 TX1 11 := ⟨rfl, by decide, by decide, inX1, rfl, rfl, by decide +kernel, fun _ _ => rfl, fun a M v => by simp [cz_fs, cz_mI], fun _ _ => by simp [cz_fs], ⟨tyX1, tyX1_ok⟩, nmX1⟩
theorem ff_X1_9 : cz_fI 1 9 RX1 TX1 11 := ⟨rfl, by decide, by decide, inX1, rfl, rfl, by decide +kernel, fun _ _ => rfl, fun a M v => by simp [cz_fs, cz_mI], fun _ _ => by simp [cz_fs], ⟨tyX1, tyX1_ok⟩, nmX1⟩
theorem ff_X1_10 : cz_fI 1 10 RX1 TX1 11 := ⟨rfl, by decide, by decide, inX1, rfl, rfl, by decide +kernel, fun _ _ => rfl, fun a M v => by simp [cz_fs, cz_mI], fun _ _ => by simp [cz_fs], ⟨tyX1, tyX1_ok⟩, nmX1⟩
theorem ff_X2_0 : cz_fR 2 0 1 103 RX2 TX2 9 := ⟨rfl, by decide, by decide, inX2, rfl, fun _ _ => rfl, by decide +kernel⟩
theorem ff_X2_1 : cz_fR 2 1 2 10 RX2 TX2 9 := ⟨rfl, by decide, by decide, inX2, rfl, fun _ _ => rfl, by decide +kernel⟩
theorem ff_X2_2 : cz_fR 2 2 3 108 RX2 TX2 9 := ⟨rfl, by decide, by decide, inX2, rfl, fun _ _ => rfl, by decide +kernel⟩
theorem ff_X2_3 : cz_fR 2 3 4 11 RX2 TX2 9 := ⟨rfl, by decide, by decide, inX2, rfl, fun _ _ => rfl, by decide +kernel⟩
theorem ff_X2_4 : cz_fR 2 4 5 12 RX2 TX2 9 := ⟨rfl, by decide, by decide, inX2, rfl, fun _ _ => rfl, by decide +kernel⟩
theorem ff_X2_5 : cz_fR 2 5 6 3 RX2 TX2 9 := ⟨rfl, by decide, by decide, inX2, rfl, fun _ _ => rfl, by decide +kernel⟩
theorem ff_X2_6 : cz_fR 2 6 8 105 RX2 TX2 9 := ⟨rfl, by decide, by decide, inX2, rfl, fun _ _ => rfl, by decide +kernel⟩
theorem ff_X2_7 : cz_fI 2 7 RX2 TX2 9 := ⟨rfl, by decide, by decide, inX2, rfl, rfl, by decide +kernel, fun _ _ => rfl, fun a M v => by simp [cz_fs, cz_mI], fun _ _ => by simp [cz_fs], ⟨tyX2, tyX2_ok⟩, nmX2⟩
theorem ff_X2_8 : cz_fI 2 8 RX2 TX2 9 := ⟨rfl, by decide, by decide, inX2, rfl, rfl, by decide +kernel, fun _ _ => rfl, fun a M v => by simp [cz_fs, cz_mI], fun _ _ => by simp [cz_fs], ⟨tyX2, tyX2_ok⟩, nmX2⟩
theorem ff_X3_0 : cz_fR 3 0 1 140 RX3 TX3 2 := ⟨rfl, by decide, by decide, inX3, rfl, fun _ _ => rfl, by decide +kernel⟩
theorem ff_X3_1 : cz_fI 3 1 RX3 TX3 2 := ⟨rfl, by decide, by decide, inX3, rfl, rfl, by decide +kernel, fun _ _ => rfl, fun a M v => by simp [cz_fs, cz_mI], fun _ _ => by simp [cz_fs], ⟨tyX3, tyX3_ok⟩, nmX3⟩
theorem ff_X4_0 : cz_fR 4 0 1 2 RX4 TX4 8 := ⟨rfl, by decide, by decide, inX4, rfl, fun _ _ => rfl, by decide +kernel⟩
theorem ff_X4_1 : cz_fR 4 1 58 2 RX4 TX4 8 := ⟨rfl, by decide, by decide, inX4, rfl, fun _ _ => rfl, by decide +kernel⟩
theorem ff_X4_2 : cz_fR 4 2 115 13 RX4 TX4 8 := ⟨rfl, by decide, by decide, inX4, rfl, fun _ _ => rfl, by decide +kernel⟩
theorem ff_X4_3 : cz_fR 4 3 116 14 RX4 TX4 8 := ⟨rfl, by decide, by decide, inX4, rfl, fun _ _ => rfl, by decide +kernel⟩
theorem ff_X4_4 : cz_fR 4 4 117 5002 RX4 TX4 8 := ⟨rfl, by decide, by decide, inX4, rfl, fun _ _ => rfl, by decide +kernel⟩
theorem ff_X4_5 : cz_fR 4 5 118 7 RX4 TX4 8 := ⟨rfl, by decide, by decide, inX4, rfl, fun _ _ => rfl, by decide +kernel⟩
theorem ff_X4_6 : cz_fI 4 6 RX4 TX4 8 := ⟨rfl, by decide, by decide, inX4, rfl, rfl, by decide +kernel, fun _ _ => rfl, fun a M v => by simp [cz_fs, cz_mI], fun _ _ => by simp [cz_fs], ⟨tyX4, tyX4_ok⟩, nmX4⟩
theorem ff_X4_7 : cz_fI 4 7 RX4 TX4 8 := ⟨rfl, by decide, by decide, inX4, rfl, rfl, by decide +kernel, fun _ _ => rfl, fun a M v => by simp [cz_fs, cz_mI], fun _ _ => by simp [cz_fs], ⟨tyX4, tyX4_ok⟩, nmX4⟩
theorem ff_X5_0 : cz_fR 5 0 1 651 RX5 TX5 12 := ⟨rfl, by decide, by decide, inX5, rfl, fun _ _ => rfl, by decide +kernel⟩
theorem ff_X5_1 : cz_fR 5 1 2 651 RX5 TX5 12 := ⟨rfl, by decide, by decide, inX5, rfl, fun _ _ => rfl, by decide +kernel⟩
theorem ff_X5_2 : cz_fR 5 2 3 2304 RX5 TX5 12 := ⟨rfl, by decide, by decide, inX5, rfl, fun _ _ => rfl, by decide +kernel⟩
theorem ff_X5_3 : cz_fI 5 3 RX5 TX5 12 := ⟨rfl, by decide, by decide, inX5, rfl, rfl, by decide +kernel, fun _ _ => rfl, fun a M v => by simp [cz_fs, cz_mI], fun _ _ => by simp [cz_fs], ⟨tyX5, tyX5_ok⟩, nmX5⟩
theorem ff_X5_4 : cz_fR 5 4 4 1202 RX5 TX5 12 := ⟨rfl, by decide, by decide, inX5, rfl, fun _ _ => rfl, by decide +kernel⟩
theorem ff_X5_5 : cz_fR 5 5 5 5002 RX5 TX5 12 := ⟨rfl, by decide, by decide, inX5, rfl, fun _ _ => rfl, by decide +kernel⟩
theorem ff_X5_6 : cz_fR 5 6 6 160 RX5 TX5 12 := ⟨rfl, by decide, by decide, inX5, rfl, fun _ _ => rfl, by decide +kernel⟩
theorem ff_X5_7 : cz_fI 5 7 RX5 TX5 12 := ⟨rfl, by decide, by decide, inX5, rfl, rfl, by decide +kernel, fun _ _ => rfl, fun a M v => by simp [cz_fs, cz_mI], fun _ _ => by simp [cz_fs], ⟨tyX5, tyX5_ok⟩, nmX5⟩
theorem ff_X5_8 : cz_fR 5 8 7 5040 RX5 TX5 12 := ⟨rfl, by decide, by decide, inX5, rfl, fun _ _ => rfl, by decide +kernel⟩
theorem ff_X5_9 : cz_fR 5 9 8 5040 RX5 TX5 12 := ⟨rfl, by decide, by decide, inX5, rfl, fun _ _ => rfl, by decide +kernel⟩
theorem ff_X5_10 : cz_fR 5 10 9 140 RX5 TX5 12 := ⟨rfl, by decide, by decide, inX5, rfl, fun _ _ => rfl, by decide +kernel⟩
theorem ff_X5_11 : cz_fI 5 11 RX5 TX5 12 := ⟨rfl, by decide, by decide, inX5, rfl, rfl, by decide +kernel, fun _ _ => rfl, fun a M v => by simp [cz_fs, cz_mI], fun _ _ => by simp [cz_fs], ⟨tyX5, tyX5_ok⟩, nmX5⟩
def f_X0_copyFrom (M : cz_M) (a : Nat) (a1 : Nat) : Option (cz_M) :=
  cz_lt (cz_mI M a 0 (M.1 a1 0)) fun M1 => cz_lt (cz_mI M1 a 1 (M1.1 a1 1)) fun M2 => cz_lt (cz_mI M2 a 2 (M2.1 a1 2)) fun M3 => cz_lt (cz_mI M3 a 3 (M3.1 a1 3)) fun M4 => some M4
def f_X1_begin (M : cz_M) (a : Nat) (x1 : Int32) (x2 : Int32) : Option (cz_M) :=
  cz_lt (cz_mI M a 0 x1) fun M1 => cz_lt (cz_mI M1 a 1 (0 : Int32)) fun M2 => cz_lt (cz_mL M2 a (0 : Int64)) fun M3 => cz_lt (cz_mI M3 a 3 (0 : Int32)) fun M4 => cz_lt (cz_mI M4 a 4 x2) fun M5 => cz_lt (cz_mI M5 a 5 (0 : Int32)) fun M6 => cz_lt (cz_mI M6 a 6 (0 : Int32)) fun M7 => cz_lt (cz_mI M7 a 7 (0 : Int32)) fun M8 => cz_lt (cz_mI M8 a 8 (0 : Int32)) fun M9 => cz_lt (cz_mI M9 a 9 (-6 : Int32)) fun M10 => some M10
def f_X1_copyFrom (M : cz_M) (a : Nat) (a1 : Nat) : Option (cz_M) :=
  cz_lt (cz_mI M a 0 (M.1 a1 0)) fun M1 => cz_lt (cz_mI M1 a 1 (M1.1 a1 1)) fun M2 => cz_lt (cz_mL M2 a (M2.2.1 a1)) fun M3 => cz_lt (cz_mI M3 a 3 (M3.1 a1 3)) fun M4 => cz_lt (cz_mI M4 a 4 (M4.1 a1 4)) fun M5 => cz_lt (cz_mI M5 a 5 (M5.1 a1 5)) fun M6 => cz_lt (cz_mI M6 a 6 (M6.1 a1 6)) fun M7 => cz_lt (cz_mI M7 a 7 (M7.1 a1 7)) fun M8 => cz_lt (cz_mI M8 a 8 (M8.1 a1 8)) fun M9 => cz_lt (cz_mI M9 a 9 (M9.1 a1 9)) fun M10 => some M10
def f_X1_addWord (M : cz_M) (a : Nat) (x1 : Int32) : Option (cz_M) :=
  if (8 : Int32) ≤ (M.1 a 3) then (some M) else (cz_lt (cz_mL M a ((M.2.1 a) ||| (cz_sl (Int32.toInt64 x1) ((8 : Int32) * (M.1 a 3))))) fun M2 => cz_lt (cz_mI M2 a 3 ((M2.1 a 3) + (1 : Int32))) fun M3 => some M3)
def f_X1_codeAt (M : cz_M) (a : Nat) (x1 : Int32) : Option (Int32) :=
  some ((Int64.toInt32 (cz_usl (M.2.1 a) ((8 : Int32) * x1))) &&& (255 : Int32))
def f_X1_isStruckAt (M : cz_M) (a : Nat) (x1 : Int32) : Option (Int32) :=
  if ((cz_us (M.1 a 8) x1) &&& (1 : Int32)) = 0 then (some (0 : Int32)) else (some (1 : Int32))
def f_J6_bitCount_0f7a4 (x0 : Int32) : Option (Int32) :=
  cz_lt (x0 - ((cz_us x0 (1 : Int32)) &&& (1431655765 : Int32))) fun v1 => cz_lt ((v1 &&& (858993459 : Int32)) + ((cz_us v1 (2 : Int32)) &&& (858993459 : Int32))) fun v2 => cz_lt ((v2 + (cz_us v2 (4 : Int32))) &&& (252645135 : Int32)) fun v3 => cz_lt (v3 + (cz_us v3 (8 : Int32))) fun v4 => cz_lt (v4 + (cz_us v4 (16 : Int32))) fun v5 => some (v5 &&& (63 : Int32))
def f_X1_struckCount (M : cz_M) (a : Nat) : Option (Int32) :=
  (f_J6_bitCount_0f7a4 (M.1 a 8)).bind fun v1 => some v1
def f_X1_placesOf_L10 (a0 : Nat) (x1 : Int32) (M : cz_M) (K : Int32 → Int64 → Int32 → Option (Int32)) (rec : Int32 → Int64 → Int32 → Option (Int32)) (x2 : Int32) (x3 : Int64) (x5 : Int32) : Option (Int32) :=
  if (M.1 a0 3) ≤ x5 then (K x2 x3 x5) else (cz_lt ((Int64.toInt32 (x3 &&& (255 : Int64))) - (97 : Int32)) fun v3 => if ((cz_us x1 v3) &&& (1 : Int32)) = 0 then (cz_lt (cz_usl x3 (8 : Int32)) fun v5 => cz_lt (x5 + 1) fun v6 => rec x2 v5 v6) else (cz_lt (x2 ||| ((1 : Int32) <<< (x5 &&& 31))) fun v8 => cz_lt (cz_usl x3 (8 : Int32)) fun v9 => cz_lt (x5 + 1) fun v10 => rec v8 v9 v10))
def f_X1_placesOf (M : cz_M) (a : Nat) (x1 : Int32) : Option (Int32) :=
  cz_lt (M.2.1 a) fun v1 => cz_it3 (f_X1_placesOf_L10 a x1 M (fun x12 x13 x14 => some x12)) 4096 (0 : Int32) v1 (0 : Int32)
def f_X3_copyFrom (M : cz_M) (a : Nat) (a1 : Nat) : Option (cz_M) :=
  cz_lt (cz_mI M a 1 (M.1 a1 1)) fun M1 => cz_gd (cz_cb (0 : Int32) (0 : Int32) (M1.1 a 1) 40 40) (cz_lt (cz_mA M1 (a + 1) (va_cpy (M1.1 (a1 + 1)) (M1.1 (a + 1)) (Int32.toNatClampNeg (0 : Int32)) (Int32.toNatClampNeg (0 : Int32)) (Int32.toNatClampNeg (M1.1 a 1)))) fun M4 => some M4)
def f_X2_copyFrom_L31 (a0 : Nat) (a1 : Nat) (K : Int32 → cz_M → Option (cz_M)) (rec : Int32 → cz_M → Option (cz_M)) (x2 : Int32) (M : cz_M) : Option (cz_M) :=
  if (4 : Int32) ≤ x2 then (K x2 M) else (cz_gd (cz_ib x2 4) (cz_gd (cz_ib x2 4) ((f_X0_copyFrom M ((a0 + 2) + (7 + Int32.toNatClampNeg x2)) ((a1 + 2) + (7 + Int32.toNatClampNeg x2))).bind fun M12 => cz_lt (x2 + 1) fun v13 => rec v13 M12)))
def f_X2_copyFrom_L59 (a0 : Nat) (a1 : Nat) (K : Int32 → cz_M → Option (cz_M)) (rec : Int32 → cz_M → Option (cz_M)) (x2 : Int32) (M : cz_M) : Option (cz_M) :=
  if (M.1 a1 7) ≤ x2 then (K x2 M) else (cz_gd (cz_ib x2 40) (cz_gd (cz_ib x2 40) ((f_X1_copyFrom M ((a0 + 4) + (9 + Int32.toNatClampNeg x2)) ((a1 + 4) + (9 + Int32.toNatClampNeg x2))).bind fun M22 => cz_lt (x2 + 1) fun v23 => rec v23 M22)))
def f_X2_copyFrom_L90 (a0 : Nat) (a1 : Nat) (K : Int32 → cz_M → Option (cz_M)) (rec : Int32 → cz_M → Option (cz_M)) (x2 : Int32) (M : cz_M) : Option (cz_M) :=
  if (2 : Int32) ≤ x2 then (K x2 M) else (cz_gd (cz_ib x2 2) (cz_gd (cz_ib x2 2) ((f_X3_copyFrom M ((a0 + 5) + (48 + 2 * Int32.toNatClampNeg x2)) ((a1 + 5) + (48 + 2 * Int32.toNatClampNeg x2))).bind fun M32 => cz_lt (x2 + 1) fun v33 => rec v33 M32)))
def f_X2_copyFrom (M : cz_M) (a : Nat) (a1 : Nat) : Option (cz_M) :=
  cz_gd (cz_cb (0 : Int32) (0 : Int32) (3 : Int32) 3 3) (cz_lt (cz_mA M (a + 1) (va_cpy (M.1 (a1 + 1)) (M.1 (a + 1)) (Int32.toNatClampNeg (0 : Int32)) (Int32.toNatClampNeg (0 : Int32)) (Int32.toNatClampNeg (3 : Int32)))) fun M3 => cz_gd (cz_cb (0 : Int32) (0 : Int32) (8 : Int32) 8 8) (cz_lt (cz_mA M3 (a + 3) (va_cpy (M3.1 (a1 + 3)) (M3.1 (a + 3)) (Int32.toNatClampNeg (0 : Int32)) (Int32.toNatClampNeg (0 : Int32)) (Int32.toNatClampNeg (8 : Int32)))) fun M6 => cz_it2 (f_X2_copyFrom_L31 a a1 (fun x15 M16 => cz_it2 (f_X2_copyFrom_L59 a a1 (fun x25 M26 => cz_it2 (f_X2_copyFrom_L90 a a1 (fun x35 M36 => cz_lt (cz_mI M36 a 7 (M36.1 a1 7)) fun M37 => cz_lt (cz_mI M37 a 8 (M37.1 a1 8)) fun M38 => some M38)) 4096 (0 : Int32) M26)) 4096 (0 : Int32) M16)) 4096 (0 : Int32) M6))
def f_X2_hasLetter (M : cz_M) (a : Nat) (x1 : Int32) : Option (Int32) :=
  if x1 < 0 then (some (0 : Int32)) else (if (M.1 a 7) ≤ x1 then (some (0 : Int32)) else (some (1 : Int32)))
def f_X2_beginLetter (M : cz_M) (a : Nat) (x1 : Int32) : Option (Option Nat × cz_M) :=
  if (M.1 a 7) < (40 : Int32) then (cz_gd (cz_ib (M.1 a 7) 40) (cz_lt ((a + 4) + (9 + Int32.toNatClampNeg (M.1 a 7))) fun r4 => (f_X1_begin M r4 x1 (M.1 a 8)).bind fun M6 => cz_lt (cz_mI M6 a 7 ((M6.1 a 7) + (1 : Int32))) fun M7 => some ((some r4), M7))) else (some (none, M))
def f_X3_append (M : cz_M) (a : Nat) (x1 : Int32) : Option (cz_M) :=
  if (40 : Int32) ≤ (M.1 a 1) then (some M) else (cz_gd (cz_ib (M.1 a 1) 40) (cz_lt (cz_mI M (a + 1) (Int32.toNatClampNeg (M.1 a 1)) x1) fun M4 => cz_lt (cz_mI M4 a 1 ((M4.1 a 1) + (1 : Int32))) fun M5 => some M5))
def f_X2_sendNewest (M : cz_M) (a : Nat) (x1 : Int32) : Option (cz_M) :=
  if (M.1 a 7) ≤ 0 then (some M) else (cz_gd (cz_ib ((M.1 a 7) - (1 : Int32)) 40) (cz_lt (cz_mI M ((a + 4) + (9 + Int32.toNatClampNeg ((M.1 a 7) - (1 : Int32)))) 1 x1) fun M4 => cz_gd (cz_ib x1 2) ((f_X3_append M4 ((a + 5) + (48 + 2 * Int32.toNatClampNeg x1)) ((M4.1 a 7) - (1 : Int32))).bind fun M7 => some M7)))
def f_X3_takeOut_L4 (a0 : Nat) (x1 : Int32) (K : Int32 → Int32 → cz_M → Option (cz_M)) (rec : Int32 → Int32 → cz_M → Option (cz_M)) (x2 : Int32) (x3 : Int32) (M : cz_M) : Option (cz_M) :=
  if (M.1 a0 1) ≤ x3 then (K x2 x3 M) else (cz_gd (cz_ib x3 40) (if (M.1 (a0 + 1) (Int32.toNatClampNeg x3)) = x1 then (cz_lt (x3 + 1) fun v4 => rec x2 v4 M) else (cz_gd (cz_ib x3 40) (cz_gd (cz_ib x2 40) (cz_lt (cz_mI M (a0 + 1) (Int32.toNatClampNeg x2) (M.1 (a0 + 1) (Int32.toNatClampNeg x3))) fun M8 => cz_lt (x2 + 1) fun v9 => cz_lt (x3 + 1) fun v11 => rec v9 v11 M8)))))
def f_X3_takeOut (M : cz_M) (a : Nat) (x1 : Int32) : Option (cz_M) :=
  cz_it3 (f_X3_takeOut_L4 a x1 (fun x13 x14 M15 => cz_lt (cz_mI M15 a 1 x13) fun M16 => some M16)) 4096 (0 : Int32) (0 : Int32) M
def f_X2_burnWaiting (M : cz_M) (a : Nat) (x1 : Int32) : Option (cz_M) :=
  cz_gd (cz_ib x1 40) (cz_lt (cz_mI M ((a + 4) + (9 + Int32.toNatClampNeg x1)) 5 (2 : Int32)) fun M3 => cz_gd (cz_ib x1 40) (cz_gd (cz_ib (M3.1 ((a + 4) + (9 + Int32.toNatClampNeg x1)) 1) 2) ((f_X3_takeOut M3 ((a + 5) + (48 + 2 * Int32.toNatClampNeg (M3.1 ((a + 4) + (9 + Int32.toNatClampNeg x1)) 1))) x1).bind fun M8 => some M8)))
def f_X2_tradeShifts (M : cz_M) (a : Nat) (x1 : Int32) (x2 : Int32) : Option (cz_M) :=
  cz_gd (cz_ib x1 8) (cz_lt (M.1 (a + 3) (Int32.toNatClampNeg x1)) fun v2 => cz_gd (cz_ib x2 8) (cz_gd (cz_ib x1 8) (cz_lt (cz_mI M (a + 3) (Int32.toNatClampNeg x1) (M.1 (a + 3) (Int32.toNatClampNeg x2))) fun M5 => cz_gd (cz_ib x2 8) (cz_lt (cz_mI M5 (a + 3) (Int32.toNatClampNeg x2) v2) fun M7 => some M7))))
def f_X2_censorNumber (M : cz_M) (a : Nat) (x1 : Int32) (x2 : Int32) : Option (Int32) :=
  cz_gd (cz_ib (((2 : Int32) * (x1 - x1 / (4 : Int32) * (4 : Int32))) + x2) 8) (some (M.1 (a + 3) (Int32.toNatClampNeg (((2 : Int32) * (x1 - x1 / (4 : Int32) * (4 : Int32))) + x2))))
def f_X2_shiftsOf_L4 (a0 : Nat) (x1 : Int32) (M : cz_M) (K : Int32 → Int32 → Option (Int32)) (rec : Int32 → Int32 → Option (Int32)) (x2 : Int32) (x3 : Int32) : Option (Int32) :=
  if (8 : Int32) ≤ x3 then (K x2 x3) else (cz_gd (cz_ib x3 8) (if (M.1 (a0 + 3) (Int32.toNatClampNeg x3)) = x1 then (cz_lt (x2 + 1) fun v6 => cz_lt (x3 + 1) fun v8 => rec v6 v8) else (cz_lt (x3 + 1) fun v4 => rec x2 v4)))
def f_X2_shiftsOf (M : cz_M) (a : Nat) (x1 : Int32) : Option (Int32) :=
  cz_it2 (f_X2_shiftsOf_L4 a x1 M (fun x10 x11 => some x10)) 4096 (0 : Int32) (0 : Int32)
def f_X2_aheadOf_L4 (a0 : Nat) (x1 : Int32) (M : cz_M) (K : Int32 → Option (Int32)) (rec : Int32 → Option (Int32)) (x2 : Int32) : Option (Int32) :=
  if x2 < 0 then (K x2) else (cz_gd (cz_ib x2 40) (cz_gd (cz_ib x1 40) (if (M.1 ((a0 + 4) + (9 + Int32.toNatClampNeg x2)) 0) = (M.1 ((a0 + 4) + (9 + Int32.toNatClampNeg x1)) 0) then (some x2) else (cz_lt (x2 + (-1)) fun v8 => rec v8))))
def f_X2_aheadOf (M : cz_M) (a : Nat) (x1 : Int32) : Option (Int32) :=
  cz_lt (x1 - (1 : Int32)) fun v1 => cz_it1 (f_X2_aheadOf_L4 a x1 M (fun x10 => some (-6 : Int32))) 4096 v1
def f_X2_lettersThatAre_L4 (a0 : Nat) (x1 : Int32) (M : cz_M) (K : Int32 → Int32 → Option (Int32)) (rec : Int32 → Int32 → Option (Int32)) (x2 : Int32) (x3 : Int32) : Option (Int32) :=
  if (M.1 a0 7) ≤ x3 then (K x2 x3) else (cz_gd (cz_ib x3 40) (if (M.1 ((a0 + 4) + (9 + Int32.toNatClampNeg x3)) 5) = x1 then (cz_lt (x2 + 1) fun v7 => cz_lt (x3 + 1) fun v9 => rec v7 v9) else (cz_lt (x3 + 1) fun v5 => rec x2 v5)))
def f_X2_lettersThatAre (M : cz_M) (a : Nat) (x1 : Int32) : Option (Int32) :=
  cz_it2 (f_X2_lettersThatAre_L4 a x1 M (fun x11 x12 => some x11)) 4096 (0 : Int32) (0 : Int32)
def f_X2_allDelays_L4 (a0 : Nat) (M : cz_M) (K : Int32 → Int32 → Option (Int32)) (rec : Int32 → Int32 → Option (Int32)) (x1 : Int32) (x2 : Int32) : Option (Int32) :=
  if (M.1 a0 7) ≤ x2 then (K x1 x2) else (cz_gd (cz_ib x2 40) (if (M.1 ((a0 + 4) + (9 + Int32.toNatClampNeg x2)) 5) = (1 : Int32) then (cz_gd (cz_ib x2 40) (cz_lt (x1 + (M.1 ((a0 + 4) + (9 + Int32.toNatClampNeg x2)) 6)) fun v9 => cz_lt (x2 + 1) fun v10 => rec v9 v10)) else (cz_lt (x2 + 1) fun v5 => rec x1 v5)))
def f_X2_allDelays (M : cz_M) (a : Nat) : Option (Int32) :=
  cz_it2 (f_X2_allDelays_L4 a M (fun x12 x13 => some x12)) 4096 (0 : Int32) (0 : Int32)
def f_X2_longestDelay_L4 (a0 : Nat) (M : cz_M) (K : Int32 → Int32 → Option (Int32)) (rec : Int32 → Int32 → Option (Int32)) (x1 : Int32) (x2 : Int32) : Option (Int32) :=
  if (M.1 a0 7) ≤ x2 then (K x1 x2) else (cz_gd (cz_ib x2 40) (if (M.1 ((a0 + 4) + (9 + Int32.toNatClampNeg x2)) 5) = (1 : Int32) then (cz_gd (cz_ib x2 40) (cz_lt (if x1 < (M.1 ((a0 + 4) + (9 + Int32.toNatClampNeg x2)) 6) then (M.1 ((a0 + 4) + (9 + Int32.toNatClampNeg x2)) 6) else x1) fun v9 => cz_lt (x2 + 1) fun v10 => rec v9 v10)) else (cz_lt (x2 + 1) fun v5 => rec x1 v5)))
def f_X2_longestDelay (M : cz_M) (a : Nat) : Option (Int32) :=
  cz_it2 (f_X2_longestDelay_L4 a M (fun x12 x13 => some x12)) 4096 (0 : Int32) (0 : Int32)
def f_X2_wordsStruckInLetters_L4 (a0 : Nat) (M : cz_M) (K : Int32 → Int32 → Option (Int32)) (rec : Int32 → Int32 → Option (Int32)) (x1 : Int32) (x2 : Int32) : Option (Int32) :=
  if (M.1 a0 7) ≤ x2 then (K x1 x2) else (cz_gd (cz_ib x2 40) (if (M.1 ((a0 + 4) + (9 + Int32.toNatClampNeg x2)) 5) = (1 : Int32) then (cz_gd (cz_ib x2 40) ((f_X1_struckCount M ((a0 + 4) + (9 + Int32.toNatClampNeg x2))).bind fun v9 => cz_lt (x1 + v9) fun v10 => cz_lt (x2 + 1) fun v11 => rec v10 v11)) else (cz_lt (x2 + 1) fun v5 => rec x1 v5)))
def f_X2_wordsStruckInLetters (M : cz_M) (a : Nat) : Option (Int32) :=
  cz_it2 (f_X2_wordsStruckInLetters_L4 a M (fun x13 x14 => some x13)) 4096 (0 : Int32) (0 : Int32)
def f_X2_findHeadsIn_L2 (a0 : Nat) (a1 : Nat) (K : Int32 → cz_M → Option (cz_M)) (rec : Int32 → cz_M → Option (cz_M)) (x2 : Int32) (M : cz_M) : Option (cz_M) :=
  if (M.1 a1 1) ≤ x2 then (K x2 M) else (cz_gd (cz_ib x2 40) (cz_lt (M.1 (a1 + 1) (Int32.toNatClampNeg x2)) fun v3 => cz_gd (cz_ib v3 40) (cz_lt (M.1 ((a0 + 4) + (9 + Int32.toNatClampNeg v3)) 0) fun v6 => cz_gd (cz_ib v6 5) (if (M.1 (a0 + 8) (Int32.toNatClampNeg v6)) = (-6 : Int32) then (cz_gd (cz_ib v6 5) (cz_lt (cz_mI M (a0 + 8) (Int32.toNatClampNeg v6) v3) fun M10 => cz_lt (x2 + 1) fun v11 => rec v11 M10)) else (cz_gd (cz_ib v6 5) (if (M.1 (a0 + 8) (Int32.toNatClampNeg v6)) ≤ v3 then (cz_lt (x2 + 1) fun v15 => rec v15 M) else (cz_gd (cz_ib v6 5) (cz_lt (cz_mI M (a0 + 8) (Int32.toNatClampNeg v6) v3) fun M18 => cz_lt (x2 + 1) fun v19 => rec v19 M18))))))))
def f_X2_findHeadsIn (M : cz_M) (a : Nat) (a1 : Nat) : Option (cz_M) :=
  cz_it2 (f_X2_findHeadsIn_L2 a a1 (fun x21 M22 => some M22)) 4096 (0 : Int32) M
def f_X2_findHeads_L2 (a0 : Nat) (K : Int32 → cz_M → Option (cz_M)) (rec : Int32 → cz_M → Option (cz_M)) (x1 : Int32) (M : cz_M) : Option (cz_M) :=
  if (5 : Int32) ≤ x1 then (K x1 M) else (cz_gd (cz_ib x1 5) (cz_lt (cz_mI M (a0 + 8) (Int32.toNatClampNeg x1) (-6 : Int32)) fun M3 => cz_lt (x1 + 1) fun v4 => rec v4 M3))
def f_X2_findHeads_L23 (a0 : Nat) (K : Int32 → cz_M → Option (cz_M)) (rec : Int32 → cz_M → Option (cz_M)) (x1 : Int32) (M : cz_M) : Option (cz_M) :=
  if (2 : Int32) ≤ x1 then (K x1 M) else (cz_gd (cz_ib x1 2) ((f_X2_findHeadsIn M a0 ((a0 + 5) + (48 + 2 * Int32.toNatClampNeg x1))).bind fun M11 => cz_lt (x1 + 1) fun v12 => rec v12 M11))
def f_X2_findHeads (M : cz_M) (a : Nat) : Option (cz_M) :=
  cz_it2 (f_X2_findHeads_L2 a (fun x6 M7 => cz_it2 (f_X2_findHeads_L23 a (fun x14 M15 => some M15)) 4096 (0 : Int32) M7)) 4096 (0 : Int32) M
def f_X2_threadsThatWait_L8 (a0 : Nat) (M : cz_M) (K : Int32 → Int32 → Option (Int32 × cz_M)) (rec : Int32 → Int32 → Option (Int32 × cz_M)) (x1 : Int32) (x2 : Int32) : Option (Int32 × cz_M) :=
  if (5 : Int32) ≤ x2 then (K x1 x2) else (cz_gd (cz_ib x2 5) (if (M.1 (a0 + 8) (Int32.toNatClampNeg x2)) = (-6 : Int32) then (cz_lt (x2 + 1) fun v5 => rec x1 v5) else (cz_lt (x1 + 1) fun v7 => cz_lt (x2 + 1) fun v9 => rec v7 v9)))
def f_X2_threadsThatWait (M : cz_M) (a : Nat) : Option (Int32 × cz_M) :=
  (f_X2_findHeads M a).bind fun M1 => cz_it2 (f_X2_threadsThatWait_L8 a M1 (fun x11 x12 => some (x11, M1))) 4096 (0 : Int32) (0 : Int32)
def f_X2_lettersTurnedByAll_L4 (a0 : Nat) (M : cz_M) (K : Int32 → Int32 → Option (Int32)) (rec : Int32 → Int32 → Option (Int32)) (x1 : Int32) (x2 : Int32) : Option (Int32) :=
  if (4 : Int32) ≤ x2 then (K x1 x2) else (cz_gd (cz_ib x2 4) (cz_lt (x1 + (M.1 ((a0 + 2) + (7 + Int32.toNatClampNeg x2)) 3)) fun v4 => cz_lt (x2 + 1) fun v5 => rec v4 v5))
def f_X2_lettersTurnedByAll (M : cz_M) (a : Nat) : Option (Int32) :=
  cz_it2 (f_X2_lettersTurnedByAll_L4 a M (fun x7 x8 => some x7)) 4096 (0 : Int32) (0 : Int32)
def f_X2_fateIfRead (M : cz_M) (a : Nat) (a1 : Nat) (x2 : Int32) : Option (Int32) :=
  (f_X1_placesOf M a1 x2).bind fun v1 => (f_J6_bitCount_0f7a4 v1).bind fun v2 => cz_gd (cz_ib (1 : Int32) 3) (if (M.1 (a + 1) (Int32.toNatClampNeg (1 : Int32))) < v2 then (cz_gd (cz_ib (2 : Int32) 3) (if ((M.1 a1 7) + (1 : Int32)) < (M.1 (a + 1) (Int32.toNatClampNeg (2 : Int32))) then (some (4 : Int32)) else (some (5 : Int32)))) else (some (0 : Int32)))
def f_X2_judgeRow_L31 (a0 : Nat) (a2 : Nat) (x3 : Int32) (K : Int32 → Int32 → cz_M → Option (cz_M)) (rec : Int32 → Int32 → cz_M → Option (cz_M)) (x4 : Int32) (x5 : Int32) (M : cz_M) : Option (cz_M) :=
  if (M.1 a2 1) ≤ x5 then (K x4 x5 M) else (cz_gd (cz_ib x5 40) (cz_lt (M.1 (a2 + 1) (Int32.toNatClampNeg x5)) fun v11 => cz_gd (cz_ib v11 40) (cz_lt ((a0 + 4) + (9 + Int32.toNatClampNeg v11)) fun r14 => cz_gd (cz_ib (M.1 r14 0) 5) (if (M.1 (a0 + 8) (Int32.toNatClampNeg (M.1 r14 0))) = v11 then (cz_gd (cz_ib (0 : Int32) 3) (if x4 < (M.1 (a0 + 1) (Int32.toNatClampNeg (0 : Int32))) then ((f_X2_fateIfRead M a0 r14 x3).bind fun v20 => cz_lt (cz_mI M r14 10 v20) fun M21 => cz_lt (x4 + 1) fun v22 => cz_lt (x5 + 1) fun v24 => rec v22 v24 M21) else (cz_lt (cz_mI M r14 10 (3 : Int32)) fun M26 => cz_lt (x5 + 1) fun v27 => rec x4 v27 M26))) else (cz_lt (cz_mI M r14 10 (2 : Int32)) fun M29 => cz_lt (x5 + 1) fun v30 => rec x4 v30 M29)))))
def f_X2_judgeRow (M : cz_M) (a : Nat) (x1 : Int32) : Option (cz_M) :=
  cz_gd (cz_ib x1 2) (cz_lt ((a + 5) + (48 + 2 * Int32.toNatClampNeg x1)) fun r3 => (f_X2_censorNumber M a (M.1 a 8) x1).bind fun v6 => cz_gd (cz_ib v6 4) (cz_lt (M.1 ((a + 2) + (7 + Int32.toNatClampNeg v6)) 0) fun v8 => cz_it3 (f_X2_judgeRow_L31 a r3 v8 (fun x32 x33 M34 => some M34)) 4096 (0 : Int32) (0 : Int32) M))
def f_X2_judgeWeek_L6 (a0 : Nat) (K : Int32 → cz_M → Option (cz_M)) (rec : Int32 → cz_M → Option (cz_M)) (x1 : Int32) (M : cz_M) : Option (cz_M) :=
  if (2 : Int32) ≤ x1 then (K x1 M) else ((f_X2_judgeRow M a0 x1).bind fun M3 => cz_lt (x1 + 1) fun v4 => rec v4 M3)
def f_X2_judgeWeek (M : cz_M) (a : Nat) : Option (cz_M) :=
  (f_X2_findHeads M a).bind fun M1 => cz_it2 (f_X2_judgeWeek_L6 a (fun x6 M7 => some M7)) 4096 (0 : Int32) M1
def f_X2_letThrough (M : cz_M) (a : Nat) (a1 : Nat) (x2 : Int32) : Option (cz_M) :=
  cz_gd (cz_ib x2 4) ((f_X1_placesOf M a1 (M.1 ((a + 2) + (7 + Int32.toNatClampNeg x2)) 0)).bind fun v3 => cz_lt (cz_mI M a1 8 v3) fun M4 => cz_lt (cz_mI M4 a1 5 (1 : Int32)) fun M5 => cz_lt (cz_mI M5 a1 6 (((M5.1 a 8) + (1 : Int32)) - (M5.1 a1 4))) fun M6 => cz_lt (cz_mI M6 a1 9 x2) fun M7 => cz_gd (cz_ib x2 4) (cz_lt (cz_mI M7 ((a + 2) + (7 + Int32.toNatClampNeg x2)) 1 ((M7.1 ((a + 2) + (7 + Int32.toNatClampNeg x2)) 1) + (1 : Int32))) fun M10 => cz_gd (cz_ib x2 4) ((f_X1_struckCount M10 a1).bind fun v13 => cz_lt (cz_mI M10 ((a + 2) + (7 + Int32.toNatClampNeg x2)) 2 ((M10.1 ((a + 2) + (7 + Int32.toNatClampNeg x2)) 2) + v13)) fun M14 => some M14)))
def f_X2_turnBack (M : cz_M) (a : Nat) (a1 : Nat) (x2 : Int32) : Option (cz_M) :=
  cz_lt (cz_mI M a1 7 ((M.1 a1 7) + (1 : Int32))) fun M1 => if (M1.1 a1 10) = (5 : Int32) then (cz_lt (cz_mI M1 a1 5 (2 : Int32)) fun M9 => cz_gd (cz_ib x2 4) (cz_lt (cz_mI M9 ((a + 2) + (7 + Int32.toNatClampNeg x2)) 1 ((M9.1 ((a + 2) + (7 + Int32.toNatClampNeg x2)) 1) + (1 : Int32))) fun M12 => cz_gd (cz_ib x2 4) (cz_lt (cz_mI M12 ((a + 2) + (7 + Int32.toNatClampNeg x2)) 3 ((M12.1 ((a + 2) + (7 + Int32.toNatClampNeg x2)) 3) + (1 : Int32))) fun M15 => some M15))) else (cz_gd (cz_ib x2 4) (cz_lt (cz_mI M1 ((a + 2) + (7 + Int32.toNatClampNeg x2)) 1 ((M1.1 ((a + 2) + (7 + Int32.toNatClampNeg x2)) 1) + (1 : Int32))) fun M5 => cz_gd (cz_ib x2 4) (cz_lt (cz_mI M5 ((a + 2) + (7 + Int32.toNatClampNeg x2)) 3 ((M5.1 ((a + 2) + (7 + Int32.toNatClampNeg x2)) 3) + (1 : Int32))) fun M8 => some M8)))
def f_X2_appendIfFate_L3 (a0 : Nat) (a1 : Nat) (x2 : Int32) (x3 : Int32) (K : Int32 → cz_M → Option (cz_M)) (rec : Int32 → cz_M → Option (cz_M)) (x4 : Int32) (M : cz_M) : Option (cz_M) :=
  if (M.1 a1 1) ≤ x4 then (K x4 M) else (cz_gd (cz_ib x4 40) (cz_gd (cz_ib (M.1 (a1 + 1) (Int32.toNatClampNeg x4)) 40) (cz_lt (M.1 ((a0 + 4) + (9 + Int32.toNatClampNeg (M.1 (a1 + 1) (Int32.toNatClampNeg x4)))) 10) fun v5 => if v5 = x2 then (cz_gd (cz_ib x4 40) ((f_X3_append M (a0 + 6) (M.1 (a1 + 1) (Int32.toNatClampNeg x4))).bind fun M9 => cz_lt (x4 + 1) fun v10 => rec v10 M9)) else (if v5 = x3 then (cz_gd (cz_ib x4 40) ((f_X3_append M (a0 + 6) (M.1 (a1 + 1) (Int32.toNatClampNeg x4))).bind fun M17 => cz_lt (x4 + 1) fun v18 => rec v18 M17)) else (cz_lt (x4 + 1) fun v13 => rec v13 M)))))
def f_X2_appendIfFate (M : cz_M) (a : Nat) (a1 : Nat) (x2 : Int32) (x3 : Int32) : Option (cz_M) :=
  cz_it2 (f_X2_appendIfFate_L3 a a1 x2 x3 (fun x20 M21 => some M21)) 4096 (0 : Int32) M
def f_X2_readRow_L23 (a0 : Nat) (a2 : Nat) (x3 : Int32) (K : Int32 → Int32 → cz_M → Option (Int32 × cz_M)) (rec : Int32 → Int32 → cz_M → Option (Int32 × cz_M)) (x4 : Int32) (x5 : Int32) (M : cz_M) : Option (Int32 × cz_M) :=
  if (M.1 a2 1) ≤ x5 then (K x4 x5 M) else (cz_gd (cz_ib x5 40) (cz_gd (cz_ib (M.1 (a2 + 1) (Int32.toNatClampNeg x5)) 40) (cz_lt ((a0 + 4) + (9 + Int32.toNatClampNeg (M.1 (a2 + 1) (Int32.toNatClampNeg x5)))) fun r10 => if (M.1 r10 10) = 0 then ((f_X2_letThrough M a0 r10 x3).bind fun M23 => cz_lt (x4 + 1) fun v24 => cz_lt (x5 + 1) fun v26 => rec v24 v26 M23) else (if (M.1 r10 10) = (4 : Int32) then ((f_X2_turnBack M a0 r10 x3).bind fun M14 => cz_lt (x5 + 1) fun v15 => rec x4 v15 M14) else (if (M.1 r10 10) = (5 : Int32) then ((f_X2_turnBack M a0 r10 x3).bind fun M20 => cz_lt (x5 + 1) fun v21 => rec x4 v21 M20) else (cz_lt (x5 + 1) fun v18 => rec x4 v18 M))))))
def f_X2_readRow (M : cz_M) (a : Nat) (x1 : Int32) : Option (Int32 × cz_M) :=
  cz_gd (cz_ib x1 2) (cz_lt ((a + 5) + (48 + 2 * Int32.toNatClampNeg x1)) fun r3 => (f_X2_censorNumber M a (M.1 a 8) x1).bind fun v5 => cz_it3 (f_X2_readRow_L23 a r3 v5 (fun x28 x29 M30 => cz_lt (cz_mI M30 (a + 6) 1 (0 : Int32)) fun M32 => (f_X2_appendIfFate M32 a r3 (2 : Int32) (3 : Int32)).bind fun M33 => (f_X2_appendIfFate M33 a r3 (4 : Int32) (4 : Int32)).bind fun M34 => (f_X3_copyFrom M34 r3 (a + 6)).bind fun M36 => some (x28, M36))) 4096 (0 : Int32) (0 : Int32) M)
def f_X2_passWeek_L8 (a0 : Nat) (K : Int32 → Int32 → cz_M → Option (Int32 × cz_M)) (rec : Int32 → Int32 → cz_M → Option (Int32 × cz_M)) (x1 : Int32) (x2 : Int32) (M : cz_M) : Option (Int32 × cz_M) :=
  if (2 : Int32) ≤ x2 then (K x1 x2 M) else (cz_b2 (f_X2_readRow M a0 x2) fun v4 M3 => cz_lt (x1 + v4) fun v5 => cz_lt (x2 + 1) fun v6 => rec v5 v6 M3)
def f_X2_passWeek (M : cz_M) (a : Nat) : Option (Int32 × cz_M) :=
  (f_X2_judgeWeek M a).bind fun M1 => cz_it3 (f_X2_passWeek_L8 a (fun x8 x9 M10 => cz_lt (cz_mI M10 a 8 ((M10.1 a 8) + (1 : Int32))) fun M11 => some (x8, M11))) 4096 (0 : Int32) (0 : Int32) M1
def f_X2_passWeeks_L4 (a0 : Nat) (x1 : Int32) (K : Int32 → Int32 → cz_M → Option (Int32 × cz_M)) (rec : Int32 → Int32 → cz_M → Option (Int32 × cz_M)) (x2 : Int32) (x3 : Int32) (M : cz_M) : Option (Int32 × cz_M) :=
  if x1 ≤ x3 then (K x2 x3 M) else (cz_b2 (f_X2_passWeek M a0) fun v3 M2 => cz_lt (x2 + v3) fun v4 => cz_lt (x3 + 1) fun v5 => rec v4 v5 M2)
def f_X2_passWeeks (M : cz_M) (a : Nat) (x1 : Int32) : Option (Int32 × cz_M) :=
  cz_it3 (f_X2_passWeeks_L4 a x1 (fun x7 x8 M9 => some (x7, M9))) 4096 (0 : Int32) (0 : Int32) M
def f_X3_placeOf_L2 (a0 : Nat) (x1 : Int32) (M : cz_M) (K : Int32 → Option (Int32)) (rec : Int32 → Option (Int32)) (x2 : Int32) : Option (Int32) :=
  if (M.1 a0 1) ≤ x2 then (K x2) else (cz_gd (cz_ib x2 40) (if (M.1 (a0 + 1) (Int32.toNatClampNeg x2)) = x1 then (some x2) else (cz_lt (x2 + 1) fun v4 => rec v4)))
def f_X3_placeOf (M : cz_M) (a : Nat) (x1 : Int32) : Option (Int32) :=
  cz_it1 (f_X3_placeOf_L2 a x1 M (fun x6 => some (-6 : Int32))) 4096 (0 : Int32)
def f_X4_remember_L17 (a0 : Nat) (a1 : Nat) (K : Int32 → cz_M → Option (cz_M)) (rec : Int32 → cz_M → Option (cz_M)) (x2 : Int32) (M : cz_M) : Option (cz_M) :=
  if (4 : Int32) ≤ x2 then (K x2 M) else (cz_gd (cz_ib x2 4) (cz_gd (cz_ib (x2 - (1 : Int32)) 4) (cz_lt (cz_mP M (Int32.toNatClampNeg (x2 - (1 : Int32))) (M.2.2 (Int32.toNatClampNeg x2))) fun M15 => cz_lt (x2 + 1) fun v16 => rec v16 M15)))
def f_X4_remember (M : cz_M) (a : Nat) : Option (cz_M) :=
  if (M.1 a 6) = (4 : Int32) then (cz_gd (cz_ib (0 : Int32) 4) (cz_lt (M.2.2 (Int32.toNatClampNeg (0 : Int32))) fun r9 => cz_it2 (f_X4_remember_L17 a r9 (fun x18 M19 => cz_gd (cz_ib (3 : Int32) 4) (cz_lt (cz_mP M19 (Int32.toNatClampNeg (3 : Int32)) r9) fun M21 => cz_lt (cz_mI M21 a 6 ((M21.1 a 6) - (1 : Int32))) fun M22 => cz_gd (cz_ib (M22.1 a 6) 4) ((f_X2_copyFrom M22 (M22.2.2 (Int32.toNatClampNeg (M22.1 a 6))) (a + 1)).bind fun M26 => cz_lt (cz_mI M26 a 6 ((M26.1 a 6) + (1 : Int32))) fun M27 => some M27)))) 4096 (1 : Int32) M)) else (cz_gd (cz_ib (M.1 a 6) 4) ((f_X2_copyFrom M (M.2.2 (Int32.toNatClampNeg (M.1 a 6))) (a + 1)).bind fun M5 => cz_lt (cz_mI M5 a 6 ((M5.1 a 6) + (1 : Int32))) fun M6 => some M6))
def f_X4_set (M : cz_M) (a : Nat) (x1 : Int32) (x2 : Int32) : Option (Int32 × cz_M) :=
  if x1 < 0 then (some ((-2 : Int32), M)) else (if x1 < (3 : Int32) then (cz_gd (cz_ib x1 3) (if x2 < (cz_tL (Int32.toNatClampNeg x1)) then (some ((-2 : Int32), M)) else (cz_gd (cz_ib x1 3) (if x2 ≤ (cz_tM (Int32.toNatClampNeg x1)) then ((f_X4_remember M a).bind fun M9 => cz_gd (cz_ib x1 3) (cz_lt (M9.1 ((a + 1) + 1) (Int32.toNatClampNeg x1)) fun v12 => cz_gd (cz_ib x1 3) (cz_lt (cz_mI M9 ((a + 1) + 1) (Int32.toNatClampNeg x1) x2) fun M15 => some (v12, M15)))) else (some ((-2 : Int32), M)))))) else (some ((-2 : Int32), M)))
def f_X4_strike (M : cz_M) (a : Nat) (x1 : Int32) (x2 : Int32) : Option (Int32 × cz_M) :=
  if x1 < 0 then (some ((-1 : Int32), M)) else (if (4 : Int32) ≤ x1 then (some ((-1 : Int32), M)) else (if x2 < 0 then (some ((-1 : Int32), M)) else (if x2 < (26 : Int32) then ((f_X4_remember M a).bind fun M5 => cz_gd (cz_ib x1 4) (cz_lt (((a + 1) + 2) + (7 + Int32.toNatClampNeg x1)) fun r9 => cz_lt (cz_mI M5 r9 0 ((M5.1 r9 0) ^^^ ((1 : Int32) <<< (x2 &&& 31)))) fun M11 => (f_J6_bitCount_0f7a4 (M11.1 r9 0)).bind fun v12 => some (v12, M11))) else (some ((-1 : Int32), M)))))
def f_X4_trade (M : cz_M) (a : Nat) (x1 : Int32) (x2 : Int32) : Option (Int32 × cz_M) :=
  if x1 < 0 then (some ((-1 : Int32), M)) else (if (8 : Int32) ≤ x1 then (some ((-1 : Int32), M)) else (if x2 < 0 then (some ((-1 : Int32), M)) else (if x2 < (8 : Int32) then (cz_gd (cz_ib x1 8) (cz_gd (cz_ib x2 8) (if (M.1 ((a + 1) + 3) (Int32.toNatClampNeg x1)) = (M.1 ((a + 1) + 3) (Int32.toNatClampNeg x2)) then (some ((-5 : Int32), M)) else ((f_X4_remember M a).bind fun M10 => (f_X2_tradeShifts M10 (a + 1) x1 x2).bind fun M12 => cz_gd (cz_ib x1 8) (some ((M12.1 ((a + 1) + 3) (Int32.toNatClampNeg x1)), M12)))))) else (some ((-1 : Int32), M)))))
def f_X4_isWord (x0 : Int32) : Option (Int32) :=
  if x0 < (97 : Int32) then (some (0 : Int32)) else (if (122 : Int32) < x0 then (some (0 : Int32)) else (some (1 : Int32)))
def f_X4_stageBehind (x0 : Int32) (x1 : Int32) : Option (Int32) :=
  if x0 = 0 then (if x1 < (48 : Int32) then (some (-1 : Int32)) else (if (53 : Int32) ≤ x1 then (some (-1 : Int32)) else (some (1 : Int32)))) else (if x0 = (1 : Int32) then (if x1 = (62 : Int32) then (some (2 : Int32)) else (if x1 = (60 : Int32) then (some (2 : Int32)) else (some (-1 : Int32)))) else ((f_X4_isWord x1).bind fun v3 => if v3 = 0 then (if x1 = (44 : Int32) then (if x0 ≤ (2 : Int32) then (some (-1 : Int32)) else (some (0 : Int32))) else (some (-1 : Int32))) else (if (10 : Int32) ≤ x0 then (some (-1 : Int32)) else (some (x0 + (1 : Int32))))))
def f_X4_faultOfPad_L4 (a0 : Nat) (M : cz_M) (K : Int32 → Int32 → Option (Int32)) (rec : Int32 → Int32 → Option (Int32)) (x1 : Int32) (x2 : Int32) : Option (Int32) :=
  if (M.1 a0 7) ≤ x2 then (K x1 x2) else (cz_gd (cz_ib x2 60) ((f_X4_stageBehind x1 (M.1 (a0 + 118) (Int32.toNatClampNeg x2))).bind fun v3 => if v3 = (-1 : Int32) then (some x2) else (cz_lt (x2 + 1) fun v5 => rec v3 v5)))
def f_X4_faultOfPad (M : cz_M) (a : Nat) : Option (Int32) :=
  cz_it2 (f_X4_faultOfPad_L4 a M (fun x7 x8 => if x7 ≤ (2 : Int32) then (some (M.1 a 7)) else (some (-6 : Int32)))) 4096 (0 : Int32) (0 : Int32)
def f_X4_lettersOfPad_L4 (a0 : Nat) (M : cz_M) (K : Int32 → Int32 → Option (Int32)) (rec : Int32 → Int32 → Option (Int32)) (x1 : Int32) (x2 : Int32) : Option (Int32) :=
  if (M.1 a0 7) ≤ x2 then (K x1 x2) else (cz_gd (cz_ib x2 60) (if (M.1 (a0 + 118) (Int32.toNatClampNeg x2)) = (44 : Int32) then (cz_lt (x1 + 1) fun v6 => cz_lt (x2 + 1) fun v8 => rec v6 v8) else (cz_lt (x2 + 1) fun v4 => rec x1 v4)))
def f_X4_lettersOfPad (M : cz_M) (a : Nat) : Option (Int32) :=
  cz_it2 (f_X4_lettersOfPad_L4 a M (fun x10 x11 => some x10)) 4096 (1 : Int32) (0 : Int32)
def f_X4_writeLettersOfPad_L4 (a0 : Nat) (K : Option Nat → Int32 → cz_M → Option (cz_M)) (rec : Option Nat → Int32 → cz_M → Option (cz_M)) (x1 : Option Nat) (x2 : Int32) (M : cz_M) : Option (cz_M) :=
  if (M.1 a0 7) ≤ x2 then (K x1 x2 M) else (cz_gd (cz_ib x2 60) (cz_lt (M.1 (a0 + 118) (Int32.toNatClampNeg x2)) fun v3 => (f_X4_isWord v3).bind fun v4 => if v4 = 0 then (if v3 = (62 : Int32) then ((f_X2_sendNewest M (a0 + 1) (0 : Int32)).bind fun M21 => cz_lt (x2 + 1) fun v22 => rec x1 v22 M21) else (if v3 = (60 : Int32) then ((f_X2_sendNewest M (a0 + 1) (1 : Int32)).bind fun M17 => cz_lt (x2 + 1) fun v18 => rec x1 v18 M17) else (if v3 = (44 : Int32) then (cz_lt (x2 + 1) fun v9 => rec x1 v9 M) else (cz_b2 (f_X2_beginLetter M (a0 + 1) (v3 - (48 : Int32))) fun q13 M12 => cz_lt (x2 + 1) fun v14 => rec q13 v14 M12)))) else (cz_on x1 (cz_lt (x2 + 1) fun v26 => rec none v26 M) (fun q24 => cz_gd (cz_kb a0 q24 1) ((f_X1_addWord M q24 v3).bind fun M28 => cz_lt (x2 + 1) fun v29 => rec q24 v29 M28)))))
def f_X4_writeLettersOfPad (M : cz_M) (a : Nat) : Option (cz_M) :=
  cz_it3 (f_X4_writeLettersOfPad_L4 a (fun x31 x32 M33 => some M33)) 4096 none (0 : Int32) M
def f_X4_read (M : cz_M) (a : Nat) : Option (Int32 × cz_M) :=
  (f_X4_faultOfPad M a).bind fun v1 => if v1 = (-6 : Int32) then ((f_X4_lettersOfPad M a).bind fun v4 => if ((M.1 (a + 1) 7) + v4) ≤ (40 : Int32) then ((f_X4_remember M a).bind fun M6 => (f_X4_writeLettersOfPad M6 a).bind fun M7 => cz_lt (cz_mI M7 a 7 (0 : Int32)) fun M8 => some ((M8.1 (a + 1) 7), M8)) else (some ((-4 : Int32), M))) else (some ((-3 : Int32), M))
def f_X4_burn (M : cz_M) (a : Nat) (x1 : Int32) : Option (Int32 × cz_M) :=
  (f_X2_hasLetter M (a + 1) x1).bind fun v2 => if v2 = 0 then (some ((-1 : Int32), M)) else (cz_gd (cz_ib x1 40) (if (M.1 (((a + 1) + 4) + (9 + Int32.toNatClampNeg x1)) 5) = 0 then ((f_X4_remember M a).bind fun M8 => (f_X2_burnWaiting M8 (a + 1) x1).bind fun M10 => cz_gd (cz_ib x1 40) (some (((M10.1 (a + 1) 8) - (M10.1 (((a + 1) + 4) + (9 + Int32.toNatClampNeg x1)) 4)), M10))) else (some ((-5 : Int32), M))))
def f_X4_pass (M : cz_M) (a : Nat) (x1 : Int32) : Option (Int32 × cz_M) :=
  if x1 < (1 : Int32) then (some ((-2 : Int32), M)) else (if x1 ≤ (52 : Int32) then (if ((M.1 (a + 1) 8) + x1) ≤ (9999 : Int32) then ((f_X4_remember M a).bind fun M5 => cz_b2 (f_X2_passWeeks M5 (a + 1) x1) fun v8 M7 => some (v8, M7)) else (some ((-4 : Int32), M))) else (some ((-2 : Int32), M)))
def f_X4_letter (M : cz_M) (a : Nat) (x1 : Int32) (x2 : Int32) : Option (Int32) :=
  (f_X2_hasLetter M (a + 1) x1).bind fun v2 => if v2 = 0 then (some (-1 : Int32)) else (cz_gd (cz_ib x1 40) (cz_lt (((a + 1) + 4) + (9 + Int32.toNatClampNeg x1)) fun r7 => if x2 = (0 : Int32) then (some (M.1 r7 0)) else (if x2 = (1 : Int32) then (some (M.1 r7 1)) else (if x2 = (2 : Int32) then (some (M.1 r7 5)) else (if x2 = (3 : Int32) then (cz_gd (cz_ib (M.1 r7 1) 2) ((f_X3_placeOf M (((a + 1) + 5) + (48 + 2 * Int32.toNatClampNeg (M.1 r7 1))) x1).bind fun v16 => some v16)) else (if x2 = (4 : Int32) then (some (M.1 r7 4)) else (if x2 = (5 : Int32) then (if (M.1 r7 5) = (1 : Int32) then (some (M.1 r7 6)) else (some (-6 : Int32))) else (if x2 = (6 : Int32) then ((f_X1_struckCount M r7).bind fun v21 => some v21) else (if x2 = (7 : Int32) then (some (M.1 r7 7)) else (if x2 = (8 : Int32) then (some (M.1 r7 9)) else (if x2 = (9 : Int32) then ((f_X2_aheadOf M (a + 1) x1).bind fun v26 => some v26) else (if x2 = (10 : Int32) then (some (M.1 r7 3)) else (some (-2 : Int32))))))))))))))
def f_X4_word (M : cz_M) (a : Nat) (x1 : Int32) (x2 : Int32) : Option (Int32) :=
  (f_X2_hasLetter M (a + 1) x1).bind fun v2 => if v2 = 0 then (some (-1 : Int32)) else (cz_gd (cz_ib x1 40) (cz_lt (((a + 1) + 4) + (9 + Int32.toNatClampNeg x1)) fun r7 => if x2 < 0 then (some (-1 : Int32)) else (if x2 < (M.1 r7 3) then ((f_X1_isStruckAt M r7 x2).bind fun v11 => if v11 = 0 then ((f_X1_codeAt M r7 x2).bind fun v13 => some v13) else (some (42 : Int32))) else (some (-1 : Int32)))))
def f_X4_why (M : cz_M) (a : Nat) (x1 : Int32) : Option (Int32 × cz_M) :=
  (f_X2_hasLetter M (a + 1) x1).bind fun v2 => if v2 = 0 then (some ((-1 : Int32), M)) else (cz_gd (cz_ib x1 40) (cz_lt (((a + 1) + 4) + (9 + Int32.toNatClampNeg x1)) fun r7 => if (M.1 r7 5) = 0 then ((f_X2_judgeWeek M (a + 1)).bind fun M11 => some ((M11.1 r7 10), M11)) else (some ((1 : Int32), M))))
def f_X4_censor (M : cz_M) (a : Nat) (x1 : Int32) (x2 : Int32) : Option (Int32) :=
  if x1 < 0 then (some (-1 : Int32)) else (if x1 < (4 : Int32) then (cz_gd (cz_ib x1 4) (cz_lt (((a + 1) + 2) + (7 + Int32.toNatClampNeg x1)) fun r6 => if x2 = (0 : Int32) then (some (M.1 r6 0)) else (if x2 = (1 : Int32) then ((f_X2_shiftsOf M (a + 1) x1).bind fun v11 => some v11) else (if x2 = (2 : Int32) then (some (M.1 r6 1)) else (if x2 = (3 : Int32) then (some (M.1 r6 2)) else (if x2 = (4 : Int32) then (some (M.1 r6 3)) else (some (-2 : Int32)))))))) else (some (-1 : Int32)))
def f_X4_onShift (M : cz_M) (a : Nat) (x1 : Int32) (x2 : Int32) : Option (Int32) :=
  if x2 < 0 then (some (-1 : Int32)) else (if x2 < (2 : Int32) then (if x1 < 0 then (some (-2 : Int32)) else (if x1 ≤ (9999 : Int32) then ((f_X2_censorNumber M (a + 1) x1 x2).bind fun v6 => some v6) else (some (-2 : Int32)))) else (some (-1 : Int32)))
def f_X4_count (M : cz_M) (a : Nat) (x1 : Int32) : Option (Int32 × cz_M) :=
  if x1 = (0 : Int32) then (cz_gd (cz_ib (0 : Int32) 3) (some ((M.1 ((a + 1) + 1) (Int32.toNatClampNeg (0 : Int32))), M))) else (if x1 = (1 : Int32) then (cz_gd (cz_ib (1 : Int32) 3) (some ((M.1 ((a + 1) + 1) (Int32.toNatClampNeg (1 : Int32))), M))) else (if x1 = (2 : Int32) then (cz_gd (cz_ib (2 : Int32) 3) (some ((M.1 ((a + 1) + 1) (Int32.toNatClampNeg (2 : Int32))), M))) else (if x1 = (3 : Int32) then (some ((M.1 (a + 1) 8), M)) else (if x1 = (4 : Int32) then (some ((M.1 (a + 1) 7), M)) else (if x1 = (5 : Int32) then ((f_X2_lettersThatAre M (a + 1) (0 : Int32)).bind fun v16 => some (v16, M)) else (if x1 = (6 : Int32) then ((f_X2_lettersThatAre M (a + 1) (1 : Int32)).bind fun v19 => some (v19, M)) else (if x1 = (7 : Int32) then ((f_X2_lettersThatAre M (a + 1) (2 : Int32)).bind fun v22 => some (v22, M)) else (if x1 = (8 : Int32) then (cz_gd (cz_ib (0 : Int32) 2) (some ((M.1 (((a + 1) + 5) + (48 + 2 * Int32.toNatClampNeg (0 : Int32))) 1), M))) else (if x1 = (9 : Int32) then (cz_gd (cz_ib (1 : Int32) 2) (some ((M.1 (((a + 1) + 5) + (48 + 2 * Int32.toNatClampNeg (1 : Int32))) 1), M))) else (if x1 = (10 : Int32) then ((f_X2_allDelays M (a + 1)).bind fun v33 => some (v33, M)) else (if x1 = (11 : Int32) then ((f_X2_longestDelay M (a + 1)).bind fun v36 => some (v36, M)) else (if x1 = (12 : Int32) then ((f_X2_wordsStruckInLetters M (a + 1)).bind fun v39 => some (v39, M)) else (if x1 = (13 : Int32) then (cz_b2 (f_X2_threadsThatWait M (a + 1)) fun v43 M42 => some (v43, M42)) else (if x1 = (14 : Int32) then (some ((M.1 a 7), M)) else (if x1 = (15 : Int32) then (some ((M.1 a 6), M)) else (some ((-2 : Int32), M)))))))))))))))))
def f_X4_untilCome_L36 (a0 : Nat) (a2 : Nat) (K : Int32 → cz_M → Option (Int32 × cz_M)) (rec : Int32 → cz_M → Option (Int32 × cz_M)) (x3 : Int32) (M : cz_M) : Option (Int32 × cz_M) :=
  if (100 : Int32) ≤ x3 then (K x3 M) else (if (M.1 a2 5) = 0 then (cz_b2 (f_X2_passWeek M (a0 + 58)) fun v16 M15 => cz_lt (x3 + 1) fun v17 => rec v17 M15) else (K x3 M))
def f_X4_untilCome (M : cz_M) (a : Nat) (x1 : Int32) : Option (Int32 × cz_M) :=
  (f_X2_hasLetter M (a + 1) x1).bind fun v2 => if v2 = 0 then (some ((-1 : Int32), M)) else ((f_X2_copyFrom M (a + 58) (a + 1)).bind fun M6 => cz_gd (cz_ib x1 40) (cz_lt (((a + 58) + 4) + (9 + Int32.toNatClampNeg x1)) fun r10 => cz_it2 (f_X4_untilCome_L36 a r10 (fun x19 M20 => if (M20.1 r10 5) = (1 : Int32) then (some (x19, M20)) else (some ((-6 : Int32), M20)))) 4096 (0 : Int32) M6))
def f_X4_ifPassed (M : cz_M) (a : Nat) (x1 : Int32) (x2 : Int32) : Option (Int32 × cz_M) :=
  if x1 < (1 : Int32) then (some ((-2 : Int32), M)) else (if (100 : Int32) < x1 then (some ((-2 : Int32), M)) else (if x2 < 0 then (some ((-2 : Int32), M)) else (if x2 ≤ (2 : Int32) then ((f_X2_copyFrom M (a + 58) (a + 1)).bind fun M7 => cz_b2 (f_X2_passWeeks M7 (a + 58) x1) fun v10 M9 => if x2 = (0 : Int32) then (some (v10, M9)) else (if x2 = (1 : Int32) then ((f_X2_lettersThatAre M9 (a + 58) (2 : Int32)).bind fun v14 => (f_X2_lettersThatAre M9 (a + 1) (2 : Int32)).bind fun v16 => some ((v14 - v16), M9)) else ((f_X2_wordsStruckInLetters M9 (a + 58)).bind fun v18 => (f_X2_wordsStruckInLetters M9 (a + 1)).bind fun v20 => some ((v18 - v20), M9)))) else (some ((-2 : Int32), M)))))
def f_X4_bestTrade_L36 (a0 : Nat) (x3 : Int32) (K : Int32 → Int32 → Int32 → cz_M → Option (Int32 × cz_M)) (rec : Int32 → Int32 → Int32 → cz_M → Option (Int32 × cz_M)) (x1 : Int32) (x2 : Int32) (x4 : Int32) (M : cz_M) : Option (Int32 × cz_M) :=
  if (8 : Int32) ≤ x4 then (K x1 x2 x4 M) else ((f_X2_copyFrom M (a0 + 58) (a0 + 1)).bind fun M12 => (f_X2_tradeShifts M12 (a0 + 58) x3 x4).bind fun M14 => cz_b2 (f_X2_passWeeks M14 (a0 + 58) (4 : Int32)) fun v17 M16 => if v17 ≤ x1 then (cz_lt (x4 + 1) fun v19 => rec x1 x2 v19 M16) else (cz_lt (((8 : Int32) * x3) + x4) fun v21 => cz_lt (x4 + 1) fun v22 => rec v17 v21 v22 M16))
def f_X4_bestTrade_L25 (a0 : Nat) (K : Int32 → Int32 → Int32 → cz_M → Option (Int32 × cz_M)) (rec : Int32 → Int32 → Int32 → cz_M → Option (Int32 × cz_M)) (x1 : Int32) (x2 : Int32) (x3 : Int32) (M : cz_M) : Option (Int32 × cz_M) :=
  if (8 : Int32) ≤ x3 then (K x1 x2 x3 M) else (cz_lt (x3 + (1 : Int32)) fun v8 => cz_it4 (f_X4_bestTrade_L36 a0 x3 (fun x24 x25 x26 M27 => cz_lt (x3 + 1) fun v28 => rec x24 x25 v28 M27)) 4096 x1 x2 v8 M)
def f_X4_bestTrade (M : cz_M) (a : Nat) : Option (Int32 × cz_M) :=
  (f_X2_copyFrom M (a + 58) (a + 1)).bind fun M3 => cz_b2 (f_X2_passWeeks M3 (a + 58) (4 : Int32)) fun v6 M5 => cz_it4 (f_X4_bestTrade_L25 a (fun x30 x31 x32 M33 => some (x31, M33))) 4096 v6 (-6 : Int32) (0 : Int32) M5
def f_X4_turnsBackWith_L31 (a0 : Nat) (x2 : Int32) (K : Int32 → cz_M → Option (Int32 × cz_M)) (rec : Int32 → cz_M → Option (Int32 × cz_M)) (x3 : Int32) (M : cz_M) : Option (Int32 × cz_M) :=
  if (100 : Int32) ≤ x3 then (K x3 M) else (cz_b2 (f_X2_passWeek M (a0 + 58)) fun v12 M11 => (f_X2_lettersTurnedByAll M11 (a0 + 58)).bind fun v14 => if v14 ≤ x2 then (cz_lt (x3 + 1) fun v16 => rec v16 M11) else (some ((1 : Int32), M11)))
def f_X4_turnsBackWith (M : cz_M) (a : Nat) (x1 : Int32) : Option (Int32 × cz_M) :=
  (f_X2_copyFrom M (a + 58) (a + 1)).bind fun M3 => cz_gd (cz_ib (1 : Int32) 3) (cz_lt (cz_mI M3 ((a + 58) + 1) (Int32.toNatClampNeg (1 : Int32)) x1) fun M6 => (f_X2_lettersTurnedByAll M6 (a + 58)).bind fun v8 => cz_it2 (f_X4_turnsBackWith_L31 a v8 (fun x18 M19 => some ((0 : Int32), M19))) 4096 (0 : Int32) M6)
def f_X4_leastLimit_L2 (a0 : Nat) (K : Int32 → cz_M → Option (Int32 × cz_M)) (rec : Int32 → cz_M → Option (Int32 × cz_M)) (x1 : Int32) (M : cz_M) : Option (Int32 × cz_M) :=
  if (8 : Int32) ≤ x1 then (K x1 M) else (cz_b2 (f_X4_turnsBackWith M a0 x1) fun v3 M2 => if v3 = 0 then (K x1 M2) else (cz_lt (x1 + 1) fun v5 => rec v5 M2))
def f_X4_leastLimit (M : cz_M) (a : Nat) : Option (Int32 × cz_M) :=
  cz_it2 (f_X4_leastLimit_L2 a (fun x7 M8 => some (x7, M8))) 4096 (0 : Int32) M
def f_X4_lengthOf_L4  (K : Int32 → Int64 → Option (Int32)) (rec : Int32 → Int64 → Option (Int32)) (x2 : Int32) (x3 : Int64) : Option (Int32) :=
  if (8 : Int32) ≤ x2 then (K x2 x3) else (if (lg_cmp x3 (0 : Int64)) = 0 then (K x2 x3) else (cz_lt (Int64.toInt32 (x3 &&& (255 : Int64))) fun v3 => if v3 < (33 : Int32) then (some (0 : Int32)) else (if v3 ≤ (126 : Int32) then (cz_lt (cz_usl x3 (8 : Int32)) fun v6 => cz_lt (x2 + 1) fun v7 => rec v7 v6) else (some (0 : Int32)))))
def f_X4_lengthOf (x0 : Int64) : Option (Int32) :=
  cz_it2 (f_X4_lengthOf_L4  (fun x9 x10 => some x9)) 4096 (0 : Int32) x0
def f_X4_put_L31 (a0 : Nat) (x1 : Int64) (K : Int32 → cz_M → Option (Int32 × cz_M)) (rec : Int32 → cz_M → Option (Int32 × cz_M)) (x4 : Int32) (M : cz_M) : Option (Int32 × cz_M) :=
  if x4 < 0 then (K x4 M) else (cz_gd (cz_ib (M.1 a0 7) 60) (cz_gd (cz_hb (cz_chr (Int64.toInt32 ((cz_usl x1 ((8 : Int32) * x4)) &&& (255 : Int64))))) (cz_lt (cz_mI M (a0 + 118) (Int32.toNatClampNeg (M.1 a0 7)) (cz_chr (Int64.toInt32 ((cz_usl x1 ((8 : Int32) * x4)) &&& (255 : Int64))))) fun M7 => cz_lt (cz_mI M7 a0 7 ((M7.1 a0 7) + (1 : Int32))) fun M8 => cz_lt (x4 + (-1)) fun v9 => rec v9 M8)))
def f_X4_put (M : cz_M) (a : Nat) (x1 : Int64) : Option (Int32 × cz_M) :=
  (f_X4_lengthOf x1).bind fun v1 => if v1 = 0 then (some ((-2 : Int32), M)) else (if ((M.1 a 7) + v1) ≤ (60 : Int32) then (cz_lt (v1 - (1 : Int32)) fun v4 => cz_it2 (f_X4_put_L31 a x1 (fun x11 M12 => some ((M12.1 a 7), M12))) 4096 v4 M) else (some ((-4 : Int32), M)))
def f_X4_wipe (M : cz_M) (a : Nat) : Option (Int32 × cz_M) :=
  cz_lt (M.1 a 7) fun v1 => cz_lt (cz_mI M a 7 (0 : Int32)) fun M2 => some (v1, M2)
def f_X4_fault (M : cz_M) (a : Nat) : Option (Int32) :=
  (f_X4_faultOfPad M a).bind fun v1 => some v1
def f_X4_undo (M : cz_M) (a : Nat) : Option (Int32 × cz_M) :=
  if (M.1 a 6) = 0 then (some ((-5 : Int32), M)) else (cz_lt (cz_mI M a 6 ((M.1 a 6) - (1 : Int32))) fun M2 => cz_gd (cz_ib (M2.1 a 6) 4) ((f_X2_copyFrom M2 (a + 1) (M2.2.2 (Int32.toNatClampNeg (M2.1 a 6)))).bind fun M6 => some ((M6.1 a 6), M6)))
def f_X4_save (M : cz_M) (a : Nat) (x1 : Int32) : Option (Int32 × cz_M) :=
  if x1 < 0 then (some ((-2 : Int32), M)) else (if x1 < (2 : Int32) then (cz_gd (cz_ib x1 2) ((f_X2_copyFrom M ((a + 116) + (231 + 57 * Int32.toNatClampNeg x1)) (a + 1)).bind fun M6 => cz_gd (cz_ib x1 2) (cz_gd (cz_zb (1 : Int32)) (cz_lt (cz_mI M6 (a + 117) (Int32.toNatClampNeg x1) (1 : Int32)) fun M8 => some ((M8.1 (a + 1) 8), M8))))) else (some ((-2 : Int32), M)))
def f_X4_restore (M : cz_M) (a : Nat) (x1 : Int32) : Option (Int32 × cz_M) :=
  if x1 < 0 then (some ((-2 : Int32), M)) else (if x1 < (2 : Int32) then (cz_gd (cz_ib x1 2) (if (M.1 (a + 117) (Int32.toNatClampNeg x1)) = 0 then (some ((-5 : Int32), M)) else ((f_X4_remember M a).bind fun M5 => cz_gd (cz_ib x1 2) ((f_X2_copyFrom M5 (a + 1) ((a + 116) + (231 + 57 * Int32.toNatClampNeg x1))).bind fun M9 => some ((M9.1 (a + 1) 8), M9))))) else (some ((-2 : Int32), M)))
def f_X5_in (x0 : Int32) (x1 : Int32) (x2 : Int32) : Option (Int32) :=
  if x0 < x1 then (some (0 : Int32)) else (if x2 < x0 then (some (0 : Int32)) else (some (1 : Int32)))
def f_X5_isLetter (M : cz_M) (a : Nat) (x1 : Int32) : Option (Int32) :=
  cz_gd (cz_ib (4 : Int32) 551) ((f_X5_in x1 (0 : Int32) ((M.1 (a + 1) (Int32.toNatClampNeg (4 : Int32))) - (1 : Int32))).bind fun v2 => cz_gd (cz_zb v2) (some v2))
def f_X5_at (x0 : Int32) (x1 : Int32) : Option (Int32) :=
  some (((111 : Int32) + ((11 : Int32) * x0)) + x1)
def f_X5_of (M : cz_M) (a : Nat) (x1 : Int32) (x2 : Int32) : Option (Int32) :=
  (f_X5_at x1 x2).bind fun v2 => cz_gd (cz_ib v2 551) (some (M.1 (a + 1) (Int32.toNatClampNeg v2)))
def f_X5_inRow (x0 : Int32) (x1 : Int32) : Option (Int32) :=
  some (((31 : Int32) + ((40 : Int32) * x0)) + x1)
def f_X5_ofCensor (x0 : Int32) (x1 : Int32) : Option (Int32) :=
  some (((13 : Int32) + ((4 : Int32) * x0)) + x1)
def f_X5_record_L51 (a0 : Nat) (K : Int32 → cz_M → Option (cz_M)) (rec : Int32 → cz_M → Option (cz_M)) (x1 : Int32) (M : cz_M) : Option (cz_M) :=
  if (551 : Int32) ≤ x1 then (K x1 M) else (cz_gd (cz_ib x1 551) (cz_gd (cz_ib (((551 : Int32) * (M.1 a0 3)) + x1) 2204) (cz_lt (cz_mI M (a0 + 3) (Int32.toNatClampNeg (((551 : Int32) * (M.1 a0 3)) + x1)) (M.1 (a0 + 1) (Int32.toNatClampNeg x1))) fun M5 => cz_lt (x1 + 1) fun v6 => rec v6 M5)))
def f_X5_record_L10 (a0 : Nat) (K : Int32 → cz_M → Option (cz_M)) (rec : Int32 → cz_M → Option (cz_M)) (x1 : Int32) (M : cz_M) : Option (cz_M) :=
  if (1653 : Int32) ≤ x1 then (K x1 M) else (cz_gd (cz_ib (x1 + (551 : Int32)) 2204) (cz_gd (cz_ib x1 2204) (cz_lt (cz_mI M (a0 + 3) (Int32.toNatClampNeg x1) (M.1 (a0 + 3) (Int32.toNatClampNeg (x1 + (551 : Int32))))) fun M14 => cz_lt (x1 + 1) fun v15 => rec v15 M14)))
def f_X5_record (M : cz_M) (a : Nat) : Option (cz_M) :=
  if (M.1 a 3) = (4 : Int32) then (cz_it2 (f_X5_record_L10 a (fun x17 M18 => cz_lt (cz_mI M18 a 3 ((M18.1 a 3) - (1 : Int32))) fun M19 => cz_it2 (f_X5_record_L51 a (fun x20 M21 => cz_lt (cz_mI M21 a 3 ((M21.1 a 3) + (1 : Int32))) fun M22 => some M22)) 4096 (0 : Int32) M19)) 4096 (0 : Int32) M) else (cz_it2 (f_X5_record_L51 a (fun x8 M9 => cz_lt (cz_mI M9 a 3 ((M9.1 a 3) + (1 : Int32))) fun M10 => some M10)) 4096 (0 : Int32) M)
def f_X5_putAside_L2 (a0 : Nat) (K : Int32 → cz_M → Option (cz_M)) (rec : Int32 → cz_M → Option (cz_M)) (x1 : Int32) (M : cz_M) : Option (cz_M) :=
  if (551 : Int32) ≤ x1 then (K x1 M) else (cz_gd (cz_ib x1 551) (cz_gd (cz_ib x1 551) (cz_lt (cz_mI M (a0 + 2) (Int32.toNatClampNeg x1) (M.1 (a0 + 1) (Int32.toNatClampNeg x1))) fun M4 => cz_lt (x1 + 1) fun v5 => rec v5 M4)))
def f_X5_putAside (M : cz_M) (a : Nat) : Option (cz_M) :=
  cz_it2 (f_X5_putAside_L2 a (fun x7 M8 => some M8)) 4096 (0 : Int32) M
def f_X5_putBack_L2 (a0 : Nat) (K : Int32 → cz_M → Option (cz_M)) (rec : Int32 → cz_M → Option (cz_M)) (x1 : Int32) (M : cz_M) : Option (cz_M) :=
  if (551 : Int32) ≤ x1 then (K x1 M) else (cz_gd (cz_ib x1 551) (cz_gd (cz_ib x1 551) (cz_lt (cz_mI M (a0 + 1) (Int32.toNatClampNeg x1) (M.1 (a0 + 2) (Int32.toNatClampNeg x1))) fun M4 => cz_lt (x1 + 1) fun v5 => rec v5 M4)))
def f_X5_putBack (M : cz_M) (a : Nat) : Option (cz_M) :=
  cz_it2 (f_X5_putBack_L2 a (fun x7 M8 => some M8)) 4096 (0 : Int32) M
def f_X5_bits_L4 (x0 : Int32) (K : Int32 → Int32 → Option (Int32)) (rec : Int32 → Int32 → Option (Int32)) (x1 : Int32) (x2 : Int32) : Option (Int32) :=
  if (26 : Int32) ≤ x2 then (K x1 x2) else (cz_lt (x1 + ((x0 >>> (x2 &&& 31)) &&& (1 : Int32))) fun v2 => cz_lt (x2 + 1) fun v3 => rec v2 v3)
def f_X5_bits (x0 : Int32) : Option (Int32) :=
  cz_it2 (f_X5_bits_L4 x0 (fun x5 x6 => some x5)) 4096 (0 : Int32) (0 : Int32)
def f_X5_wordOf_L15 (x2 : Int32) (M : cz_M) (K : Int32 → Int32 → Option (Int32)) (rec : Int32 → Int32 → Option (Int32)) (x3 : Int32) (x4 : Int32) : Option (Int32) :=
  if (x2 - x2 / (4 : Int32) * (4 : Int32)) ≤ x4 then (K x3 x4) else (cz_lt (x3 / (26 : Int32)) fun v3 => cz_lt (x4 + 1) fun v4 => rec v3 v4)
def f_X5_wordOf (M : cz_M) (a : Nat) (x1 : Int32) (x2 : Int32) : Option (Int32) :=
  (f_X5_of M a x1 ((9 : Int32) + (x2 / (4 : Int32)))).bind fun v1 => cz_it2 (f_X5_wordOf_L15 x2 M (fun x6 x7 => some (x6 - x6 / (26 : Int32) * (26 : Int32)))) 4096 v1 (0 : Int32)
def f_X5_strikes_L5 (a0 : Nat) (x1 : Int32) (x2 : Int32) (M : cz_M) (K : Int32 → Int32 → Option (Int32)) (rec : Int32 → Int32 → Option (Int32)) (x3 : Int32) (x4 : Int32) : Option (Int32) :=
  (f_X5_of M a0 x2 (8 : Int32)).bind fun v1 => if v1 ≤ x4 then (K x3 x4) else ((f_X5_ofCensor x1 (0 : Int32)).bind fun v4 => cz_gd (cz_ib v4 551) ((f_X5_wordOf M a0 x2 x4).bind fun v5 => cz_lt (x3 ||| ((((M.1 (a0 + 1) (Int32.toNatClampNeg v4)) >>> (v5 &&& 31)) &&& (1 : Int32)) <<< (x4 &&& 31))) fun v6 => cz_lt (x4 + 1) fun v7 => rec v6 v7))
def f_X5_strikes (M : cz_M) (a : Nat) (x1 : Int32) (x2 : Int32) : Option (Int32) :=
  cz_it2 (f_X5_strikes_L5 a x1 x2 M (fun x9 x10 => some x9)) 4096 (0 : Int32) (0 : Int32)
def f_X5_shiftNow (M : cz_M) (a : Nat) (x1 : Int32) : Option (Int32) :=
  cz_gd (cz_ib (3 : Int32) 551) (cz_gd (cz_ib (((5 : Int32) + ((2 : Int32) * ((M.1 (a + 1) (Int32.toNatClampNeg (3 : Int32))) - (M.1 (a + 1) (Int32.toNatClampNeg (3 : Int32))) / (4 : Int32) * (4 : Int32)))) + x1) 551) (some (M.1 (a + 1) (Int32.toNatClampNeg (((5 : Int32) + ((2 : Int32) * ((M.1 (a + 1) (Int32.toNatClampNeg (3 : Int32))) - (M.1 (a + 1) (Int32.toNatClampNeg (3 : Int32))) / (4 : Int32) * (4 : Int32)))) + x1)))))
def f_X5_isBarred_L4 (a0 : Nat) (x1 : Int32) (M : cz_M) (K : Int32 → Int32 → Option (Int32)) (rec : Int32 → Int32 → Option (Int32)) (x2 : Int32) (x3 : Int32) : Option (Int32) :=
  if x1 ≤ x3 then (K x2 x3) else (if x2 = 0 then ((f_X5_of M a0 x3 (0 : Int32)).bind fun v5 => (f_X5_of M a0 x1 (0 : Int32)).bind fun v6 => if v5 = v6 then (cz_gd (cz_ib x3 40) (if (M.1 (a0 + 7) (Int32.toNatClampNeg x3)) = 0 then (cz_lt (x3 + 1) fun v12 => rec (0 : Int32) v12) else (cz_lt (x3 + 1) fun v14 => rec (1 : Int32) v14))) else (cz_lt (x3 + 1) fun v8 => rec (0 : Int32) v8)) else (cz_lt (x3 + 1) fun v3 => rec (1 : Int32) v3))
def f_X5_isBarred (M : cz_M) (a : Nat) (x1 : Int32) : Option (Int32) :=
  cz_it2 (f_X5_isBarred_L4 a x1 M (fun x16 x17 => cz_gd (cz_zb x16) (some x16))) 4096 (0 : Int32) (0 : Int32)
def f_X5_reads (M : cz_M) (a : Nat) (x1 : Int32) (x2 : Int32) : Option (cz_M) :=
  (f_X5_strikes M a x1 x2).bind fun v1 => cz_gd (cz_ib x2 40) (cz_gd (cz_zb (1 : Int32)) (cz_lt (cz_mI M (a + 8) (Int32.toNatClampNeg x2) (1 : Int32)) fun M3 => (f_X5_ofCensor x1 (1 : Int32)).bind fun v5 => cz_gd (cz_ib v5 551) (cz_gd (cz_ib v5 551) (cz_lt (cz_mI M3 (a + 1) (Int32.toNatClampNeg v5) ((M3.1 (a + 1) (Int32.toNatClampNeg v5)) + (1 : Int32))) fun M6 => (f_X5_bits v1).bind fun v7 => cz_gd (cz_ib (1 : Int32) 551) (if (M6.1 (a + 1) (Int32.toNatClampNeg (1 : Int32))) < v7 then ((f_X5_at x2 (6 : Int32)).bind fun v11 => cz_gd (cz_ib v11 551) (cz_gd (cz_ib v11 551) (cz_lt (cz_mI M6 (a + 1) (Int32.toNatClampNeg v11) ((M6.1 (a + 1) (Int32.toNatClampNeg v11)) + (1 : Int32))) fun M12 => (f_X5_ofCensor x1 (3 : Int32)).bind fun v14 => cz_gd (cz_ib v14 551) (cz_gd (cz_ib v14 551) (cz_lt (cz_mI M12 (a + 1) (Int32.toNatClampNeg v14) ((M12.1 (a + 1) (Int32.toNatClampNeg v14)) + (1 : Int32))) fun M15 => (f_X5_at x2 (2 : Int32)).bind fun v17 => (f_X5_of M15 a x2 (6 : Int32)).bind fun v18 => cz_gd (cz_ib (2 : Int32) 551) (if v18 < (M15.1 (a + 1) (Int32.toNatClampNeg (2 : Int32))) then (cz_gd (cz_ib v17 551) (cz_lt (cz_mI M15 (a + 1) (Int32.toNatClampNeg v17) (0 : Int32)) fun M21 => some M21)) else (cz_gd (cz_ib v17 551) (cz_lt (cz_mI M15 (a + 1) (Int32.toNatClampNeg v17) (2 : Int32)) fun M22 => some M22)))))))) else ((f_X5_at x2 (2 : Int32)).bind fun v24 => cz_gd (cz_ib v24 551) (cz_lt (cz_mI M6 (a + 1) (Int32.toNatClampNeg v24) (3 : Int32)) fun M25 => (f_X5_at x2 (5 : Int32)).bind fun v27 => cz_gd (cz_ib v27 551) (cz_lt (cz_mI M25 (a + 1) (Int32.toNatClampNeg v27) v1) fun M28 => (f_X5_at x2 (7 : Int32)).bind fun v30 => cz_gd (cz_ib v30 551) (cz_lt (cz_mI M28 (a + 1) (Int32.toNatClampNeg v30) x1) fun M31 => (f_X5_ofCensor x1 (2 : Int32)).bind fun v33 => cz_gd (cz_ib v33 551) ((f_X5_bits v1).bind fun v34 => cz_gd (cz_ib v33 551) (cz_lt (cz_mI M31 (a + 1) (Int32.toNatClampNeg v33) ((M31.1 (a + 1) (Int32.toNatClampNeg v33)) + v34)) fun M35 => some M35)))))))))))
def f_X5_goesThrough_L22 (a0 : Nat) (x1 : Int32) (x2 : Int32) (x3 : Int32) (K : Int32 → Int32 → cz_M → Option (cz_M)) (rec : Int32 → Int32 → cz_M → Option (cz_M)) (x4 : Int32) (x5 : Int32) (M : cz_M) : Option (cz_M) :=
  if x3 ≤ x5 then (K x4 x5 M) else ((f_X5_inRow x1 x5).bind fun v6 => cz_gd (cz_ib v6 551) (cz_lt (M.1 (a0 + 1) (Int32.toNatClampNeg v6)) fun v7 => cz_gd (cz_ib (0 : Int32) 551) (if (M.1 (a0 + 1) (Int32.toNatClampNeg (0 : Int32))) ≤ x4 then (cz_lt (x5 + 1) fun v10 => rec x4 v10 M) else ((f_X5_isBarred M a0 v7).bind fun v12 => if v12 = 0 then ((f_X5_reads M a0 x2 v7).bind fun M16 => cz_lt (x4 + 1) fun v17 => cz_lt (x5 + 1) fun v19 => rec v17 v19 M16) else (cz_lt (x5 + 1) fun v14 => rec x4 v14 M)))))
def f_X5_goesThrough_L92 (a0 : Nat) (x1 : Int32) (x3 : Int32) (x6 : Int32) (K : Int32 → Int32 → cz_M → Option (cz_M)) (rec : Int32 → Int32 → cz_M → Option (cz_M)) (x5 : Int32) (x7 : Int32) (M : cz_M) : Option (cz_M) :=
  if x3 ≤ x7 then (K x5 x7 M) else ((f_X5_inRow x1 x7).bind fun v27 => cz_gd (cz_ib v27 551) (cz_lt (M.1 (a0 + 1) (Int32.toNatClampNeg v27)) fun v28 => (f_X5_of M a0 v28 (2 : Int32)).bind fun v29 => if v29 = 0 then (cz_gd (cz_ib v28 40) (if x6 = (1 : Int32) then (if (M.1 (a0 + 8) (Int32.toNatClampNeg v28)) = (1 : Int32) then (cz_gd (cz_ib x5 40) (cz_lt (cz_mI M (a0 + 9) (Int32.toNatClampNeg x5) v28) fun M48 => cz_lt (x5 + 1) fun v49 => cz_lt (x7 + 1) fun v51 => rec v49 v51 M48)) else (cz_lt (x7 + 1) fun v45 => rec x5 v45 M)) else (if (M.1 (a0 + 8) (Int32.toNatClampNeg v28)) = (0 : Int32) then (cz_gd (cz_ib x5 40) (cz_lt (cz_mI M (a0 + 9) (Int32.toNatClampNeg x5) v28) fun M39 => cz_lt (x5 + 1) fun v40 => cz_lt (x7 + 1) fun v42 => rec v40 v42 M39)) else (cz_lt (x7 + 1) fun v36 => rec x5 v36 M)))) else (cz_lt (x7 + 1) fun v31 => rec x5 v31 M)))
def f_X5_goesThrough_L83 (a0 : Nat) (x1 : Int32) (x3 : Int32) (K : Int32 → Int32 → cz_M → Option (cz_M)) (rec : Int32 → Int32 → cz_M → Option (cz_M)) (x5 : Int32) (x6 : Int32) (M : cz_M) : Option (cz_M) :=
  if (2 : Int32) ≤ x6 then (K x5 x6 M) else (cz_it3 (f_X5_goesThrough_L92 a0 x1 x3 x6 (fun x53 x54 M55 => cz_lt (x6 + 1) fun v56 => rec x53 v56 M55)) 4096 x5 (0 : Int32) M)
def f_X5_goesThrough_L169 (a0 : Nat) (x1 : Int32) (x3 : Int32) (x5 : Int32) (K : Int32 → cz_M → Option (cz_M)) (rec : Int32 → cz_M → Option (cz_M)) (x6 : Int32) (M : cz_M) : Option (cz_M) :=
  if x3 ≤ x6 then (K x6 M) else ((f_X5_inRow x1 x6).bind fun v63 => if x5 ≤ x6 then (cz_gd (cz_ib v63 551) (cz_lt (cz_mI M (a0 + 1) (Int32.toNatClampNeg v63) (0 : Int32)) fun M65 => cz_lt (x6 + 1) fun v66 => rec v66 M65)) else (cz_gd (cz_ib x6 40) (cz_gd (cz_ib v63 551) (cz_lt (cz_mI M (a0 + 1) (Int32.toNatClampNeg v63) (M.1 (a0 + 9) (Int32.toNatClampNeg x6))) fun M69 => cz_lt (x6 + 1) fun v70 => rec v70 M69))))
def f_X5_goesThrough (M : cz_M) (a : Nat) (x1 : Int32) : Option (cz_M) :=
  (f_X5_shiftNow M a x1).bind fun v1 => cz_gd (cz_ib ((29 : Int32) + x1) 551) (cz_lt (M.1 (a + 1) (Int32.toNatClampNeg ((29 : Int32) + x1))) fun v3 => cz_it3 (f_X5_goesThrough_L22 a x1 v1 v3 (fun x21 x22 M23 => cz_it3 (f_X5_goesThrough_L83 a x1 v3 (fun x58 x59 M60 => cz_it2 (f_X5_goesThrough_L169 a x1 v3 x58 (fun x72 M73 => cz_gd (cz_ib ((29 : Int32) + x1) 551) (cz_lt (cz_mI M73 (a + 1) (Int32.toNatClampNeg ((29 : Int32) + x1)) x58) fun M75 => some M75))) 4096 (0 : Int32) M60)) 4096 (0 : Int32) (0 : Int32) M23)) 4096 (0 : Int32) (0 : Int32) M)
def f_X5_week_L2 (a0 : Nat) (K : Int32 → cz_M → Option (Int32 × cz_M)) (rec : Int32 → cz_M → Option (Int32 × cz_M)) (x1 : Int32) (M : cz_M) : Option (Int32 × cz_M) :=
  cz_gd (cz_ib (4 : Int32) 551) (if (M.1 (a0 + 1) (Int32.toNatClampNeg (4 : Int32))) ≤ x1 then (K x1 M) else ((f_X5_of M a0 x1 (2 : Int32)).bind fun v4 => if v4 = 0 then (cz_gd (cz_ib x1 40) (cz_gd (cz_zb (1 : Int32)) (cz_lt (cz_mI M (a0 + 7) (Int32.toNatClampNeg x1) (1 : Int32)) fun M11 => cz_gd (cz_ib x1 40) (cz_gd (cz_zb (0 : Int32)) (cz_lt (cz_mI M11 (a0 + 8) (Int32.toNatClampNeg x1) (0 : Int32)) fun M13 => cz_lt (x1 + 1) fun v14 => rec v14 M13))))) else (cz_gd (cz_ib x1 40) (cz_gd (cz_zb (0 : Int32)) (cz_lt (cz_mI M (a0 + 7) (Int32.toNatClampNeg x1) (0 : Int32)) fun M6 => cz_gd (cz_ib x1 40) (cz_gd (cz_zb (0 : Int32)) (cz_lt (cz_mI M6 (a0 + 8) (Int32.toNatClampNeg x1) (0 : Int32)) fun M8 => cz_lt (x1 + 1) fun v9 => rec v9 M8)))))))
def f_X5_week_L69 (a0 : Nat) (K : Int32 → Int32 → cz_M → Option (Int32 × cz_M)) (rec : Int32 → Int32 → cz_M → Option (Int32 × cz_M)) (x1 : Int32) (x2 : Int32) (M : cz_M) : Option (Int32 × cz_M) :=
  cz_gd (cz_ib (4 : Int32) 551) (if (M.1 (a0 + 1) (Int32.toNatClampNeg (4 : Int32))) ≤ x2 then (K x1 x2 M) else ((f_X5_of M a0 x2 (2 : Int32)).bind fun v24 => if v24 = (3 : Int32) then ((f_X5_at x2 (2 : Int32)).bind fun v29 => cz_gd (cz_ib v29 551) (cz_lt (cz_mI M (a0 + 1) (Int32.toNatClampNeg v29) (1 : Int32)) fun M30 => (f_X5_at x2 (4 : Int32)).bind fun v32 => cz_gd (cz_ib (3 : Int32) 551) ((f_X5_of M30 a0 x2 (3 : Int32)).bind fun v34 => cz_gd (cz_ib v32 551) (cz_lt (cz_mI M30 (a0 + 1) (Int32.toNatClampNeg v32) ((M30.1 (a0 + 1) (Int32.toNatClampNeg (3 : Int32))) - v34)) fun M35 => cz_lt (x1 + 1) fun v36 => cz_lt (x2 + 1) fun v38 => rec v36 v38 M35)))) else (cz_lt (x2 + 1) fun v26 => rec x1 v26 M)))
def f_X5_week (M : cz_M) (a : Nat) : Option (Int32 × cz_M) :=
  cz_it2 (f_X5_week_L2 a (fun x16 M17 => (f_X5_goesThrough M17 a (0 : Int32)).bind fun M18 => (f_X5_goesThrough M18 a (1 : Int32)).bind fun M19 => cz_gd (cz_ib (3 : Int32) 551) (cz_gd (cz_ib (3 : Int32) 551) (cz_lt (cz_mI M19 (a + 1) (Int32.toNatClampNeg (3 : Int32)) ((M19.1 (a + 1) (Int32.toNatClampNeg (3 : Int32))) + (1 : Int32))) fun M21 => cz_it3 (f_X5_week_L69 a (fun x40 x41 M42 => some (x40, M42))) 4096 (0 : Int32) (0 : Int32) M21)))) 4096 (0 : Int32) M
def f_X5_passes_L4 (a0 : Nat) (x1 : Int32) (K : Int32 → Int32 → cz_M → Option (Int32 × cz_M)) (rec : Int32 → Int32 → cz_M → Option (Int32 × cz_M)) (x2 : Int32) (x3 : Int32) (M : cz_M) : Option (Int32 × cz_M) :=
  if x1 ≤ x3 then (K x2 x3 M) else (cz_b2 (f_X5_week M a0) fun v3 M2 => cz_lt (x2 + v3) fun v4 => cz_lt (x3 + 1) fun v5 => rec v4 v5 M2)
def f_X5_passes (M : cz_M) (a : Nat) (x1 : Int32) : Option (Int32 × cz_M) :=
  cz_it3 (f_X5_passes_L4 a x1 (fun x7 x8 M9 => some (x7, M9))) 4096 (0 : Int32) (0 : Int32) M
def f_X5_many_L4 (a0 : Nat) (x1 : Int32) (M : cz_M) (K : Int32 → Int32 → Option (Int32)) (rec : Int32 → Int32 → Option (Int32)) (x2 : Int32) (x3 : Int32) : Option (Int32) :=
  cz_gd (cz_ib (4 : Int32) 551) (if (M.1 (a0 + 1) (Int32.toNatClampNeg (4 : Int32))) ≤ x3 then (K x2 x3) else ((f_X5_of M a0 x3 (2 : Int32)).bind fun v3 => if v3 = x1 then (cz_lt (x2 + (1 : Int32)) fun v8 => cz_lt (x3 + 1) fun v9 => rec v8 v9) else (cz_lt (x2 + (0 : Int32)) fun v5 => cz_lt (x3 + 1) fun v6 => rec v5 v6)))
def f_X5_many (M : cz_M) (a : Nat) (x1 : Int32) : Option (Int32) :=
  cz_it2 (f_X5_many_L4 a x1 M (fun x11 x12 => some x11)) 4096 (0 : Int32) (0 : Int32)
def f_X5_struckWords_L4 (a0 : Nat) (M : cz_M) (K : Int32 → Int32 → Option (Int32)) (rec : Int32 → Int32 → Option (Int32)) (x1 : Int32) (x2 : Int32) : Option (Int32) :=
  cz_gd (cz_ib (4 : Int32) 551) (if (M.1 (a0 + 1) (Int32.toNatClampNeg (4 : Int32))) ≤ x2 then (K x1 x2) else ((f_X5_of M a0 x2 (2 : Int32)).bind fun v3 => if v3 = (1 : Int32) then ((f_X5_of M a0 x2 (5 : Int32)).bind fun v8 => (f_X5_bits v8).bind fun v9 => cz_lt (x1 + v9) fun v10 => cz_lt (x2 + 1) fun v11 => rec v10 v11) else (cz_lt (x1 + (0 : Int32)) fun v5 => cz_lt (x2 + 1) fun v6 => rec v5 v6)))
def f_X5_struckWords (M : cz_M) (a : Nat) : Option (Int32) :=
  cz_it2 (f_X5_struckWords_L4 a M (fun x13 x14 => some x13)) 4096 (0 : Int32) (0 : Int32)
def f_X5_turnedBack (M : cz_M) (a : Nat) : Option (Int32) :=
  (f_X5_ofCensor (0 : Int32) (3 : Int32)).bind fun v2 => cz_gd (cz_ib v2 551) ((f_X5_ofCensor (1 : Int32) (3 : Int32)).bind fun v4 => cz_gd (cz_ib v4 551) ((f_X5_ofCensor (2 : Int32) (3 : Int32)).bind fun v6 => cz_gd (cz_ib v6 551) ((f_X5_ofCensor (3 : Int32) (3 : Int32)).bind fun v8 => cz_gd (cz_ib v8 551) (some ((((M.1 (a + 1) (Int32.toNatClampNeg v2)) + (M.1 (a + 1) (Int32.toNatClampNeg v4))) + (M.1 (a + 1) (Int32.toNatClampNeg v6))) + (M.1 (a + 1) (Int32.toNatClampNeg v8)))))))
def f_X5_lays (M : cz_M) (a : Nat) (x1 : Int32) (x2 : Int32) : Option (Int32 × cz_M) :=
  (f_X5_record M a).bind fun M1 => cz_gd (cz_ib x1 551) (cz_lt (M1.1 (a + 1) (Int32.toNatClampNeg x1)) fun v3 => cz_gd (cz_ib x1 551) (cz_lt (cz_mI M1 (a + 1) (Int32.toNatClampNeg x1) x2) fun M5 => some (v3, M5)))
def f_X5_set (M : cz_M) (a : Nat) (x1 : Int32) (x2 : Int32) : Option (Int32 × cz_M) :=
  if x1 = 0 then ((f_X5_in x2 (1 : Int32) (9 : Int32)).bind fun v19 => if v19 = 0 then (some ((-2 : Int32), M)) else (cz_b2 (f_X5_lays M a x1 x2) fun v22 M21 => some (v22, M21))) else (if x1 = (1 : Int32) then ((f_X5_in x2 (0 : Int32) (8 : Int32)).bind fun v15 => if v15 = 0 then (some ((-2 : Int32), M)) else (cz_b2 (f_X5_lays M a x1 x2) fun v18 M17 => some (v18, M17))) else (if x1 = (2 : Int32) then ((f_X5_in x2 (1 : Int32) (5 : Int32)).bind fun v7 => if v7 = 0 then (if (0 : Int32) = 0 then (some ((-2 : Int32), M)) else (cz_b2 (f_X5_lays M a x1 x2) fun v11 M10 => some (v11, M10))) else (if (1 : Int32) = 0 then (some ((-2 : Int32), M)) else (cz_b2 (f_X5_lays M a x1 x2) fun v14 M13 => some (v14, M13)))) else (if (0 : Int32) = 0 then (some ((-2 : Int32), M)) else (cz_b2 (f_X5_lays M a x1 x2) fun v6 M5 => some (v6, M5)))))
def f_X5_strike (M : cz_M) (a : Nat) (x1 : Int32) (x2 : Int32) : Option (Int32 × cz_M) :=
  (f_X5_in x1 (0 : Int32) (3 : Int32)).bind fun v1 => if v1 = 0 then (some ((-1 : Int32), M)) else ((f_X5_in x2 (0 : Int32) (25 : Int32)).bind fun v3 => if v3 = 0 then (some ((-1 : Int32), M)) else ((f_X5_ofCensor x1 (0 : Int32)).bind fun v5 => (f_X5_ofCensor x1 (0 : Int32)).bind fun v7 => cz_gd (cz_ib v7 551) (cz_b2 (f_X5_lays M a v5 ((M.1 (a + 1) (Int32.toNatClampNeg v7)) ^^^ ((1 : Int32) <<< (x2 &&& 31)))) fun v9 M8 => (f_X5_ofCensor x1 (0 : Int32)).bind fun v11 => cz_gd (cz_ib v11 551) ((f_X5_bits (M8.1 (a + 1) (Int32.toNatClampNeg v11))).bind fun v12 => some (v12, M8)))))
def f_X5_isShift (x0 : Int32) : Option (Int32) :=
  (f_X5_in x0 (0 : Int32) (7 : Int32)).bind fun v1 => cz_gd (cz_zb v1) (some v1)
def f_X5_trades (M : cz_M) (a : Nat) (x1 : Int32) (x2 : Int32) : Option (cz_M) :=
  cz_gd (cz_ib ((5 : Int32) + x1) 551) (cz_lt (M.1 (a + 1) (Int32.toNatClampNeg ((5 : Int32) + x1))) fun v2 => cz_gd (cz_ib ((5 : Int32) + x2) 551) (cz_gd (cz_ib ((5 : Int32) + x1) 551) (cz_lt (cz_mI M (a + 1) (Int32.toNatClampNeg ((5 : Int32) + x1)) (M.1 (a + 1) (Int32.toNatClampNeg ((5 : Int32) + x2)))) fun M5 => cz_gd (cz_ib ((5 : Int32) + x2) 551) (cz_lt (cz_mI M5 (a + 1) (Int32.toNatClampNeg ((5 : Int32) + x2)) v2) fun M7 => some M7))))
def f_X5_trade (M : cz_M) (a : Nat) (x1 : Int32) (x2 : Int32) : Option (Int32 × cz_M) :=
  (f_X5_isShift x1).bind fun v1 => if v1 = 0 then (some ((-1 : Int32), M)) else ((f_X5_isShift x2).bind fun v3 => if v3 = 0 then (some ((-1 : Int32), M)) else (cz_gd (cz_ib ((5 : Int32) + x1) 551) (cz_gd (cz_ib ((5 : Int32) + x2) 551) (if (M.1 (a + 1) (Int32.toNatClampNeg ((5 : Int32) + x1))) = (M.1 (a + 1) (Int32.toNatClampNeg ((5 : Int32) + x2))) then (some ((-5 : Int32), M)) else ((f_X5_record M a).bind fun M8 => (f_X5_trades M8 a x1 x2).bind fun M9 => cz_gd (cz_ib ((5 : Int32) + x1) 551) (some ((M9.1 (a + 1) (Int32.toNatClampNeg ((5 : Int32) + x1))), M9)))))))
def f_X5_placeOf_L13 (a0 : Nat) (x1 : Int32) (x2 : Int32) (M : cz_M) (K : Int32 → Int32 → Option (Int32)) (rec : Int32 → Int32 → Option (Int32)) (x3 : Int32) (x4 : Int32) : Option (Int32) :=
  cz_gd (cz_ib ((29 : Int32) + x2) 551) (if (M.1 (a0 + 1) (Int32.toNatClampNeg ((29 : Int32) + x2))) ≤ x4 then (K x3 x4) else ((f_X5_of M a0 x1 (2 : Int32)).bind fun v4 => if v4 = 0 then ((f_X5_inRow x2 x4).bind fun v7 => cz_gd (cz_ib v7 551) (if (M.1 (a0 + 1) (Int32.toNatClampNeg v7)) = x1 then (cz_lt (x4 + 1) fun v11 => rec x4 v11) else (cz_lt (x4 + 1) fun v9 => rec x3 v9))) else (K x3 x4)))
def f_X5_placeOf (M : cz_M) (a : Nat) (x1 : Int32) : Option (Int32) :=
  (f_X5_of M a x1 (1 : Int32)).bind fun v1 => cz_it2 (f_X5_placeOf_L13 a x1 v1 M (fun x13 x14 => some x13)) 4096 (-6 : Int32) (0 : Int32)
def f_X5_burn_L66 (a0 : Nat) (x1 : Int32) (x2 : Int32) (K : Int32 → cz_M → Option (Int32 × cz_M)) (rec : Int32 → cz_M → Option (Int32 × cz_M)) (x4 : Int32) (M : cz_M) : Option (Int32 × cz_M) :=
  cz_gd (cz_ib ((29 : Int32) + x2) 551) (if (M.1 (a0 + 1) (Int32.toNatClampNeg ((29 : Int32) + x2))) ≤ x4 then (K x4 M) else ((f_X5_inRow x2 x4).bind fun v16 => (f_X5_inRow x2 (x4 + (1 : Int32))).bind fun v18 => cz_gd (cz_ib v18 551) (cz_gd (cz_ib v16 551) (cz_lt (cz_mI M (a0 + 1) (Int32.toNatClampNeg v16) (M.1 (a0 + 1) (Int32.toNatClampNeg v18))) fun M19 => cz_lt (x4 + 1) fun v20 => rec v20 M19))))
def f_X5_burn (M : cz_M) (a : Nat) (x1 : Int32) : Option (Int32 × cz_M) :=
  (f_X5_isLetter M a x1).bind fun v1 => if v1 = 0 then (some ((-1 : Int32), M)) else ((f_X5_of M a x1 (2 : Int32)).bind fun v3 => if v3 = 0 then ((f_X5_record M a).bind fun M5 => (f_X5_of M5 a x1 (1 : Int32)).bind fun v6 => (f_X5_placeOf M5 a x1).bind fun v7 => (f_X5_at x1 (2 : Int32)).bind fun v9 => cz_gd (cz_ib v9 551) (cz_lt (cz_mI M5 (a + 1) (Int32.toNatClampNeg v9) (2 : Int32)) fun M10 => cz_gd (cz_ib ((29 : Int32) + v6) 551) (cz_gd (cz_ib ((29 : Int32) + v6) 551) (cz_lt (cz_mI M10 (a + 1) (Int32.toNatClampNeg ((29 : Int32) + v6)) ((M10.1 (a + 1) (Int32.toNatClampNeg ((29 : Int32) + v6))) - (1 : Int32))) fun M12 => cz_it2 (f_X5_burn_L66 a x1 v6 (fun x22 M23 => cz_gd (cz_ib ((29 : Int32) + v6) 551) ((f_X5_inRow v6 (M23.1 (a + 1) (Int32.toNatClampNeg ((29 : Int32) + v6)))).bind fun v26 => cz_gd (cz_ib v26 551) (cz_lt (cz_mI M23 (a + 1) (Int32.toNatClampNeg v26) (0 : Int32)) fun M27 => cz_gd (cz_ib (3 : Int32) 551) ((f_X5_of M27 a x1 (3 : Int32)).bind fun v29 => some (((M27.1 (a + 1) (Int32.toNatClampNeg (3 : Int32))) - v29), M27)))))) 4096 v7 M12)))) else (some ((-5 : Int32), M)))
def f_X5_pass (M : cz_M) (a : Nat) (x1 : Int32) : Option (Int32 × cz_M) :=
  (f_X5_in x1 (1 : Int32) (52 : Int32)).bind fun v1 => if v1 = 0 then (some ((-2 : Int32), M)) else (cz_gd (cz_ib (3 : Int32) 551) (if ((M.1 (a + 1) (Int32.toNatClampNeg (3 : Int32))) + x1) ≤ (9999 : Int32) then ((f_X5_record M a).bind fun M5 => cz_b2 (f_X5_passes M5 a x1) fun v7 M6 => some (v7, M6)) else (some ((-4 : Int32), M))))
def f_X5_aheadOf_L5 (a0 : Nat) (x1 : Int32) (M : cz_M) (K : Int32 → Int32 → Option (Int32)) (rec : Int32 → Int32 → Option (Int32)) (x2 : Int32) (x3 : Int32) : Option (Int32) :=
  if x1 ≤ x3 then (K x2 x3) else ((f_X5_of M a0 x3 (0 : Int32)).bind fun v2 => (f_X5_of M a0 x1 (0 : Int32)).bind fun v3 => if v2 = v3 then (cz_lt (x3 + 1) fun v7 => rec x3 v7) else (cz_lt (x3 + 1) fun v5 => rec x2 v5))
def f_X5_aheadOf (M : cz_M) (a : Nat) (x1 : Int32) : Option (Int32) :=
  cz_it2 (f_X5_aheadOf_L5 a x1 M (fun x9 x10 => some x9)) 4096 (-6 : Int32) (0 : Int32)
def f_X5_letter (M : cz_M) (a : Nat) (x1 : Int32) (x2 : Int32) : Option (Int32) :=
  (f_X5_isLetter M a x1).bind fun v1 => if v1 = 0 then (some (-1 : Int32)) else (if x2 = (0 : Int32) then ((f_X5_of M a x1 x2).bind fun v4 => some v4) else (if x2 = (1 : Int32) then ((f_X5_of M a x1 x2).bind fun v6 => some v6) else (if x2 = (2 : Int32) then ((f_X5_of M a x1 x2).bind fun v8 => some v8) else (if x2 = (3 : Int32) then ((f_X5_placeOf M a x1).bind fun v10 => some v10) else (if x2 = (4 : Int32) then ((f_X5_of M a x1 (x2 - (1 : Int32))).bind fun v12 => some v12) else (if x2 = (5 : Int32) then ((f_X5_of M a x1 (x2 - (1 : Int32))).bind fun v14 => some v14) else (if x2 = (6 : Int32) then ((f_X5_of M a x1 (5 : Int32)).bind fun v16 => (f_X5_bits v16).bind fun v17 => some v17) else (if x2 = (7 : Int32) then ((f_X5_of M a x1 (x2 - (1 : Int32))).bind fun v19 => some v19) else (if x2 = (8 : Int32) then ((f_X5_of M a x1 (x2 - (1 : Int32))).bind fun v21 => some v21) else (if x2 = (9 : Int32) then ((f_X5_aheadOf M a x1).bind fun v23 => some v23) else (if x2 = (10 : Int32) then ((f_X5_of M a x1 (8 : Int32)).bind fun v25 => some v25) else (some (-2 : Int32)))))))))))))
def f_X5_word (M : cz_M) (a : Nat) (x1 : Int32) (x2 : Int32) : Option (Int32) :=
  (f_X5_isLetter M a x1).bind fun v1 => if v1 = 0 then (some (-1 : Int32)) else ((f_X5_of M a x1 (8 : Int32)).bind fun v3 => (f_X5_in x2 (0 : Int32) (v3 - (1 : Int32))).bind fun v4 => if v4 = 0 then (some (-1 : Int32)) else ((f_X5_of M a x1 (5 : Int32)).bind fun v6 => if ((v6 >>> (x2 &&& 31)) &&& (1 : Int32)) = (1 : Int32) then (some (42 : Int32)) else ((f_X5_wordOf M a x1 x2).bind fun v8 => some ((97 : Int32) + v8))))
def f_X5_why (M : cz_M) (a : Nat) (x1 : Int32) : Option (Int32 × cz_M) :=
  (f_X5_isLetter M a x1).bind fun v1 => if v1 = 0 then (some ((-1 : Int32), M)) else ((f_X5_of M a x1 (2 : Int32)).bind fun v3 => if v3 = 0 then ((f_X5_putAside M a).bind fun M5 => cz_b2 (f_X5_week M5 a) fun v7 M6 => (f_X5_of M6 a x1 (2 : Int32)).bind fun v8 => if v8 = (1 : Int32) then ((f_X5_putBack M6 a).bind fun M19 => some ((0 : Int32), M19)) else ((f_X5_isBarred M6 a x1).bind fun v10 => if v10 = 0 then (cz_gd (cz_ib x1 40) (if (M6.1 (a + 8) (Int32.toNatClampNeg x1)) = 0 then ((f_X5_putBack M6 a).bind fun M17 => some ((3 : Int32), M17)) else (if v8 = 0 then ((f_X5_putBack M6 a).bind fun M16 => some ((4 : Int32), M16)) else ((f_X5_putBack M6 a).bind fun M15 => some ((5 : Int32), M15))))) else ((f_X5_putBack M6 a).bind fun M18 => some ((2 : Int32), M18)))) else (some ((1 : Int32), M)))
def f_X5_shiftsOf_L4 (a0 : Nat) (x1 : Int32) (M : cz_M) (K : Int32 → Int32 → Option (Int32)) (rec : Int32 → Int32 → Option (Int32)) (x2 : Int32) (x3 : Int32) : Option (Int32) :=
  if (8 : Int32) ≤ x3 then (K x2 x3) else (cz_gd (cz_ib ((5 : Int32) + x3) 551) (if (M.1 (a0 + 1) (Int32.toNatClampNeg ((5 : Int32) + x3))) = x1 then (cz_lt (x2 + (1 : Int32)) fun v7 => cz_lt (x3 + 1) fun v8 => rec v7 v8) else (cz_lt (x2 + (0 : Int32)) fun v4 => cz_lt (x3 + 1) fun v5 => rec v4 v5)))
def f_X5_shiftsOf (M : cz_M) (a : Nat) (x1 : Int32) : Option (Int32) :=
  cz_it2 (f_X5_shiftsOf_L4 a x1 M (fun x10 x11 => some x10)) 4096 (0 : Int32) (0 : Int32)
def f_X5_censor (M : cz_M) (a : Nat) (x1 : Int32) (x2 : Int32) : Option (Int32) :=
  (f_X5_in x1 (0 : Int32) (3 : Int32)).bind fun v1 => if v1 = 0 then (some (-1 : Int32)) else (if x2 = (1 : Int32) then ((f_X5_shiftsOf M a x1).bind fun v11 => some v11) else (if x2 = 0 then ((f_X5_ofCensor x1 (0 : Int32)).bind fun v10 => cz_gd (cz_ib v10 551) (some (M.1 (a + 1) (Int32.toNatClampNeg v10)))) else ((f_X5_in x2 (2 : Int32) (4 : Int32)).bind fun v5 => if v5 = 0 then (some (-2 : Int32)) else ((f_X5_ofCensor x1 (x2 - (1 : Int32))).bind fun v8 => cz_gd (cz_ib v8 551) (some (M.1 (a + 1) (Int32.toNatClampNeg v8)))))))
def f_X5_onShift (M : cz_M) (a : Nat) (x1 : Int32) (x2 : Int32) : Option (Int32) :=
  (f_X5_in x2 (0 : Int32) (1 : Int32)).bind fun v1 => if v1 = 0 then (some (-1 : Int32)) else ((f_X5_in x1 (0 : Int32) (9999 : Int32)).bind fun v3 => if v3 = 0 then (some (-2 : Int32)) else (cz_gd (cz_ib (((5 : Int32) + ((2 : Int32) * (x1 - x1 / (4 : Int32) * (4 : Int32)))) + x2) 551) (some (M.1 (a + 1) (Int32.toNatClampNeg (((5 : Int32) + ((2 : Int32) * (x1 - x1 / (4 : Int32) * (4 : Int32)))) + x2))))))
def f_X5_delays_L4 (a0 : Nat) (M : cz_M) (K : Int32 → Int32 → Option (Int32)) (rec : Int32 → Int32 → Option (Int32)) (x1 : Int32) (x2 : Int32) : Option (Int32) :=
  cz_gd (cz_ib (4 : Int32) 551) (if (M.1 (a0 + 1) (Int32.toNatClampNeg (4 : Int32))) ≤ x2 then (K x1 x2) else ((f_X5_of M a0 x2 (2 : Int32)).bind fun v3 => if v3 = (1 : Int32) then ((f_X5_of M a0 x2 (4 : Int32)).bind fun v8 => cz_lt (x1 + v8) fun v9 => cz_lt (x2 + 1) fun v10 => rec v9 v10) else (cz_lt (x1 + (0 : Int32)) fun v5 => cz_lt (x2 + 1) fun v6 => rec v5 v6)))
def f_X5_delays (M : cz_M) (a : Nat) : Option (Int32) :=
  cz_it2 (f_X5_delays_L4 a M (fun x12 x13 => some x12)) 4096 (0 : Int32) (0 : Int32)
def f_X5_longest_L4 (a0 : Nat) (M : cz_M) (K : Int32 → Int32 → Option (Int32)) (rec : Int32 → Int32 → Option (Int32)) (x1 : Int32) (x2 : Int32) : Option (Int32) :=
  cz_gd (cz_ib (4 : Int32) 551) (if (M.1 (a0 + 1) (Int32.toNatClampNeg (4 : Int32))) ≤ x2 then (K x1 x2) else ((f_X5_of M a0 x2 (4 : Int32)).bind fun v3 => if v3 ≤ x1 then (cz_lt (x2 + 1) fun v5 => rec x1 v5) else ((f_X5_of M a0 x2 (4 : Int32)).bind fun v7 => cz_lt (x2 + 1) fun v8 => rec v7 v8)))
def f_X5_longest (M : cz_M) (a : Nat) : Option (Int32) :=
  cz_it2 (f_X5_longest_L4 a M (fun x10 x11 => some x10)) 4096 (0 : Int32) (0 : Int32)
def f_X5_waitingThreads_L4 (a0 : Nat) (M : cz_M) (K : Int32 → Int32 → Option (Int32)) (rec : Int32 → Int32 → Option (Int32)) (x1 : Int32) (x2 : Int32) : Option (Int32) :=
  cz_gd (cz_ib (4 : Int32) 551) (if (M.1 (a0 + 1) (Int32.toNatClampNeg (4 : Int32))) ≤ x2 then (K x1 x2) else ((f_X5_of M a0 x2 (2 : Int32)).bind fun v3 => if v3 = 0 then ((f_X5_of M a0 x2 (0 : Int32)).bind fun v8 => cz_lt (x1 ||| ((1 : Int32) <<< (v8 &&& 31))) fun v9 => cz_lt (x2 + 1) fun v10 => rec v9 v10) else (cz_lt (x1 ||| (0 : Int32)) fun v5 => cz_lt (x2 + 1) fun v6 => rec v5 v6)))
def f_X5_waitingThreads (M : cz_M) (a : Nat) : Option (Int32) :=
  cz_it2 (f_X5_waitingThreads_L4 a M (fun x12 x13 => (f_X5_bits x12).bind fun v14 => some v14)) 4096 (0 : Int32) (0 : Int32)
def f_X5_count (M : cz_M) (a : Nat) (x1 : Int32) : Option (Int32) :=
  (f_X5_in x1 (0 : Int32) (4 : Int32)).bind fun v1 => if v1 = 0 then (if x1 = (5 : Int32) then ((f_X5_many M a (x1 - (5 : Int32))).bind fun v4 => some v4) else (if x1 = (6 : Int32) then ((f_X5_many M a (x1 - (5 : Int32))).bind fun v6 => some v6) else (if x1 = (7 : Int32) then ((f_X5_many M a (x1 - (5 : Int32))).bind fun v8 => some v8) else (if x1 = (8 : Int32) then (cz_gd (cz_ib (((29 : Int32) + x1) - (8 : Int32)) 551) (some (M.1 (a + 1) (Int32.toNatClampNeg (((29 : Int32) + x1) - (8 : Int32)))))) else (if x1 = (9 : Int32) then (cz_gd (cz_ib (((29 : Int32) + x1) - (8 : Int32)) 551) (some (M.1 (a + 1) (Int32.toNatClampNeg (((29 : Int32) + x1) - (8 : Int32)))))) else (if x1 = (10 : Int32) then ((f_X5_delays M a).bind fun v14 => some v14) else (if x1 = (11 : Int32) then ((f_X5_longest M a).bind fun v16 => some v16) else (if x1 = (12 : Int32) then ((f_X5_struckWords M a).bind fun v18 => some v18) else (if x1 = (13 : Int32) then ((f_X5_waitingThreads M a).bind fun v20 => some v20) else (if x1 = (14 : Int32) then (some (M.1 a 7)) else (if x1 = (15 : Int32) then (some (M.1 a 3)) else (some (-2 : Int32))))))))))))) else (cz_gd (cz_ib x1 551) (some (M.1 (a + 1) (Int32.toNatClampNeg x1))))
def f_X5_untilCome_L16 (a0 : Nat) (x1 : Int32) (K : Int32 → cz_M → Option (Int32 × cz_M)) (rec : Int32 → cz_M → Option (Int32 × cz_M)) (x2 : Int32) (M : cz_M) : Option (Int32 × cz_M) :=
  (f_X5_of M a0 x1 (2 : Int32)).bind fun v4 => if v4 = 0 then (if (100 : Int32) ≤ x2 then (K x2 M) else (cz_b2 (f_X5_week M a0) fun v8 M7 => cz_lt (x2 + 1) fun v9 => rec v9 M7)) else (K x2 M)
def f_X5_untilCome (M : cz_M) (a : Nat) (x1 : Int32) : Option (Int32 × cz_M) :=
  (f_X5_isLetter M a x1).bind fun v1 => if v1 = 0 then (some ((-1 : Int32), M)) else ((f_X5_putAside M a).bind fun M3 => cz_it2 (f_X5_untilCome_L16 a x1 (fun x11 M12 => (f_X5_of M12 a x1 (2 : Int32)).bind fun v13 => if v13 = (1 : Int32) then ((f_X5_putBack M12 a).bind fun M17 => if (1 : Int32) = 0 then (some ((-6 : Int32), M17)) else (some (x11, M17))) else ((f_X5_putBack M12 a).bind fun M15 => if (0 : Int32) = 0 then (some ((-6 : Int32), M15)) else (some (x11, M15))))) 4096 (0 : Int32) M3)
def f_X5_ifPassed (M : cz_M) (a : Nat) (x1 : Int32) (x2 : Int32) : Option (Int32 × cz_M) :=
  (f_X5_in x1 (1 : Int32) (100 : Int32)).bind fun v1 => if v1 = 0 then (some ((-2 : Int32), M)) else ((f_X5_in x2 (0 : Int32) (2 : Int32)).bind fun v3 => if v3 = 0 then (some ((-2 : Int32), M)) else ((f_X5_putAside M a).bind fun M5 => if x2 = 0 then ((f_X5_many M5 a (1 : Int32)).bind fun v30 => cz_b2 (f_X5_passes M5 a x1) fun v32 M31 => if x2 = 0 then ((f_X5_many M31 a (1 : Int32)).bind fun v39 => (f_X5_putBack M31 a).bind fun M40 => some ((v39 - v30), M40)) else (if x2 = (1 : Int32) then ((f_X5_many M31 a (2 : Int32)).bind fun v37 => (f_X5_putBack M31 a).bind fun M38 => some ((v37 - v30), M38)) else ((f_X5_struckWords M31 a).bind fun v35 => (f_X5_putBack M31 a).bind fun M36 => some ((v35 - v30), M36)))) else (if x2 = (1 : Int32) then ((f_X5_many M5 a (2 : Int32)).bind fun v19 => cz_b2 (f_X5_passes M5 a x1) fun v21 M20 => if x2 = 0 then ((f_X5_many M20 a (1 : Int32)).bind fun v28 => (f_X5_putBack M20 a).bind fun M29 => some ((v28 - v19), M29)) else (if x2 = (1 : Int32) then ((f_X5_many M20 a (2 : Int32)).bind fun v26 => (f_X5_putBack M20 a).bind fun M27 => some ((v26 - v19), M27)) else ((f_X5_struckWords M20 a).bind fun v24 => (f_X5_putBack M20 a).bind fun M25 => some ((v24 - v19), M25)))) else ((f_X5_struckWords M5 a).bind fun v8 => cz_b2 (f_X5_passes M5 a x1) fun v10 M9 => if x2 = 0 then ((f_X5_many M9 a (1 : Int32)).bind fun v17 => (f_X5_putBack M9 a).bind fun M18 => some ((v17 - v8), M18)) else (if x2 = (1 : Int32) then ((f_X5_many M9 a (2 : Int32)).bind fun v15 => (f_X5_putBack M9 a).bind fun M16 => some ((v15 - v8), M16)) else ((f_X5_struckWords M9 a).bind fun v13 => (f_X5_putBack M9 a).bind fun M14 => some ((v13 - v8), M14)))))))
def f_X5_bestTrade_L30 (a0 : Nat) (x3 : Int32) (K : Int32 → Int32 → Int32 → cz_M → Option (Int32 × cz_M)) (rec : Int32 → Int32 → Int32 → cz_M → Option (Int32 × cz_M)) (x1 : Int32) (x2 : Int32) (x4 : Int32) (M : cz_M) : Option (Int32 × cz_M) :=
  if (8 : Int32) ≤ x4 then (K x1 x2 x4 M) else (cz_gd (cz_ib ((5 : Int32) + x3) 551) (cz_gd (cz_ib ((5 : Int32) + x4) 551) (if (M.1 (a0 + 1) (Int32.toNatClampNeg ((5 : Int32) + x3))) = (M.1 (a0 + 1) (Int32.toNatClampNeg ((5 : Int32) + x4))) then (cz_lt (x4 + 1) fun v11 => rec x1 x2 v11 M) else ((f_X5_trades M a0 x3 x4).bind fun M13 => cz_b2 (f_X5_passes M13 a0 (4 : Int32)) fun v15 M14 => if v15 ≤ x2 then (if v15 ≤ x2 then ((f_X5_putBack M14 a0).bind fun M18 => cz_lt (x4 + 1) fun v19 => rec x1 x2 v19 M18) else ((f_X5_putBack M14 a0).bind fun M21 => cz_lt (x4 + 1) fun v22 => rec x1 v15 v22 M21)) else (cz_lt (((8 : Int32) * x3) + x4) fun v24 => if v15 ≤ x2 then ((f_X5_putBack M14 a0).bind fun M26 => cz_lt (x4 + 1) fun v27 => rec v24 x2 v27 M26) else ((f_X5_putBack M14 a0).bind fun M29 => cz_lt (x4 + 1) fun v30 => rec v24 v15 v30 M29))))))
def f_X5_bestTrade_L19 (a0 : Nat) (K : Int32 → Int32 → Int32 → cz_M → Option (Int32 × cz_M)) (rec : Int32 → Int32 → Int32 → cz_M → Option (Int32 × cz_M)) (x1 : Int32) (x2 : Int32) (x3 : Int32) (M : cz_M) : Option (Int32 × cz_M) :=
  if (8 : Int32) ≤ x3 then (K x1 x2 x3 M) else (cz_lt (x3 + (1 : Int32)) fun v6 => cz_it4 (f_X5_bestTrade_L30 a0 x3 (fun x32 x33 x34 M35 => cz_lt (x3 + 1) fun v36 => rec x32 x33 v36 M35)) 4096 x1 x2 v6 M)
def f_X5_bestTrade (M : cz_M) (a : Nat) : Option (Int32 × cz_M) :=
  (f_X5_putAside M a).bind fun M1 => cz_b2 (f_X5_passes M1 a (4 : Int32)) fun v3 M2 => (f_X5_putBack M2 a).bind fun M4 => cz_it4 (f_X5_bestTrade_L19 a (fun x38 x39 x40 M41 => some (x38, M41))) 4096 (-6 : Int32) v3 (0 : Int32) M4
def f_X5_leastLimit_L10 (a0 : Nat) (K : Int32 → Int32 → cz_M → Option (Int32 × cz_M)) (rec : Int32 → Int32 → cz_M → Option (Int32 × cz_M)) (x1 : Int32) (x2 : Int32) (M : cz_M) : Option (Int32 × cz_M) :=
  if x2 < 0 then (K x1 x2 M) else ((f_X5_turnedBack M a0).bind fun v3 => cz_gd (cz_ib (1 : Int32) 551) (cz_lt (cz_mI M (a0 + 1) (Int32.toNatClampNeg (1 : Int32)) x2) fun M5 => cz_b2 (f_X5_passes M5 a0 (100 : Int32)) fun v7 M6 => (f_X5_turnedBack M6 a0).bind fun v8 => if v8 = v3 then ((f_X5_putBack M6 a0).bind fun M13 => cz_lt (x2 + (-1)) fun v14 => rec x2 v14 M13) else ((f_X5_putBack M6 a0).bind fun M10 => cz_lt (x2 + (-1)) fun v11 => rec x1 v11 M10)))
def f_X5_leastLimit (M : cz_M) (a : Nat) : Option (Int32 × cz_M) :=
  (f_X5_putAside M a).bind fun M1 => cz_it3 (f_X5_leastLimit_L10 a (fun x16 x17 M18 => some (x16, M18))) 4096 (8 : Int32) (8 : Int32) M1
def f_X5_put_L8 (a0 : Nat) (x1 : Int64) (M : cz_M) (K : Int32 → Int32 → Int32 → Option (Int32 × cz_M)) (rec : Int32 → Int32 → Int32 → Option (Int32 × cz_M)) (x3 : Int32) (x4 : Int32) (x5 : Int32) : Option (Int32 × cz_M) :=
  if (8 : Int32) ≤ x5 then (K x3 x4 x5) else (cz_lt (Int64.toInt32 ((cz_usl x1 ((8 : Int32) * x5)) &&& (255 : Int64))) fun v2 => if x5 ≤ 0 then (if x4 = 0 then (if (0 : Int32) = 0 then ((f_X5_in v2 (33 : Int32) (126 : Int32)).bind fun v20 => if v20 = 0 then (if (0 : Int32) = 0 then (cz_lt (x3 + (1 : Int32)) fun v30 => cz_lt (x5 + 1) fun v31 => rec v30 (1 : Int32) v31) else (cz_lt (x3 + (0 : Int32)) fun v33 => cz_lt (x5 + 1) fun v34 => rec v33 (1 : Int32) v34)) else (if (0 : Int32) = 0 then (cz_lt (x3 + (1 : Int32)) fun v23 => cz_lt (x5 + 1) fun v24 => rec v23 (0 : Int32) v24) else (cz_lt (x3 + (0 : Int32)) fun v26 => cz_lt (x5 + 1) fun v27 => rec v26 (0 : Int32) v27))) else (if (0 : Int32) = 0 then (cz_lt (x3 + (1 : Int32)) fun v14 => cz_lt (x5 + 1) fun v15 => rec v14 (0 : Int32) v15) else (cz_lt (x3 + (0 : Int32)) fun v17 => cz_lt (x5 + 1) fun v18 => rec v17 (0 : Int32) v18))) else (if (0 : Int32) = 0 then (cz_lt (x3 + (1 : Int32)) fun v6 => cz_lt (x5 + 1) fun v7 => rec v6 (1 : Int32) v7) else (cz_lt (x3 + (0 : Int32)) fun v9 => cz_lt (x5 + 1) fun v10 => rec v9 (1 : Int32) v10))) else (if (lg_cmp (cz_usl x1 ((8 : Int32) * x5)) (0 : Int64)) = 0 then (if x4 = 0 then (if (1 : Int32) = 0 then ((f_X5_in v2 (33 : Int32) (126 : Int32)).bind fun v85 => if v85 = 0 then (if (1 : Int32) = 0 then (cz_lt (x3 + (1 : Int32)) fun v95 => cz_lt (x5 + 1) fun v96 => rec v95 (1 : Int32) v96) else (cz_lt (x3 + (0 : Int32)) fun v98 => cz_lt (x5 + 1) fun v99 => rec v98 (1 : Int32) v99)) else (if (1 : Int32) = 0 then (cz_lt (x3 + (1 : Int32)) fun v88 => cz_lt (x5 + 1) fun v89 => rec v88 (0 : Int32) v89) else (cz_lt (x3 + (0 : Int32)) fun v91 => cz_lt (x5 + 1) fun v92 => rec v91 (0 : Int32) v92))) else (if (1 : Int32) = 0 then (cz_lt (x3 + (1 : Int32)) fun v79 => cz_lt (x5 + 1) fun v80 => rec v79 (0 : Int32) v80) else (cz_lt (x3 + (0 : Int32)) fun v82 => cz_lt (x5 + 1) fun v83 => rec v82 (0 : Int32) v83))) else (if (1 : Int32) = 0 then (cz_lt (x3 + (1 : Int32)) fun v71 => cz_lt (x5 + 1) fun v72 => rec v71 (1 : Int32) v72) else (cz_lt (x3 + (0 : Int32)) fun v74 => cz_lt (x5 + 1) fun v75 => rec v74 (1 : Int32) v75))) else (if x4 = 0 then (if (0 : Int32) = 0 then ((f_X5_in v2 (33 : Int32) (126 : Int32)).bind fun v53 => if v53 = 0 then (if (0 : Int32) = 0 then (cz_lt (x3 + (1 : Int32)) fun v63 => cz_lt (x5 + 1) fun v64 => rec v63 (1 : Int32) v64) else (cz_lt (x3 + (0 : Int32)) fun v66 => cz_lt (x5 + 1) fun v67 => rec v66 (1 : Int32) v67)) else (if (0 : Int32) = 0 then (cz_lt (x3 + (1 : Int32)) fun v56 => cz_lt (x5 + 1) fun v57 => rec v56 (0 : Int32) v57) else (cz_lt (x3 + (0 : Int32)) fun v59 => cz_lt (x5 + 1) fun v60 => rec v59 (0 : Int32) v60))) else (if (0 : Int32) = 0 then (cz_lt (x3 + (1 : Int32)) fun v47 => cz_lt (x5 + 1) fun v48 => rec v47 (0 : Int32) v48) else (cz_lt (x3 + (0 : Int32)) fun v50 => cz_lt (x5 + 1) fun v51 => rec v50 (0 : Int32) v51))) else (if (0 : Int32) = 0 then (cz_lt (x3 + (1 : Int32)) fun v39 => cz_lt (x5 + 1) fun v40 => rec v39 (1 : Int32) v40) else (cz_lt (x3 + (0 : Int32)) fun v42 => cz_lt (x5 + 1) fun v43 => rec v42 (1 : Int32) v43)))))
def f_X5_put_L126 (a0 : Nat) (x1 : Int64) (x3 : Int32) (K : Int32 → cz_M → Option (Int32 × cz_M)) (rec : Int32 → cz_M → Option (Int32 × cz_M)) (x5 : Int32) (M : cz_M) : Option (Int32 × cz_M) :=
  if x3 ≤ x5 then (K x5 M) else (cz_gd (cz_ib ((((M.1 a0 7) + x3) - (1 : Int32)) - x5) 60) (cz_lt (cz_mI M (a0 + 6) (Int32.toNatClampNeg ((((M.1 a0 7) + x3) - (1 : Int32)) - x5)) (Int64.toInt32 ((cz_usl x1 ((8 : Int32) * x5)) &&& (255 : Int64)))) fun M108 => cz_lt (x5 + 1) fun v109 => rec v109 M108))
def f_X5_put (M : cz_M) (a : Nat) (x1 : Int64) : Option (Int32 × cz_M) :=
  cz_it3 (f_X5_put_L8 a x1 M (fun x101 x102 x103 => if x102 = 0 then (if ((M.1 a 7) + x101) ≤ (60 : Int32) then (cz_it2 (f_X5_put_L126 a x1 x101 (fun x111 M112 => cz_lt (cz_mI M112 a 7 ((M112.1 a 7) + x101)) fun M113 => some ((M113.1 a 7), M113))) 4096 (0 : Int32) M) else (some ((-4 : Int32), M))) else (some ((-2 : Int32), M)))) 4096 (0 : Int32) (0 : Int32) (0 : Int32)
def f_X5_wipe (M : cz_M) (a : Nat) : Option (Int32 × cz_M) :=
  cz_lt (M.1 a 7) fun v1 => cz_lt (cz_mI M a 7 (0 : Int32)) fun M2 => some (v1, M2)
def f_X5_next (M : cz_M) (a : Nat) (x1 : Int32) : Option (Int32) :=
  if (M.1 a 7) ≤ x1 then (some (0 : Int32)) else (cz_gd (cz_ib x1 60) (some (M.1 (a + 6) (Int32.toNatClampNeg x1))))
def f_X5_isWordAt (M : cz_M) (a : Nat) (x1 : Int32) : Option (Int32) :=
  (f_X5_next M a x1).bind fun v1 => (f_X5_in v1 (97 : Int32) (122 : Int32)).bind fun v2 => cz_gd (cz_zb v2) (some v2)
def f_X5_right_L45 (a0 : Nat) (x1 : Int32) (M : cz_M) (K : Int32 → Option (Int32)) (rec : Int32 → Option (Int32)) (x2 : Int32) : Option (Int32) :=
  if (10 : Int32) ≤ x2 then (K x2) else ((f_X5_isWordAt M a0 (x1 + x2)).bind fun v7 => if v7 = 0 then (K x2) else (cz_lt (x2 + 1) fun v9 => rec v9))
def f_X5_right (M : cz_M) (a : Nat) (x1 : Int32) : Option (Int32) :=
  (f_X5_next M a x1).bind fun v1 => (f_X5_in v1 (48 : Int32) (52 : Int32)).bind fun v2 => if v2 = 0 then (some (0 : Int32)) else ((f_X5_next M a (x1 + (1 : Int32))).bind fun v4 => if v4 = (62 : Int32) then (cz_it1 (f_X5_right_L45 a x1 M (fun x11 => some x11)) 4096 (2 : Int32)) else ((f_X5_next M a (x1 + (1 : Int32))).bind fun v12 => if v12 = (60 : Int32) then (cz_it1 (f_X5_right_L45 a x1 M (fun x14 => some x14)) 4096 (2 : Int32)) else (some (1 : Int32))))
def f_X5_wrong_L9 (a0 : Nat) (K : Int32 → Int32 → cz_M → Option (Int32 × cz_M)) (rec : Int32 → Int32 → cz_M → Option (Int32 × cz_M)) (x1 : Int32) (x2 : Int32) (M : cz_M) : Option (Int32 × cz_M) :=
  if x2 = 0 then (K x1 x2 M) else ((f_X5_right M a0 x1).bind fun v3 => cz_lt (x1 + v3) fun v4 => if (3 : Int32) ≤ v3 then (cz_lt (cz_mI M a0 11 ((M.1 a0 11) + (1 : Int32))) fun M6 => if (M6.1 a0 7) ≤ v4 then (if (0 : Int32) = 0 then (if (0 : Int32) = 0 then (cz_lt (v4 + (0 : Int32)) fun v10 => rec v10 (0 : Int32) M6) else (cz_lt (v4 + (1 : Int32)) fun v11 => rec v11 (0 : Int32) M6)) else (cz_gd (cz_ib v4 60) (if (M6.1 (a0 + 6) (Int32.toNatClampNeg v4)) = (44 : Int32) then (if (0 : Int32) = 0 then (cz_lt (v4 + (0 : Int32)) fun v15 => rec v15 (0 : Int32) M6) else (cz_lt (v4 + (1 : Int32)) fun v16 => rec v16 (0 : Int32) M6)) else (some (v4, M6))))) else (if (1 : Int32) = 0 then (if (1 : Int32) = 0 then (cz_lt (v4 + (0 : Int32)) fun v19 => rec v19 (1 : Int32) M6) else (cz_lt (v4 + (1 : Int32)) fun v20 => rec v20 (1 : Int32) M6)) else (cz_gd (cz_ib v4 60) (if (M6.1 (a0 + 6) (Int32.toNatClampNeg v4)) = (44 : Int32) then (if (1 : Int32) = 0 then (cz_lt (v4 + (0 : Int32)) fun v24 => rec v24 (1 : Int32) M6) else (cz_lt (v4 + (1 : Int32)) fun v25 => rec v25 (1 : Int32) M6)) else (some (v4, M6)))))) else (some (v4, M)))
def f_X5_wrong (M : cz_M) (a : Nat) : Option (Int32 × cz_M) :=
  cz_lt (cz_mI M a 11 (0 : Int32)) fun M1 => cz_it3 (f_X5_wrong_L9 a (fun x26 x27 M28 => some ((-6 : Int32), M28))) 4096 (0 : Int32) (1 : Int32) M1
def f_X5_fault (M : cz_M) (a : Nat) : Option (Int32 × cz_M) :=
  cz_b2 (f_X5_wrong M a) fun v2 M1 => some (v2, M1)
def f_X5_writes_L39 (a0 : Nat) (x1 : Int32) (x2 : Int32) (x3 : Int32) (x4 : Int32) (K : Int32 → cz_M → Option (cz_M)) (rec : Int32 → cz_M → Option (cz_M)) (x5 : Int32) (M : cz_M) : Option (cz_M) :=
  if (11 : Int32) ≤ x5 then (K x5 M) else ((f_X5_at x3 x5).bind fun v9 => cz_gd (cz_ib v9 551) (cz_lt (cz_mI M (a0 + 1) (Int32.toNatClampNeg v9) (0 : Int32)) fun M10 => cz_lt (x5 + 1) fun v11 => rec v11 M10))
def f_X5_writes_L154 (a0 : Nat) (x1 : Int32) (x3 : Int32) (x4 : Int32) (K : Int32 → cz_M → Option (cz_M)) (rec : Int32 → cz_M → Option (cz_M)) (x5 : Int32) (M : cz_M) : Option (cz_M) :=
  if x5 < 0 then (K x5 M) else ((f_X5_at x3 ((9 : Int32) + (x5 / (4 : Int32)))).bind fun v37 => cz_gd (cz_ib v37 551) ((f_X5_next M a0 ((x1 + (2 : Int32)) + x5)).bind fun v40 => cz_gd (cz_ib v37 551) (cz_lt (cz_mI M (a0 + 1) (Int32.toNatClampNeg v37) ((((26 : Int32) * (M.1 (a0 + 1) (Int32.toNatClampNeg v37))) + v40) - (97 : Int32))) fun M41 => cz_lt (x5 + (-1)) fun v42 => rec v42 M41)))
def f_X5_writes (M : cz_M) (a : Nat) (x1 : Int32) (x2 : Int32) : Option (cz_M) :=
  cz_gd (cz_ib (4 : Int32) 551) (cz_lt (M.1 (a + 1) (Int32.toNatClampNeg (4 : Int32))) fun v2 => (f_X5_next M a (x1 + (1 : Int32))).bind fun v3 => if v3 = (62 : Int32) then (cz_gd (cz_ib (4 : Int32) 551) (cz_gd (cz_ib (4 : Int32) 551) (cz_lt (cz_mI M (a + 1) (Int32.toNatClampNeg (4 : Int32)) ((M.1 (a + 1) (Int32.toNatClampNeg (4 : Int32))) + (1 : Int32))) fun M53 => cz_it2 (f_X5_writes_L39 a x1 x2 v2 (0 : Int32) (fun x54 M55 => (f_X5_at v2 (0 : Int32)).bind fun v57 => (f_X5_next M55 a x1).bind fun v58 => cz_gd (cz_ib v57 551) (cz_lt (cz_mI M55 (a + 1) (Int32.toNatClampNeg v57) (v58 - (48 : Int32))) fun M59 => (f_X5_at v2 (1 : Int32)).bind fun v61 => cz_gd (cz_ib v61 551) (cz_lt (cz_mI M59 (a + 1) (Int32.toNatClampNeg v61) (0 : Int32)) fun M62 => (f_X5_at v2 (3 : Int32)).bind fun v64 => cz_gd (cz_ib (3 : Int32) 551) (cz_gd (cz_ib v64 551) (cz_lt (cz_mI M62 (a + 1) (Int32.toNatClampNeg v64) (M62.1 (a + 1) (Int32.toNatClampNeg (3 : Int32)))) fun M66 => (f_X5_at v2 (4 : Int32)).bind fun v68 => cz_gd (cz_ib v68 551) (cz_lt (cz_mI M66 (a + 1) (Int32.toNatClampNeg v68) (-6 : Int32)) fun M69 => (f_X5_at v2 (7 : Int32)).bind fun v71 => cz_gd (cz_ib v71 551) (cz_lt (cz_mI M69 (a + 1) (Int32.toNatClampNeg v71) (-6 : Int32)) fun M72 => (f_X5_at v2 (8 : Int32)).bind fun v74 => cz_gd (cz_ib v74 551) (cz_lt (cz_mI M72 (a + 1) (Int32.toNatClampNeg v74) (x2 - (2 : Int32))) fun M75 => cz_lt (x2 - (3 : Int32)) fun v76 => cz_it2 (f_X5_writes_L154 a x1 v2 (0 : Int32) (fun x77 M78 => cz_gd (cz_ib ((29 : Int32) + (0 : Int32)) 551) ((f_X5_inRow (0 : Int32) (M78.1 (a + 1) (Int32.toNatClampNeg ((29 : Int32) + (0 : Int32))))).bind fun v81 => cz_gd (cz_ib v81 551) (cz_lt (cz_mI M78 (a + 1) (Int32.toNatClampNeg v81) v2) fun M82 => cz_gd (cz_ib ((29 : Int32) + (0 : Int32)) 551) (cz_gd (cz_ib ((29 : Int32) + (0 : Int32)) 551) (cz_lt (cz_mI M82 (a + 1) (Int32.toNatClampNeg ((29 : Int32) + (0 : Int32))) ((M82.1 (a + 1) (Int32.toNatClampNeg ((29 : Int32) + (0 : Int32)))) + (1 : Int32))) fun M84 => some M84)))))) 4096 v76 M75))))))))) 4096 (0 : Int32) M53))) else (cz_gd (cz_ib (4 : Int32) 551) (cz_gd (cz_ib (4 : Int32) 551) (cz_lt (cz_mI M (a + 1) (Int32.toNatClampNeg (4 : Int32)) ((M.1 (a + 1) (Int32.toNatClampNeg (4 : Int32))) + (1 : Int32))) fun M6 => cz_it2 (f_X5_writes_L39 a x1 x2 v2 (1 : Int32) (fun x13 M14 => (f_X5_at v2 (0 : Int32)).bind fun v16 => (f_X5_next M14 a x1).bind fun v17 => cz_gd (cz_ib v16 551) (cz_lt (cz_mI M14 (a + 1) (Int32.toNatClampNeg v16) (v17 - (48 : Int32))) fun M18 => (f_X5_at v2 (1 : Int32)).bind fun v20 => cz_gd (cz_ib v20 551) (cz_lt (cz_mI M18 (a + 1) (Int32.toNatClampNeg v20) (1 : Int32)) fun M21 => (f_X5_at v2 (3 : Int32)).bind fun v23 => cz_gd (cz_ib (3 : Int32) 551) (cz_gd (cz_ib v23 551) (cz_lt (cz_mI M21 (a + 1) (Int32.toNatClampNeg v23) (M21.1 (a + 1) (Int32.toNatClampNeg (3 : Int32)))) fun M25 => (f_X5_at v2 (4 : Int32)).bind fun v27 => cz_gd (cz_ib v27 551) (cz_lt (cz_mI M25 (a + 1) (Int32.toNatClampNeg v27) (-6 : Int32)) fun M28 => (f_X5_at v2 (7 : Int32)).bind fun v30 => cz_gd (cz_ib v30 551) (cz_lt (cz_mI M28 (a + 1) (Int32.toNatClampNeg v30) (-6 : Int32)) fun M31 => (f_X5_at v2 (8 : Int32)).bind fun v33 => cz_gd (cz_ib v33 551) (cz_lt (cz_mI M31 (a + 1) (Int32.toNatClampNeg v33) (x2 - (2 : Int32))) fun M34 => cz_lt (x2 - (3 : Int32)) fun v35 => cz_it2 (f_X5_writes_L154 a x1 v2 (1 : Int32) (fun x44 M45 => cz_gd (cz_ib ((29 : Int32) + (1 : Int32)) 551) ((f_X5_inRow (1 : Int32) (M45.1 (a + 1) (Int32.toNatClampNeg ((29 : Int32) + (1 : Int32))))).bind fun v48 => cz_gd (cz_ib v48 551) (cz_lt (cz_mI M45 (a + 1) (Int32.toNatClampNeg v48) v2) fun M49 => cz_gd (cz_ib ((29 : Int32) + (1 : Int32)) 551) (cz_gd (cz_ib ((29 : Int32) + (1 : Int32)) 551) (cz_lt (cz_mI M49 (a + 1) (Int32.toNatClampNeg ((29 : Int32) + (1 : Int32))) ((M49.1 (a + 1) (Int32.toNatClampNeg ((29 : Int32) + (1 : Int32)))) + (1 : Int32))) fun M51 => some M51)))))) 4096 v35 M34))))))))) 4096 (0 : Int32) M6))))
def f_X5_read_L37 (a0 : Nat) (K : Int32 → cz_M → Option (Int32 × cz_M)) (rec : Int32 → cz_M → Option (Int32 × cz_M)) (x1 : Int32) (M : cz_M) : Option (Int32 × cz_M) :=
  if (M.1 a0 7) ≤ x1 then (K x1 M) else ((f_X5_right M a0 x1).bind fun v8 => (f_X5_writes M a0 x1 v8).bind fun M9 => cz_lt (x1 + (v8 + (1 : Int32))) fun v10 => rec v10 M9)
def f_X5_read (M : cz_M) (a : Nat) : Option (Int32 × cz_M) :=
  cz_b2 (f_X5_wrong M a) fun v2 M1 => if v2 = (-6 : Int32) then (cz_gd (cz_ib (4 : Int32) 551) (if ((M1.1 (a + 1) (Int32.toNatClampNeg (4 : Int32))) + (M1.1 a 11)) ≤ (40 : Int32) then ((f_X5_record M1 a).bind fun M6 => cz_it2 (f_X5_read_L37 a (fun x11 M12 => cz_lt (cz_mI M12 a 7 (0 : Int32)) fun M13 => cz_gd (cz_ib (4 : Int32) 551) (some ((M13.1 (a + 1) (Int32.toNatClampNeg (4 : Int32))), M13)))) 4096 (0 : Int32) M6) else (some ((-4 : Int32), M1)))) else (some ((-3 : Int32), M1))
def f_X5_undo_L22 (a0 : Nat) (K : Int32 → cz_M → Option (Int32 × cz_M)) (rec : Int32 → cz_M → Option (Int32 × cz_M)) (x1 : Int32) (M : cz_M) : Option (Int32 × cz_M) :=
  if (551 : Int32) ≤ x1 then (K x1 M) else (cz_gd (cz_ib (((551 : Int32) * (M.1 a0 3)) + x1) 2204) (cz_gd (cz_ib x1 551) (cz_lt (cz_mI M (a0 + 1) (Int32.toNatClampNeg x1) (M.1 (a0 + 3) (Int32.toNatClampNeg (((551 : Int32) * (M.1 a0 3)) + x1)))) fun M6 => cz_lt (x1 + 1) fun v7 => rec v7 M6)))
def f_X5_undo (M : cz_M) (a : Nat) : Option (Int32 × cz_M) :=
  if (M.1 a 3) = 0 then (some ((-5 : Int32), M)) else (cz_lt (cz_mI M a 3 ((M.1 a 3) - (1 : Int32))) fun M2 => cz_it2 (f_X5_undo_L22 a (fun x9 M10 => some ((M10.1 a 3), M10))) 4096 (0 : Int32) M2)
def f_X5_save_L14 (a0 : Nat) (x1 : Int32) (K : Int32 → cz_M → Option (Int32 × cz_M)) (rec : Int32 → cz_M → Option (Int32 × cz_M)) (x2 : Int32) (M : cz_M) : Option (Int32 × cz_M) :=
  if (551 : Int32) ≤ x2 then (K x2 M) else (cz_gd (cz_ib x2 551) (cz_gd (cz_ib (((551 : Int32) * x1) + x2) 1102) (cz_lt (cz_mI M (a0 + 4) (Int32.toNatClampNeg (((551 : Int32) * x1) + x2)) (M.1 (a0 + 1) (Int32.toNatClampNeg x2))) fun M6 => cz_lt (x2 + 1) fun v7 => rec v7 M6)))
def f_X5_save (M : cz_M) (a : Nat) (x1 : Int32) : Option (Int32 × cz_M) :=
  (f_X5_in x1 (0 : Int32) (1 : Int32)).bind fun v1 => if v1 = 0 then (some ((-2 : Int32), M)) else (cz_it2 (f_X5_save_L14 a x1 (fun x9 M10 => cz_gd (cz_ib x1 2) (cz_gd (cz_zb (1 : Int32)) (cz_lt (cz_mI M10 (a + 5) (Int32.toNatClampNeg x1) (1 : Int32)) fun M12 => cz_gd (cz_ib (3 : Int32) 551) (some ((M12.1 (a + 1) (Int32.toNatClampNeg (3 : Int32))), M12)))))) 4096 (0 : Int32) M)
def f_X5_restore_L30 (a0 : Nat) (x1 : Int32) (K : Int32 → cz_M → Option (Int32 × cz_M)) (rec : Int32 → cz_M → Option (Int32 × cz_M)) (x2 : Int32) (M : cz_M) : Option (Int32 × cz_M) :=
  if (551 : Int32) ≤ x2 then (K x2 M) else (cz_gd (cz_ib (((551 : Int32) * x1) + x2) 1102) (cz_gd (cz_ib x2 551) (cz_lt (cz_mI M (a0 + 1) (Int32.toNatClampNeg x2) (M.1 (a0 + 4) (Int32.toNatClampNeg (((551 : Int32) * x1) + x2)))) fun M9 => cz_lt (x2 + 1) fun v10 => rec v10 M9)))
def f_X5_restore (M : cz_M) (a : Nat) (x1 : Int32) : Option (Int32 × cz_M) :=
  (f_X5_in x1 (0 : Int32) (1 : Int32)).bind fun v1 => if v1 = 0 then (some ((-2 : Int32), M)) else (cz_gd (cz_ib x1 2) (if (M.1 (a + 5) (Int32.toNatClampNeg x1)) = 0 then (some ((-5 : Int32), M)) else ((f_X5_record M a).bind fun M5 => cz_it2 (f_X5_restore_L30 a x1 (fun x12 M13 => cz_gd (cz_ib (3 : Int32) 551) (some ((M13.1 (a + 1) (Int32.toNatClampNeg (3 : Int32))), M13)))) 4096 (0 : Int32) M5)))
end
section
theorem mv_X0_copyFrom : cz_MV yX0_copyFrom cX0_copyFrom 2 none RX0 1 := ⟨mi_X0_copyFrom, ms_X0_copyFrom, mc_X0_copyFrom, ini_X0, by decide +kernel⟩
set_option maxHeartbeats 4000000 in
set_option maxRecDepth 100000 in
theorem c_X0_copyFrom {l : Launch} {g : cz_G} {b : Nat} {M : cz_M} {M9 : cz_M} {a : Nat} {a1 : Nat} (ka : cz_K b a 0) (ka1 : cz_K b a1 0) (h : f_X0_copyFrom M a a1 = some M9) : cz_C l yX0_copyFrom cX0_copyFrom 2 none 0 0 g b [.ref a, .ref a1] M none M9 := by
  refine cz_start (by decide) (Nat.le_of_ble_eq_true rfl) (fun p e s m args below meth c X H ls hM hl => ?_)
  have X : cz_X p s m args meth c cX0_copyFrom 2 RX0 g b none := X
  obtain ⟨hx, hb, -, ho, ht, -⟩ := id X
  have hRf : 0 ≤ ({ frames := 0, cells := 0, slots := 0, locals := 0 } : Room).frames := Nat.le_refl _
  have hRl : 0 ≤ ({ frames := 0, cells := 0, slots := 0, locals := 0 } : Room).locals := Nat.le_refl _
  have hl : lv_has ls 2 [(0, .ref a), (1, .ref a1)] := hl
  rw [f_X0_copyFrom] at h
  refine lv_aload_n hx hb dX0_copyFrom_0 rfl (lv_at hl 0 rfl) ?_
  refine lv_aload_n hx hb dX0_copyFrom_1 rfl (lv_at hl 1 rfl) ?_
  refine cz_getI X hM ff_X0_0 ka1 lk_X0_7 dX0_copyFrom_2 ?_
  refine cz_putI X hM h ff_X0_0 ka lk_X0_7 dX0_copyFrom_5 (fun M1 H locs h hM => ?_)
  refine lv_aload_n hx hb dX0_copyFrom_8 rfl (lv_at hl 0 rfl) ?_
  refine lv_aload_n hx hb dX0_copyFrom_9 rfl (lv_at hl 1 rfl) ?_
  refine cz_getI X hM ff_X0_1 ka1 lk_X0_13 dX0_copyFrom_10 ?_
  refine cz_putI X hM h ff_X0_1 ka lk_X0_13 dX0_copyFrom_13 (fun M2 H locs h hM => ?_)
  refine lv_aload_n hx hb dX0_copyFrom_16 rfl (lv_at hl 0 rfl) ?_
  refine lv_aload_n hx hb dX0_copyFrom_17 rfl (lv_at hl 1 rfl) ?_
  refine cz_getI X hM ff_X0_2 ka1 lk_X0_16 dX0_copyFrom_18 ?_
  refine cz_putI X hM h ff_X0_2 ka lk_X0_16 dX0_copyFrom_21 (fun M3 H locs h hM => ?_)
  refine lv_aload_n hx hb dX0_copyFrom_24 rfl (lv_at hl 0 rfl) ?_
  refine lv_aload_n hx hb dX0_copyFrom_25 rfl (lv_at hl 1 rfl) ?_
  refine cz_getI X hM ff_X0_3 ka1 lk_X0_19 dX0_copyFrom_26 ?_
  refine cz_putI X hM h ff_X0_3 ka lk_X0_19 dX0_copyFrom_29 (fun M4 H locs h hM => ?_)
  exact cz_retv X hM h dX0_copyFrom_32
theorem mv_X1_begin : cz_MV yX1_begin cX1_begin 3 none RX1 2 := ⟨mi_X1_begin, ms_X1_begin, mc_X1_begin, ini_X1, by decide +kernel⟩
set_option maxHeartbeats 4000000 in
set_option maxRecDepth 100000 in
theorem c_X1_begin {l : Launch} {g : cz_G} {b : Nat} {M : cz_M} {M9 : cz_M} {a : Nat} {x1 : Int32} {x2 : Int32} (ka : cz_K b a 1) (h : f_X1_begin M a x1 x2 = some M9) : cz_C l yX1_begin cX1_begin 3 none 0 0 g b [.ref a, .int x1, .int x2] M none M9 := by
  refine cz_start (by decide) (Nat.le_of_ble_eq_true rfl) (fun p e s m args below meth c X H ls hM hl => ?_)
  have X : cz_X p s m args meth c cX1_begin 3 RX1 g b none := X
  obtain ⟨hx, hb, -, ho, ht, -⟩ := id X
  have hRf : 0 ≤ ({ frames := 0, cells := 0, slots := 0, locals := 0 } : Room).frames := Nat.le_refl _
  have hRl : 0 ≤ ({ frames := 0, cells := 0, slots := 0, locals := 0 } : Room).locals := Nat.le_refl _
  have hl : lv_has ls 3 [(0, .ref a), (1, .int x1), (2, .int x2)] := hl
  rw [f_X1_begin] at h
  refine lv_aload_n hx hb dX1_begin_0 rfl (lv_at hl 0 rfl) ?_
  refine lv_iload_n hx hb dX1_begin_1 rfl (lv_at hl 1 rfl) ?_
  refine cz_putI X hM h ff_X1_0 ka lk_X1_9 dX1_begin_2 (fun M1 H locs h hM => ?_)
  refine lv_aload_n hx hb dX1_begin_5 rfl (lv_at hl 0 rfl) ?_
  refine lv_iconst (v := 0) hx hb dX1_begin_6 (by decide) ?_
  refine cz_putI X hM h ff_X1_1 ka lk_X1_15 dX1_begin_7 (fun M2 H locs h hM => ?_)
  refine lv_aload_n hx hb dX1_begin_10 rfl (lv_at hl 0 rfl) ?_
  refine lv_lconst (v := 0) hx hb dX1_begin_11 (by decide) ?_
  refine cz_putL X hM h ff_X1_2 ka lk_X1_18 dX1_begin_12 (fun M3 H locs h hM => ?_)
  refine lv_aload_n hx hb dX1_begin_15 rfl (lv_at hl 0 rfl) ?_
  refine lv_iconst (v := 0) hx hb dX1_begin_16 (by decide) ?_
  refine cz_putI X hM h ff_X1_3 ka lk_X1_22 dX1_begin_17 (fun M4 H locs h hM => ?_)
  refine lv_aload_n hx hb dX1_begin_20 rfl (lv_at hl 0 rfl) ?_
  refine lv_iload_n hx hb dX1_begin_21 rfl (lv_at hl 2 rfl) ?_
  refine cz_putI X hM h ff_X1_4 ka lk_X1_25 dX1_begin_22 (fun M5 H locs h hM => ?_)
  refine lv_aload_n hx hb dX1_begin_25 rfl (lv_at hl 0 rfl) ?_
  refine lv_iconst (v := 0) hx hb dX1_begin_26 (by decide) ?_
  refine cz_putI X hM h ff_X1_5 ka lk_X1_28 dX1_begin_27 (fun M6 H locs h hM => ?_)
  refine lv_aload_n hx hb dX1_begin_30 rfl (lv_at hl 0 rfl) ?_
  refine lv_iconst (v := 0) hx hb dX1_begin_31 (by decide) ?_
  refine cz_putI X hM h ff_X1_6 ka lk_X1_31 dX1_begin_32 (fun M7 H locs h hM => ?_)
  refine lv_aload_n hx hb dX1_begin_35 rfl (lv_at hl 0 rfl) ?_
  refine lv_iconst (v := 0) hx hb dX1_begin_36 (by decide) ?_
  refine cz_putI X hM h ff_X1_7 ka lk_X1_34 dX1_begin_37 (fun M8 H locs h hM => ?_)
  refine lv_aload_n hx hb dX1_begin_40 rfl (lv_at hl 0 rfl) ?_
  refine lv_iconst (v := 0) hx hb dX1_begin_41 (by decide) ?_
  refine cz_putI X hM h ff_X1_8 ka lk_X1_37 dX1_begin_42 (fun M9 H locs h hM => ?_)
  refine lv_aload_n hx hb dX1_begin_45 rfl (lv_at hl 0 rfl) ?_
  refine lv_bipush (v := -6) hx hb dX1_begin_46 (by decide) ?_
  refine cz_putI X hM h ff_X1_9 ka lk_X1_40 dX1_begin_48 (fun M10 H locs h hM => ?_)
  exact cz_retv X hM h dX1_begin_51
theorem mv_X1_copyFrom : cz_MV yX1_copyFrom cX1_copyFrom 2 none RX1 1 := ⟨mi_X1_copyFrom, ms_X1_copyFrom, mc_X1_copyFrom, ini_X1, by decide +kernel⟩
set_option maxHeartbeats 4000000 in
set_option maxRecDepth 100000 in
theorem c_X1_copyFrom {l : Launch} {g : cz_G} {b : Nat} {M : cz_M} {M9 : cz_M} {a : Nat} {a1 : Nat} (ka : cz_K b a 1) (ka1 : cz_K b a1 1) (h : f_X1_copyFrom M a a1 = some M9) : cz_C l yX1_copyFrom cX1_copyFrom 2 none 0 0 g b [.ref a, .ref a1] M none M9 := by
  refine cz_start (by decide) (Nat.le_of_ble_eq_true rfl) (fun p e s m args below meth c X H ls hM hl => ?_)
  have X : cz_X p s m args meth c cX1_copyFrom 2 RX1 g b none := X
  obtain ⟨hx, hb, -, ho, ht, -⟩ := id X
  have hRf : 0 ≤ ({ frames := 0, cells := 0, slots := 0, locals := 0 } : Room).frames := Nat.le_refl _
  have hRl : 0 ≤ ({ frames := 0, cells := 0, slots := 0, locals := 0 } : Room).locals := Nat.le_refl _
  have hl : lv_has ls 2 [(0, .ref a), (1, .ref a1)] := hl
  rw [f_X1_copyFrom] at h
  refine lv_aload_n hx hb dX1_copyFrom_0 rfl (lv_at hl 0 rfl) ?_
  refine lv_aload_n hx hb dX1_copyFrom_1 rfl (lv_at hl 1 rfl) ?_
  refine cz_getI X hM ff_X1_0 ka1 lk_X1_9 dX1_copyFrom_2 ?_
  refine cz_putI X hM h ff_X1_0 ka lk_X1_9 dX1_copyFrom_5 (fun M1 H locs h hM => ?_)
  refine lv_aload_n hx hb dX1_copyFrom_8 rfl (lv_at hl 0 rfl) ?_
  refine lv_aload_n hx hb dX1_copyFrom_9 rfl (lv_at hl 1 rfl) ?_
  refine cz_getI X hM ff_X1_1 ka1 lk_X1_15 dX1_copyFrom_10 ?_
  refine cz_putI X hM h ff_X1_1 ka lk_X1_15 dX1_copyFrom_13 (fun M2 H locs h hM => ?_)
  refine lv_aload_n hx hb dX1_copyFrom_16 rfl (lv_at hl 0 rfl) ?_
  refine lv_aload_n hx hb dX1_copyFrom_17 rfl (lv_at hl 1 rfl) ?_
  refine cz_getL X hM ff_X1_2 ka1 lk_X1_18 dX1_copyFrom_18 ?_
  refine cz_putL X hM h ff_X1_2 ka lk_X1_18 dX1_copyFrom_21 (fun M3 H locs h hM => ?_)
  refine lv_aload_n hx hb dX1_copyFrom_24 rfl (lv_at hl 0 rfl) ?_
  refine lv_aload_n hx hb dX1_copyFrom_25 rfl (lv_at hl 1 rfl) ?_
  refine cz_getI X hM ff_X1_3 ka1 lk_X1_22 dX1_copyFrom_26 ?_
  refine cz_putI X hM h ff_X1_3 ka lk_X1_22 dX1_copyFrom_29 (fun M4 H locs h hM => ?_)
  refine lv_aload_n hx hb dX1_copyFrom_32 rfl (lv_at hl 0 rfl) ?_
  refine lv_aload_n hx hb dX1_copyFrom_33 rfl (lv_at hl 1 rfl) ?_
  refine cz_getI X hM ff_X1_4 ka1 lk_X1_25 dX1_copyFrom_34 ?_
  refine cz_putI X hM h ff_X1_4 ka lk_X1_25 dX1_copyFrom_37 (fun M5 H locs h hM => ?_)
  refine lv_aload_n hx hb dX1_copyFrom_40 rfl (lv_at hl 0 rfl) ?_
  refine lv_aload_n hx hb dX1_copyFrom_41 rfl (lv_at hl 1 rfl) ?_
  refine cz_getI X hM ff_X1_5 ka1 lk_X1_28 dX1_copyFrom_42 ?_
  refine cz_putI X hM h ff_X1_5 ka lk_X1_28 dX1_copyFrom_45 (fun M6 H locs h hM => ?_)
  refine lv_aload_n hx hb dX1_copyFrom_48 rfl (lv_at hl 0 rfl) ?_
  refine lv_aload_n hx hb dX1_copyFrom_49 rfl (lv_at hl 1 rfl) ?_
  refine cz_getI X hM ff_X1_6 ka1 lk_X1_31 dX1_copyFrom_50 ?_
  refine cz_putI X hM h ff_X1_6 ka lk_X1_31 dX1_copyFrom_53 (fun M7 H locs h hM => ?_)
  refine lv_aload_n hx hb dX1_copyFrom_56 rfl (lv_at hl 0 rfl) ?_
  refine lv_aload_n hx hb dX1_copyFrom_57 rfl (lv_at hl 1 rfl) ?_
  refine cz_getI X hM ff_X1_7 ka1 lk_X1_34 dX1_copyFrom_58 ?_
  refine cz_putI X hM h ff_X1_7 ka lk_X1_34 dX1_copyFrom_61 (fun M8 H locs h hM => ?_)
  refine lv_aload_n hx hb dX1_copyFrom_64 rfl (lv_at hl 0 rfl) ?_
  refine lv_aload_n hx hb dX1_copyFrom_65 rfl (lv_at hl 1 rfl) ?_
  refine cz_getI X hM ff_X1_8 ka1 lk_X1_37 dX1_copyFrom_66 ?_
  refine cz_putI X hM h ff_X1_8 ka lk_X1_37 dX1_copyFrom_69 (fun M9 H locs h hM => ?_)
  refine lv_aload_n hx hb dX1_copyFrom_72 rfl (lv_at hl 0 rfl) ?_
  refine lv_aload_n hx hb dX1_copyFrom_73 rfl (lv_at hl 1 rfl) ?_
  refine cz_getI X hM ff_X1_9 ka1 lk_X1_40 dX1_copyFrom_74 ?_
  refine cz_putI X hM h ff_X1_9 ka lk_X1_40 dX1_copyFrom_77 (fun M10 H locs h hM => ?_)
  exact cz_retv X hM h dX1_copyFrom_80
theorem mv_X1_addWord : cz_MV yX1_addWord cX1_addWord 2 none RX1 1 := ⟨mi_X1_addWord, ms_X1_addWord, mc_X1_addWord, ini_X1, by decide +kernel⟩
set_option maxHeartbeats 4000000 in
set_option maxRecDepth 100000 in
theorem c_X1_addWord {l : Launch} {g : cz_G} {b : Nat} {M : cz_M} {M9 : cz_M} {a : Nat} {x1 : Int32} (ka : cz_K b a 1) (h : f_X1_addWord M a x1 = some M9) : cz_C l yX1_addWord cX1_addWord 2 none 0 0 g b [.ref a, .int x1] M none M9 := by
  refine cz_start (by decide) (Nat.le_of_ble_eq_true rfl) (fun p e s m args below meth c X H ls hM hl => ?_)
  have X : cz_X p s m args meth c cX1_addWord 2 RX1 g b none := X
  obtain ⟨hx, hb, -, ho, ht, -⟩ := id X
  have hRf : 0 ≤ ({ frames := 0, cells := 0, slots := 0, locals := 0 } : Room).frames := Nat.le_refl _
  have hRl : 0 ≤ ({ frames := 0, cells := 0, slots := 0, locals := 0 } : Room).locals := Nat.le_refl _
  have hl : lv_has ls 2 [(0, .ref a), (1, .int x1)] := hl
  rw [f_X1_addWord] at h
  refine lv_aload_n hx hb dX1_addWord_0 rfl (lv_at hl 0 rfl) ?_
  refine cz_getI X hM ff_X1_3 ka lk_X1_22 dX1_addWord_1 ?_
  refine lv_bipush (v := 8) hx hb dX1_addWord_4 (by decide) ?_
  refine lv_icmp_ge (tgt := 38) hx hb dX1_addWord_6 (by decide) (fun c1 => ?_) (fun c1 => ?_)
  · have h := cz_ite_t c1 h
    exact cz_retv X hM h dX1_addWord_38
  · have h := cz_ite_f c1 h
    refine lv_aload_n hx hb dX1_addWord_9 rfl (lv_at hl 0 rfl) ?_
    refine lv_aload_n hx hb dX1_addWord_10 rfl (lv_at hl 0 rfl) ?_
    refine cz_getL X hM ff_X1_2 ka lk_X1_18 dX1_addWord_11 ?_
    refine lv_iload_n hx hb dX1_addWord_14 rfl (lv_at hl 1 rfl) ?_
    refine lv_i2l (v := Int32.toInt64 x1) hx hb dX1_addWord_15 rfl ?_
    refine lv_bipush (v := 8) hx hb dX1_addWord_16 (by decide) ?_
    refine lv_aload_n hx hb dX1_addWord_18 rfl (lv_at hl 0 rfl) ?_
    refine cz_getI X hM ff_X1_3 ka lk_X1_22 dX1_addWord_19 ?_
    refine lv_imul hx hb dX1_addWord_22 ?_
    refine lv_lshl (v := cz_sl (Int32.toInt64 x1) ((8 : Int32) * (M.1 a 3))) hx hb dX1_addWord_23 rfl ?_
    refine lv_lor hx hb dX1_addWord_24 ?_
    refine cz_putL X hM h ff_X1_2 ka lk_X1_18 dX1_addWord_25 (fun M2 H locs h hM => ?_)
    refine lv_aload_n hx hb dX1_addWord_28 rfl (lv_at hl 0 rfl) ?_
    refine lv_dup hx hb dX1_addWord_29 rfl ?_
    refine cz_getI X hM ff_X1_3 ka lk_X1_22 dX1_addWord_30 ?_
    refine lv_iconst (v := 1) hx hb dX1_addWord_33 (by decide) ?_
    refine lv_iadd hx hb dX1_addWord_34 ?_
    refine cz_putI X hM h ff_X1_3 ka lk_X1_22 dX1_addWord_35 (fun M3 H locs h hM => ?_)
    exact cz_retv X hM h dX1_addWord_38
theorem mv_X1_codeAt : cz_MV yX1_codeAt cX1_codeAt 2 (some .int) RX1 1 := ⟨mi_X1_codeAt, ms_X1_codeAt, mc_X1_codeAt, ini_X1, by decide +kernel⟩
set_option maxHeartbeats 4000000 in
set_option maxRecDepth 100000 in
theorem c_X1_codeAt {l : Launch} {g : cz_G} {b : Nat} {M : cz_M} {r0 : Int32} {a : Nat} {x1 : Int32} (ka : cz_K b a 1) (h : f_X1_codeAt M a x1 = some r0) : cz_C l yX1_codeAt cX1_codeAt 2 (some .int) 0 0 g b [.ref a, .int x1] M (some (.int r0)) M := by
  refine cz_start (by decide) (Nat.le_of_ble_eq_true rfl) (fun p e s m args below meth c X H ls hM hl => ?_)
  have X : cz_X p s m args meth c cX1_codeAt 2 RX1 g b (some .int) := X
  obtain ⟨hx, hb, -, ho, ht, -⟩ := id X
  have hRf : 0 ≤ ({ frames := 0, cells := 0, slots := 0, locals := 0 } : Room).frames := Nat.le_refl _
  have hRl : 0 ≤ ({ frames := 0, cells := 0, slots := 0, locals := 0 } : Room).locals := Nat.le_refl _
  have hl : lv_has ls 2 [(0, .ref a), (1, .int x1)] := hl
  rw [f_X1_codeAt] at h
  refine lv_aload_n hx hb dX1_codeAt_0 rfl (lv_at hl 0 rfl) ?_
  refine cz_getL X hM ff_X1_2 ka lk_X1_18 dX1_codeAt_1 ?_
  refine lv_bipush (v := 8) hx hb dX1_codeAt_4 (by decide) ?_
  refine lv_iload_n hx hb dX1_codeAt_6 rfl (lv_at hl 1 rfl) ?_
  refine lv_imul hx hb dX1_codeAt_7 ?_
  refine lv_lushr (v := cz_usl (M.2.1 a) ((8 : Int32) * x1)) hx hb dX1_codeAt_8 rfl ?_
  refine lv_l2i (v := Int64.toInt32 (cz_usl (M.2.1 a) ((8 : Int32) * x1))) hx hb dX1_codeAt_9 rfl ?_
  refine lv_sipush (v := 255) hx hb dX1_codeAt_10 (by decide) ?_
  refine lv_iand hx hb dX1_codeAt_13 ?_
  exact cz_retp X hM h rfl dX1_codeAt_14
theorem mv_X1_isStruckAt : cz_MV yX1_isStruckAt cX1_isStruckAt 2 (some .boolean) RX1 1 := ⟨mi_X1_isStruckAt, ms_X1_isStruckAt, mc_X1_isStruckAt, ini_X1, by decide +kernel⟩
set_option maxHeartbeats 4000000 in
set_option maxRecDepth 100000 in
theorem c_X1_isStruckAt {l : Launch} {g : cz_G} {b : Nat} {M : cz_M} {r0 : Int32} {a : Nat} {x1 : Int32} (ka : cz_K b a 1) (h : f_X1_isStruckAt M a x1 = some r0) : cz_C l yX1_isStruckAt cX1_isStruckAt 2 (some .boolean) 0 0 g b [.ref a, .int x1] M (some (.int r0)) M := by
  refine cz_start (by decide) (Nat.le_of_ble_eq_true rfl) (fun p e s m args below meth c X H ls hM hl => ?_)
  have X : cz_X p s m args meth c cX1_isStruckAt 2 RX1 g b (some .boolean) := X
  obtain ⟨hx, hb, -, ho, ht, -⟩ := id X
  have hRf : 0 ≤ ({ frames := 0, cells := 0, slots := 0, locals := 0 } : Room).frames := Nat.le_refl _
  have hRl : 0 ≤ ({ frames := 0, cells := 0, slots := 0, locals := 0 } : Room).locals := Nat.le_refl _
  have hl : lv_has ls 2 [(0, .ref a), (1, .int x1)] := hl
  rw [f_X1_isStruckAt] at h
  refine lv_aload_n hx hb dX1_isStruckAt_0 rfl (lv_at hl 0 rfl) ?_
  refine cz_getI X hM ff_X1_8 ka lk_X1_37 dX1_isStruckAt_1 ?_
  refine lv_iload_n hx hb dX1_isStruckAt_4 rfl (lv_at hl 1 rfl) ?_
  refine lv_iushr (v := cz_us (M.1 a 8) x1) hx hb dX1_isStruckAt_5 rfl ?_
  refine lv_iconst (v := 1) hx hb dX1_isStruckAt_6 (by decide) ?_
  refine lv_iand hx hb dX1_isStruckAt_7 ?_
  refine lv_if_eq (tgt := 15) hx hb dX1_isStruckAt_8 (by decide) (fun c1 => ?_) (fun c1 => ?_)
  · have h := cz_ite_t c1 h
    refine lv_iconst (v := 0) hx hb dX1_isStruckAt_15 (by decide) ?_
    exact cz_retp X hM h rfl dX1_isStruckAt_16
  · have h := cz_ite_f c1 h
    refine lv_iconst (v := 1) hx hb dX1_isStruckAt_11 (by decide) ?_
    refine lv_goto (tgt := 16) hx hb dX1_isStruckAt_12 (by decide) ?_
    exact cz_retp X hM h rfl dX1_isStruckAt_16
theorem mv_J6_bitCount_0f7a4 : cz_MS yJ6_bitCount_0f7a4 cJ6_bitCount_0f7a4 1 (some .int) 1 := ⟨mt_J6_bitCount_0f7a4, mc_J6_bitCount_0f7a4, ini_J6, by decide +kernel⟩
set_option maxHeartbeats 4000000 in
set_option maxRecDepth 100000 in
theorem c_J6_bitCount_0f7a4 {l : Launch} {g : cz_G} {b : Nat} {M : cz_M} {r0 : Int32} {x0 : Int32}  (h : f_J6_bitCount_0f7a4 x0 = some r0) : cz_C l yJ6_bitCount_0f7a4 cJ6_bitCount_0f7a4 1 (some .int) 0 0 g b [.int x0] M (some (.int r0)) M := by
  refine cz_start (by decide) (Nat.le_of_ble_eq_true rfl) (fun p e s m args below meth c X H ls hM hl => ?_)
  have X : cz_X p s m args meth c cJ6_bitCount_0f7a4 1 RJ6 g b (some .int) := X
  obtain ⟨hx, hb, -, ho, ht, -⟩ := id X
  have hRf : 0 ≤ ({ frames := 0, cells := 0, slots := 0, locals := 0 } : Room).frames := Nat.le_refl _
  have hRl : 0 ≤ ({ frames := 0, cells := 0, slots := 0, locals := 0 } : Room).locals := Nat.le_refl _
  have hl : lv_has ls 1 [(0, .int x0)] := hl
  rw [f_J6_bitCount_0f7a4] at h
  refine lv_iload_n hx hb dJ6_bitCount_0f7a4_0 rfl (lv_at hl 0 rfl) ?_
  refine lv_iload_n hx hb dJ6_bitCount_0f7a4_1 rfl (lv_at hl 0 rfl) ?_
  refine lv_iconst (v := 1) hx hb dJ6_bitCount_0f7a4_2 (by decide) ?_
  refine lv_iushr (v := cz_us x0 (1 : Int32)) hx hb dJ6_bitCount_0f7a4_3 rfl ?_
  refine lv_ldcw hx hb ho (ht _ lc_J6_265) dJ6_bitCount_0f7a4_4 ?_
  refine lv_iand hx hb dJ6_bitCount_0f7a4_7 ?_
  refine lv_isub hx hb dJ6_bitCount_0f7a4_8 ?_
  refine cz_nmi h (fun v1 h => ?_)
  refine lv_istore_n (lv' := [(0, .int v1)]) hx hb dJ6_bitCount_0f7a4_9 rfl hl (by decide) rfl (fun ls hl => ?_)
  refine lv_iload_n hx hb dJ6_bitCount_0f7a4_10 rfl (lv_at hl 0 rfl) ?_
  refine lv_ldcw hx hb ho (ht _ lc_J6_266) dJ6_bitCount_0f7a4_11 ?_
  refine lv_iand hx hb dJ6_bitCount_0f7a4_14 ?_
  refine lv_iload_n hx hb dJ6_bitCount_0f7a4_15 rfl (lv_at hl 0 rfl) ?_
  refine lv_iconst (v := 2) hx hb dJ6_bitCount_0f7a4_16 (by decide) ?_
  refine lv_iushr (v := cz_us v1 (2 : Int32)) hx hb dJ6_bitCount_0f7a4_17 rfl ?_
  refine lv_ldcw hx hb ho (ht _ lc_J6_266) dJ6_bitCount_0f7a4_18 ?_
  refine lv_iand hx hb dJ6_bitCount_0f7a4_21 ?_
  refine lv_iadd hx hb dJ6_bitCount_0f7a4_22 ?_
  refine cz_nmi h (fun v2 h => ?_)
  refine lv_istore_n (lv' := [(0, .int v2)]) hx hb dJ6_bitCount_0f7a4_23 rfl hl (by decide) rfl (fun ls hl => ?_)
  refine lv_iload_n hx hb dJ6_bitCount_0f7a4_24 rfl (lv_at hl 0 rfl) ?_
  refine lv_iload_n hx hb dJ6_bitCount_0f7a4_25 rfl (lv_at hl 0 rfl) ?_
  refine lv_iconst (v := 4) hx hb dJ6_bitCount_0f7a4_26 (by decide) ?_
  refine lv_iushr (v := cz_us v2 (4 : Int32)) hx hb dJ6_bitCount_0f7a4_27 rfl ?_
  refine lv_iadd hx hb dJ6_bitCount_0f7a4_28 ?_
  refine lv_ldcw hx hb ho (ht _ lc_J6_267) dJ6_bitCount_0f7a4_29 ?_
  refine lv_iand hx hb dJ6_bitCount_0f7a4_32 ?_
  refine cz_nmi h (fun v3 h => ?_)
  refine lv_istore_n (lv' := [(0, .int v3)]) hx hb dJ6_bitCount_0f7a4_33 rfl hl (by decide) rfl (fun ls hl => ?_)
  refine lv_iload_n hx hb dJ6_bitCount_0f7a4_34 rfl (lv_at hl 0 rfl) ?_
  refine lv_iload_n hx hb dJ6_bitCount_0f7a4_35 rfl (lv_at hl 0 rfl) ?_
  refine lv_bipush (v := 8) hx hb dJ6_bitCount_0f7a4_36 (by decide) ?_
  refine lv_iushr (v := cz_us v3 (8 : Int32)) hx hb dJ6_bitCount_0f7a4_38 rfl ?_
  refine lv_iadd hx hb dJ6_bitCount_0f7a4_39 ?_
  refine cz_nmi h (fun v4 h => ?_)
  refine lv_istore_n (lv' := [(0, .int v4)]) hx hb dJ6_bitCount_0f7a4_40 rfl hl (by decide) rfl (fun ls hl => ?_)
  refine lv_iload_n hx hb dJ6_bitCount_0f7a4_41 rfl (lv_at hl 0 rfl) ?_
  refine lv_iload_n hx hb dJ6_bitCount_0f7a4_42 rfl (lv_at hl 0 rfl) ?_
  refine lv_bipush (v := 16) hx hb dJ6_bitCount_0f7a4_43 (by decide) ?_
  refine lv_iushr (v := cz_us v4 (16 : Int32)) hx hb dJ6_bitCount_0f7a4_45 rfl ?_
  refine lv_iadd hx hb dJ6_bitCount_0f7a4_46 ?_
  refine cz_nmi h (fun v5 h => ?_)
  refine lv_istore_n (lv' := [(0, .int v5)]) hx hb dJ6_bitCount_0f7a4_47 rfl hl (by decide) rfl (fun ls hl => ?_)
  refine lv_iload_n hx hb dJ6_bitCount_0f7a4_48 rfl (lv_at hl 0 rfl) ?_
  refine lv_bipush (v := 63) hx hb dJ6_bitCount_0f7a4_49 (by decide) ?_
  refine lv_iand hx hb dJ6_bitCount_0f7a4_51 ?_
  exact cz_retp X hM h rfl dJ6_bitCount_0f7a4_52
theorem mv_X1_struckCount : cz_MV yX1_struckCount cX1_struckCount 1 (some .int) RX1 0 := ⟨mi_X1_struckCount, ms_X1_struckCount, mc_X1_struckCount, ini_X1, by decide +kernel⟩
set_option maxHeartbeats 4000000 in
set_option maxRecDepth 100000 in
theorem c_X1_struckCount {l : Launch} {g : cz_G} {b : Nat} {M : cz_M} {r0 : Int32} {a : Nat} (ka : cz_K b a 1) (h : f_X1_struckCount M a = some r0) : cz_C l yX1_struckCount cX1_struckCount 1 (some .int) 1 20 g b [.ref a] M (some (.int r0)) M := by
  refine cz_start (by decide) (Nat.le_of_ble_eq_true rfl) (fun p e s m args below meth c X H ls hM hl => ?_)
  have X : cz_X p s m args meth c cX1_struckCount 1 RX1 g b (some .int) := X
  obtain ⟨hx, hb, -, ho, ht, -⟩ := id X
  have hRf : 1 ≤ ({ frames := 1, cells := 0, slots := 0, locals := 20 } : Room).frames := Nat.le_refl _
  have hRl : 20 ≤ ({ frames := 1, cells := 0, slots := 0, locals := 20 } : Room).locals := Nat.le_refl _
  have hl : lv_has ls 1 [(0, .ref a)] := hl
  rw [f_X1_struckCount] at h
  refine lv_aload_n hx hb dX1_struckCount_0 rfl (lv_at hl 0 rfl) ?_
  refine cz_getI X hM ff_X1_8 ka lk_X1_37 dX1_struckCount_1 ?_
  obtain ⟨v1, hq, h⟩ := cz_bd_t h
  refine cz_runS (rest := []) (As := [.int (M.1 a 8)]) X hM hl.1 (c_J6_bitCount_0f7a4 (l := l) (g := g) (b := b)  hq) mv_J6_bitCount_0f7a4 ml_X1_43 ⟨Nat.le_trans (Nat.le_of_ble_eq_true rfl) hRf, Nat.le_trans (Nat.le_of_ble_eq_true rfl) hRl⟩ rfl rfl (Nat.le_of_ble_eq_true rfl) dX1_struckCount_4 (fun H locs hM => ?_)
  exact cz_retp X hM h rfl dX1_struckCount_7
theorem mv_X1_placesOf : cz_MV yX1_placesOf cX1_placesOf 7 (some .int) RX1 1 := ⟨mi_X1_placesOf, ms_X1_placesOf, mc_X1_placesOf, ini_X1, by decide +kernel⟩
set_option maxHeartbeats 4000000 in
set_option maxRecDepth 100000 in
theorem w_X1_placesOf_L10 {p : Program} {l : Launch} {e : Env} {R : Room} {s : State} {m : MethodId} {args : Array Value} {below : List Frame} {meth : Method} {c : Code} {g : cz_G} {b : Nat} (X : cz_X p s m args meth c cX1_placesOf 7 RX1 g b (some .int)) (hRf : 0 ≤ R.frames) (hRl : 0 ≤ R.locals) {r0 : Int32} {a0 : Nat} {x1 : Int32} {M : cz_M} (ka0 : cz_K b a0 1)
    (K : Int32 → Int64 → Int32 → Option (Int32)) (hX : ∀ (x2 : Int32) (x3 : Int64) (x5 : Int32) (H : Heap) (locs : List Loc) (ls : Array Slot), K x2 x3 x5 = some r0 → cz_WS g b M s H locs → lv_has ls 7 [(0, .ref a0), (1, .int x1), (2, .int x2), (3, .long x3), (5, .int x5)] → W p l e R s m args below meth c H locs 0 0 (MQ below (cz_Q g b (some (.int r0)) M) args s 0 0 (fun q => b ≤ q)) (F0 m 57 ls [])) :
    ∀ (n : Nat) (x2 : Int32) (x3 : Int64) (x5 : Int32) (H : Heap) (locs : List Loc) (ls : Array Slot), cz_it3 (f_X1_placesOf_L10 a0 x1 M K) n x2 x3 x5 = some r0 → cz_WS g b M s H locs → lv_has ls 7 [(0, .ref a0), (1, .int x1), (2, .int x2), (3, .long x3), (5, .int x5)] → W p l e R s m args below meth c H locs 0 0 (MQ below (cz_Q g b (some (.int r0)) M) args s 0 0 (fun q => b ≤ q)) (F0 m 10 ls []) := by
  obtain ⟨hx, hb, -, ho, ht, -⟩ := id X
  intro n
  induction n with
  | zero => intro x2 x3 x5 H locs ls h; cases (show none = some _ from h)
  | succ n ih =>
    intro x2 x3 x5 H locs ls h hM hl
    have h : f_X1_placesOf_L10 a0 x1 M K (cz_it3 (f_X1_placesOf_L10 a0 x1 M K) n) x2 x3 x5 = some r0 := h
    rw [f_X1_placesOf_L10] at h
    refine lv_iload hx hb dX1_placesOf_10 (lv_at hl 4 rfl) ?_
    refine lv_aload_n hx hb dX1_placesOf_12 rfl (lv_at hl 0 rfl) ?_
    refine cz_getI X hM ff_X1_3 ka0 lk_X1_22 dX1_placesOf_13 ?_
    refine lv_icmp_ge (tgt := 57) hx hb dX1_placesOf_16 (by decide) (fun c2 => ?_) (fun c2 => ?_)
    · have h := cz_ite_t c2 h
      exact hX _ _ _ _ _ _ h hM (lv_sub hl [0, 1, 2, 3, 4] rfl)
    · have h := cz_ite_f c2 h
      refine lv_lload_n hx hb dX1_placesOf_19 rfl (lv_at hl 3 rfl) ?_
      refine lv_ldc2 hx hb ho (ht _ lc_X1_49) dX1_placesOf_20 ?_
      refine lv_land hx hb dX1_placesOf_23 ?_
      refine lv_l2i (v := Int64.toInt32 (x3 &&& (255 : Int64))) hx hb dX1_placesOf_24 rfl ?_
      refine lv_bipush (v := 97) hx hb dX1_placesOf_25 (by decide) ?_
      refine lv_isub hx hb dX1_placesOf_27 ?_
      refine cz_nmi h (fun v3 h => ?_)
      refine lv_istore (lv' := [(6, .int v3), (0, .ref a0), (1, .int x1), (2, .int x2), (3, .long x3), (5, .int x5)]) hx hb dX1_placesOf_28 hl (by decide) rfl (fun ls hl => ?_)
      refine lv_iload_n hx hb dX1_placesOf_30 rfl (lv_at hl 2 rfl) ?_
      refine lv_iload hx hb dX1_placesOf_31 (lv_at hl 0 rfl) ?_
      refine lv_iushr (v := cz_us x1 v3) hx hb dX1_placesOf_33 rfl ?_
      refine lv_iconst (v := 1) hx hb dX1_placesOf_34 (by decide) ?_
      refine lv_iand hx hb dX1_placesOf_35 ?_
      refine lv_if_eq (tgt := 46) hx hb dX1_placesOf_36 (by decide) (fun c4 => ?_) (fun c4 => ?_)
      · have h := cz_ite_t c4 h
        refine lv_lload_n hx hb dX1_placesOf_46 rfl (lv_at hl 4 rfl) ?_
        refine lv_bipush (v := 8) hx hb dX1_placesOf_47 (by decide) ?_
        refine lv_lushr (v := cz_usl x3 (8 : Int32)) hx hb dX1_placesOf_49 rfl ?_
        refine cz_nml h (fun v5 h => ?_)
        refine lv_lstore_n (lv' := [(3, .long v5), (6, .int v3), (0, .ref a0), (1, .int x1), (2, .int x2), (5, .int x5)]) hx hb dX1_placesOf_50 rfl hl (by decide) rfl (fun ls hl => ?_)
        refine cz_nmL (v := x5 + 1) h (fun v6 e7 h => ?_)
        refine lv_iinc (v := v6) (lv' := [(5, .int v6), (3, .long v5), (6, .int v3), (0, .ref a0), (1, .int x1), (2, .int x2)]) hx hb dX1_placesOf_51 hl (k := 5) rfl (by rw [e7]; rfl) (by decide) rfl (fun ls hl => ?_)
        refine lv_goto (tgt := 10) hx hb dX1_placesOf_54 (by decide) ?_
        exact ih _ _ _ _ _ _ h hM (lv_sub hl [3, 4, 5, 1, 0] rfl)
      · have h := cz_ite_f c4 h
        refine lv_iload_n hx hb dX1_placesOf_39 rfl (lv_at hl 3 rfl) ?_
        refine lv_iconst (v := 1) hx hb dX1_placesOf_40 (by decide) ?_
        refine lv_iload hx hb dX1_placesOf_41 (lv_at hl 5 rfl) ?_
        refine lv_ishl hx hb dX1_placesOf_43 ?_
        refine lv_ior hx hb dX1_placesOf_44 ?_
        refine cz_nmi h (fun v8 h => ?_)
        refine lv_istore_n (lv' := [(2, .int v8), (6, .int v3), (0, .ref a0), (1, .int x1), (3, .long x3), (5, .int x5)]) hx hb dX1_placesOf_45 rfl hl (by decide) rfl (fun ls hl => ?_)
        refine lv_lload_n hx hb dX1_placesOf_46 rfl (lv_at hl 4 rfl) ?_
        refine lv_bipush (v := 8) hx hb dX1_placesOf_47 (by decide) ?_
        refine lv_lushr (v := cz_usl x3 (8 : Int32)) hx hb dX1_placesOf_49 rfl ?_
        refine cz_nml h (fun v9 h => ?_)
        refine lv_lstore_n (lv' := [(3, .long v9), (2, .int v8), (6, .int v3), (0, .ref a0), (1, .int x1), (5, .int x5)]) hx hb dX1_placesOf_50 rfl hl (by decide) rfl (fun ls hl => ?_)
        refine cz_nmL (v := x5 + 1) h (fun v10 e11 h => ?_)
        refine lv_iinc (v := v10) (lv' := [(5, .int v10), (3, .long v9), (2, .int v8), (6, .int v3), (0, .ref a0), (1, .int x1)]) hx hb dX1_placesOf_51 hl (k := 5) rfl (by rw [e11]; rfl) (by decide) rfl (fun ls hl => ?_)
        refine lv_goto (tgt := 10) hx hb dX1_placesOf_54 (by decide) ?_
        exact ih _ _ _ _ _ _ h hM (lv_sub hl [4, 5, 2, 1, 0] rfl)
set_option maxHeartbeats 4000000 in
set_option maxRecDepth 100000 in
theorem c_X1_placesOf {l : Launch} {g : cz_G} {b : Nat} {M : cz_M} {r0 : Int32} {a : Nat} {x1 : Int32} (ka : cz_K b a 1) (h : f_X1_placesOf M a x1 = some r0) : cz_C l yX1_placesOf cX1_placesOf 7 (some .int) 0 0 g b [.ref a, .int x1] M (some (.int r0)) M := by
  refine cz_start (by decide) (Nat.le_of_ble_eq_true rfl) (fun p e s m args below meth c X H ls hM hl => ?_)
  have X : cz_X p s m args meth c cX1_placesOf 7 RX1 g b (some .int) := X
  obtain ⟨hx, hb, -, ho, ht, -⟩ := id X
  have hRf : 0 ≤ ({ frames := 0, cells := 0, slots := 0, locals := 0 } : Room).frames := Nat.le_refl _
  have hRl : 0 ≤ ({ frames := 0, cells := 0, slots := 0, locals := 0 } : Room).locals := Nat.le_refl _
  have hl : lv_has ls 7 [(0, .ref a), (1, .int x1)] := hl
  rw [f_X1_placesOf] at h
  refine lv_iconst (v := 0) hx hb dX1_placesOf_0 (by decide) ?_
  refine lv_istore_n (lv' := [(2, .int (0 : Int32)), (0, .ref a), (1, .int x1)]) hx hb dX1_placesOf_1 rfl hl (by decide) rfl (fun ls hl => ?_)
  refine lv_aload_n hx hb dX1_placesOf_2 rfl (lv_at hl 1 rfl) ?_
  refine cz_getL X hM ff_X1_2 ka lk_X1_18 dX1_placesOf_3 ?_
  refine cz_nml h (fun v1 h => ?_)
  refine lv_lstore_n (lv' := [(3, .long v1), (2, .int (0 : Int32)), (0, .ref a), (1, .int x1)]) hx hb dX1_placesOf_6 rfl hl (by decide) rfl (fun ls hl => ?_)
  refine lv_iconst (v := 0) hx hb dX1_placesOf_7 (by decide) ?_
  refine lv_istore (lv' := [(5, .int (0 : Int32)), (3, .long v1), (2, .int (0 : Int32)), (0, .ref a), (1, .int x1)]) hx hb dX1_placesOf_8 hl (by decide) rfl (fun ls hl => ?_)
  refine w_X1_placesOf_L10 X hRf hRl ka _ (fun x12 x13 x14 H locs ls h hM hl => ?_) _ _ _ _ _ _ _ h hM (lv_sub hl [3, 4, 2, 1, 0] rfl)
  refine lv_iload_n hx hb dX1_placesOf_57 rfl (lv_at hl 2 rfl) ?_
  exact cz_retp X hM h rfl dX1_placesOf_58
theorem mv_X3_copyFrom : cz_MV yX3_copyFrom cX3_copyFrom 2 none RX3 1 := ⟨mi_X3_copyFrom, ms_X3_copyFrom, mc_X3_copyFrom, ini_X3, by decide +kernel⟩
set_option maxHeartbeats 4000000 in
set_option maxRecDepth 100000 in
theorem c_X3_copyFrom {l : Launch} {g : cz_G} {b : Nat} {M : cz_M} {M9 : cz_M} {a : Nat} {a1 : Nat} (ka : cz_K b a 3) (ka1 : cz_K b a1 3) (h : f_X3_copyFrom M a a1 = some M9) : cz_C l yX3_copyFrom cX3_copyFrom 2 none 1 48 g b [.ref a, .ref a1] M none M9 := by
  refine cz_start (by decide) (Nat.le_of_ble_eq_true rfl) (fun p e s m args below meth c X H ls hM hl => ?_)
  have X : cz_X p s m args meth c cX3_copyFrom 2 RX3 g b none := X
  obtain ⟨hx, hb, -, ho, ht, -⟩ := id X
  have hRf : 1 ≤ ({ frames := 1, cells := 0, slots := 0, locals := 48 } : Room).frames := Nat.le_refl _
  have hRl : 48 ≤ ({ frames := 1, cells := 0, slots := 0, locals := 48 } : Room).locals := Nat.le_refl _
  have hl : lv_has ls 2 [(0, .ref a), (1, .ref a1)] := hl
  rw [f_X3_copyFrom] at h
  refine lv_aload_n hx hb dX3_copyFrom_0 rfl (lv_at hl 0 rfl) ?_
  refine lv_aload_n hx hb dX3_copyFrom_1 rfl (lv_at hl 1 rfl) ?_
  refine cz_getI X hM ff_X3_1 ka1 lk_X3_15 dX3_copyFrom_2 ?_
  refine cz_putI X hM h ff_X3_1 ka lk_X3_15 dX3_copyFrom_5 (fun M1 H locs h hM => ?_)
  refine lv_aload_n hx hb dX3_copyFrom_8 rfl (lv_at hl 1 rfl) ?_
  refine cz_getR X hM ff_X3_0 ka1 lk_X3_9 dX3_copyFrom_9 (fun hk2 => ?_)
  refine lv_iconst (v := 0) hx hb dX3_copyFrom_12 (by decide) ?_
  refine lv_aload_n hx hb dX3_copyFrom_13 rfl (lv_at hl 0 rfl) ?_
  refine cz_getR X hM ff_X3_0 ka lk_X3_9 dX3_copyFrom_14 (fun hk3 => ?_)
  refine lv_iconst (v := 0) hx hb dX3_copyFrom_17 (by decide) ?_
  refine lv_aload_n hx hb dX3_copyFrom_18 rfl (lv_at hl 0 rfl) ?_
  refine cz_getI X hM ff_X3_1 ka lk_X3_15 dX3_copyFrom_19 ?_
  refine cz_copy (n0 := 40) (n1 := 40) X hM hl.1 h hk2 hk3 (by decide) (by decide) ml_X3_19 (Nat.le_trans (Nat.le_of_ble_eq_true rfl) hRf) (Nat.le_trans (Nat.le_of_ble_eq_true rfl) hRl) dX3_copyFrom_22 (fun M4 H locs h hM => ?_)
  exact cz_retv X hM h dX3_copyFrom_25
theorem mv_X2_copyFrom : cz_MV yX2_copyFrom cX2_copyFrom 3 none RX2 1 := ⟨mi_X2_copyFrom, ms_X2_copyFrom, mc_X2_copyFrom, ini_X2, by decide +kernel⟩
set_option maxHeartbeats 4000000 in
set_option maxRecDepth 100000 in
theorem w_X2_copyFrom_L31 {p : Program} {l : Launch} {e : Env} {R : Room} {s : State} {m : MethodId} {args : Array Value} {below : List Frame} {meth : Method} {c : Code} {g : cz_G} {b : Nat} (X : cz_X p s m args meth c cX2_copyFrom 3 RX2 g b none) (hRf : 2 ≤ R.frames) (hRl : 69 ≤ R.locals) {M9 : cz_M} {a0 : Nat} {a1 : Nat} (ka0 : cz_K b a0 2) (ka1 : cz_K b a1 2)
    (K : Int32 → cz_M → Option (cz_M)) (hX : ∀ (x2 : Int32) (M : cz_M) (H : Heap) (locs : List Loc) (ls : Array Slot), K x2 M = some M9 → cz_WS g b M s H locs → lv_has ls 3 [(0, .ref a0), (1, .ref a1), (2, .int x2)] → W p l e R s m args below meth c H locs 0 0 (MQ below (cz_Q g b none M9) args s 0 0 (fun q => b ≤ q)) (F0 m 57 ls [])) :
    ∀ (n : Nat) (x2 : Int32) (M : cz_M) (H : Heap) (locs : List Loc) (ls : Array Slot), cz_it2 (f_X2_copyFrom_L31 a0 a1 K) n x2 M = some M9 → cz_WS g b M s H locs → lv_has ls 3 [(0, .ref a0), (1, .ref a1), (2, .int x2)] → W p l e R s m args below meth c H locs 0 0 (MQ below (cz_Q g b none M9) args s 0 0 (fun q => b ≤ q)) (F0 m 31 ls []) := by
  obtain ⟨hx, hb, -, ho, ht, -⟩ := id X
  intro n
  induction n with
  | zero => intro x2 M H locs ls h; cases (show none = some _ from h)
  | succ n ih =>
    intro x2 M H locs ls h hM hl
    have h : f_X2_copyFrom_L31 a0 a1 K (cz_it2 (f_X2_copyFrom_L31 a0 a1 K) n) x2 M = some M9 := h
    rw [f_X2_copyFrom_L31] at h
    refine lv_iload_n hx hb dX2_copyFrom_31 rfl (lv_at hl 2 rfl) ?_
    refine lv_iconst (v := 4) hx hb dX2_copyFrom_32 (by decide) ?_
    refine lv_icmp_ge (tgt := 57) hx hb dX2_copyFrom_33 (by decide) (fun c7 => ?_) (fun c7 => ?_)
    · have h := cz_ite_t c7 h
      exact hX _ _ _ _ _ h hM (lv_sub hl [0, 1, 2] rfl)
    · have h := cz_ite_f c7 h
      refine lv_aload_n hx hb dX2_copyFrom_36 rfl (lv_at hl 0 rfl) ?_
      refine cz_getR X hM ff_X2_1 ka0 lk_X2_17 dX2_copyFrom_37 (fun hk8 => ?_)
      refine lv_iload_n hx hb dX2_copyFrom_40 rfl (lv_at hl 2 rfl) ?_
      refine cz_aald0 X hM h hk8 dX2_copyFrom_41 (fun h hk9 => ?_)
      refine lv_aload_n hx hb dX2_copyFrom_42 rfl (lv_at hl 1 rfl) ?_
      refine cz_getR X hM ff_X2_1 ka1 lk_X2_17 dX2_copyFrom_43 (fun hk10 => ?_)
      refine lv_iload_n hx hb dX2_copyFrom_46 rfl (lv_at hl 2 rfl) ?_
      refine cz_aald0 X hM h hk10 dX2_copyFrom_47 (fun h hk11 => ?_)
      obtain ⟨M12, hq, h⟩ := cz_bd_t h
      refine cz_runV (rest := []) (As := [.ref ((a1 + 2) + (7 + Int32.toNatClampNeg x2))]) (T := TX0) (N0 := 4) X hM hl.1 (c_X0_copyFrom (l := l) (g := g) (b := b) hk9 hk11 hq) mv_X0_copyFrom rfl (by decide) hk9 ml_X2_52 ⟨Nat.le_trans (Nat.le_of_ble_eq_true rfl) hRf, Nat.le_trans (Nat.le_of_ble_eq_true rfl) hRl⟩ rfl rfl (Nat.le_of_ble_eq_true rfl) dX2_copyFrom_48 (fun H locs hM => ?_)
      refine cz_nmL (v := x2 + 1) h (fun v13 e14 h => ?_)
      refine lv_iinc (v := v13) (lv' := [(2, .int v13), (0, .ref a0), (1, .ref a1)]) hx hb dX2_copyFrom_51 hl (k := 2) rfl (by rw [e14]; rfl) (by decide) rfl (fun ls hl => ?_)
      refine lv_goto (tgt := 31) hx hb dX2_copyFrom_54 (by decide) ?_
      exact ih _ _ _ _ _ h hM (lv_sub hl [1, 2, 0] rfl)
set_option maxHeartbeats 4000000 in
set_option maxRecDepth 100000 in
theorem w_X2_copyFrom_L59 {p : Program} {l : Launch} {e : Env} {R : Room} {s : State} {m : MethodId} {args : Array Value} {below : List Frame} {meth : Method} {c : Code} {g : cz_G} {b : Nat} (X : cz_X p s m args meth c cX2_copyFrom 3 RX2 g b none) (hRf : 2 ≤ R.frames) (hRl : 69 ≤ R.locals) {M9 : cz_M} {a0 : Nat} {a1 : Nat} (ka0 : cz_K b a0 2) (ka1 : cz_K b a1 2)
    (K : Int32 → cz_M → Option (cz_M)) (hX : ∀ (x2 : Int32) (M : cz_M) (H : Heap) (locs : List Loc) (ls : Array Slot), K x2 M = some M9 → cz_WS g b M s H locs → lv_has ls 3 [(0, .ref a0), (1, .ref a1), (2, .int x2)] → W p l e R s m args below meth c H locs 0 0 (MQ below (cz_Q g b none M9) args s 0 0 (fun q => b ≤ q)) (F0 m 88 ls [])) :
    ∀ (n : Nat) (x2 : Int32) (M : cz_M) (H : Heap) (locs : List Loc) (ls : Array Slot), cz_it2 (f_X2_copyFrom_L59 a0 a1 K) n x2 M = some M9 → cz_WS g b M s H locs → lv_has ls 3 [(0, .ref a0), (1, .ref a1), (2, .int x2)] → W p l e R s m args below meth c H locs 0 0 (MQ below (cz_Q g b none M9) args s 0 0 (fun q => b ≤ q)) (F0 m 59 ls []) := by
  obtain ⟨hx, hb, -, ho, ht, -⟩ := id X
  intro n
  induction n with
  | zero => intro x2 M H locs ls h; cases (show none = some _ from h)
  | succ n ih =>
    intro x2 M H locs ls h hM hl
    have h : f_X2_copyFrom_L59 a0 a1 K (cz_it2 (f_X2_copyFrom_L59 a0 a1 K) n) x2 M = some M9 := h
    rw [f_X2_copyFrom_L59] at h
    refine lv_iload_n hx hb dX2_copyFrom_59 rfl (lv_at hl 2 rfl) ?_
    refine lv_aload_n hx hb dX2_copyFrom_60 rfl (lv_at hl 1 rfl) ?_
    refine cz_getI X hM ff_X2_7 ka1 lk_X2_56 dX2_copyFrom_61 ?_
    refine lv_icmp_ge (tgt := 88) hx hb dX2_copyFrom_64 (by decide) (fun c17 => ?_) (fun c17 => ?_)
    · have h := cz_ite_t c17 h
      exact hX _ _ _ _ _ h hM (lv_sub hl [0, 1, 2] rfl)
    · have h := cz_ite_f c17 h
      refine lv_aload_n hx hb dX2_copyFrom_67 rfl (lv_at hl 0 rfl) ?_
      refine cz_getR X hM ff_X2_3 ka0 lk_X2_26 dX2_copyFrom_68 (fun hk18 => ?_)
      refine lv_iload_n hx hb dX2_copyFrom_71 rfl (lv_at hl 2 rfl) ?_
      refine cz_aald1 X hM h hk18 dX2_copyFrom_72 (fun h hk19 => ?_)
      refine lv_aload_n hx hb dX2_copyFrom_73 rfl (lv_at hl 1 rfl) ?_
      refine cz_getR X hM ff_X2_3 ka1 lk_X2_26 dX2_copyFrom_74 (fun hk20 => ?_)
      refine lv_iload_n hx hb dX2_copyFrom_77 rfl (lv_at hl 2 rfl) ?_
      refine cz_aald1 X hM h hk20 dX2_copyFrom_78 (fun h hk21 => ?_)
      obtain ⟨M22, hq, h⟩ := cz_bd_t h
      refine cz_runV (rest := []) (As := [.ref ((a1 + 4) + (9 + Int32.toNatClampNeg x2))]) (T := TX1) (N0 := 11) X hM hl.1 (c_X1_copyFrom (l := l) (g := g) (b := b) hk19 hk21 hq) mv_X1_copyFrom rfl (by decide) hk19 ml_X2_60 ⟨Nat.le_trans (Nat.le_of_ble_eq_true rfl) hRf, Nat.le_trans (Nat.le_of_ble_eq_true rfl) hRl⟩ rfl rfl (Nat.le_of_ble_eq_true rfl) dX2_copyFrom_79 (fun H locs hM => ?_)
      refine cz_nmL (v := x2 + 1) h (fun v23 e24 h => ?_)
      refine lv_iinc (v := v23) (lv' := [(2, .int v23), (0, .ref a0), (1, .ref a1)]) hx hb dX2_copyFrom_82 hl (k := 2) rfl (by rw [e24]; rfl) (by decide) rfl (fun ls hl => ?_)
      refine lv_goto (tgt := 59) hx hb dX2_copyFrom_85 (by decide) ?_
      exact ih _ _ _ _ _ h hM (lv_sub hl [1, 2, 0] rfl)
set_option maxHeartbeats 4000000 in
set_option maxRecDepth 100000 in
theorem w_X2_copyFrom_L90 {p : Program} {l : Launch} {e : Env} {R : Room} {s : State} {m : MethodId} {args : Array Value} {below : List Frame} {meth : Method} {c : Code} {g : cz_G} {b : Nat} (X : cz_X p s m args meth c cX2_copyFrom 3 RX2 g b none) (hRf : 2 ≤ R.frames) (hRl : 69 ≤ R.locals) {M9 : cz_M} {a0 : Nat} {a1 : Nat} (ka0 : cz_K b a0 2) (ka1 : cz_K b a1 2)
    (K : Int32 → cz_M → Option (cz_M)) (hX : ∀ (x2 : Int32) (M : cz_M) (H : Heap) (locs : List Loc) (ls : Array Slot), K x2 M = some M9 → cz_WS g b M s H locs → lv_has ls 3 [(0, .ref a0), (1, .ref a1), (2, .int x2)] → W p l e R s m args below meth c H locs 0 0 (MQ below (cz_Q g b none M9) args s 0 0 (fun q => b ≤ q)) (F0 m 116 ls [])) :
    ∀ (n : Nat) (x2 : Int32) (M : cz_M) (H : Heap) (locs : List Loc) (ls : Array Slot), cz_it2 (f_X2_copyFrom_L90 a0 a1 K) n x2 M = some M9 → cz_WS g b M s H locs → lv_has ls 3 [(0, .ref a0), (1, .ref a1), (2, .int x2)] → W p l e R s m args below meth c H locs 0 0 (MQ below (cz_Q g b none M9) args s 0 0 (fun q => b ≤ q)) (F0 m 90 ls []) := by
  obtain ⟨hx, hb, -, ho, ht, -⟩ := id X
  intro n
  induction n with
  | zero => intro x2 M H locs ls h; cases (show none = some _ from h)
  | succ n ih =>
    intro x2 M H locs ls h hM hl
    have h : f_X2_copyFrom_L90 a0 a1 K (cz_it2 (f_X2_copyFrom_L90 a0 a1 K) n) x2 M = some M9 := h
    rw [f_X2_copyFrom_L90] at h
    refine lv_iload_n hx hb dX2_copyFrom_90 rfl (lv_at hl 2 rfl) ?_
    refine lv_iconst (v := 2) hx hb dX2_copyFrom_91 (by decide) ?_
    refine lv_icmp_ge (tgt := 116) hx hb dX2_copyFrom_92 (by decide) (fun c27 => ?_) (fun c27 => ?_)
    · have h := cz_ite_t c27 h
      exact hX _ _ _ _ _ h hM (lv_sub hl [0, 1, 2] rfl)
    · have h := cz_ite_f c27 h
      refine lv_aload_n hx hb dX2_copyFrom_95 rfl (lv_at hl 0 rfl) ?_
      refine cz_getR X hM ff_X2_4 ka0 lk_X2_32 dX2_copyFrom_96 (fun hk28 => ?_)
      refine lv_iload_n hx hb dX2_copyFrom_99 rfl (lv_at hl 2 rfl) ?_
      refine cz_aald2 X hM h hk28 dX2_copyFrom_100 (fun h hk29 => ?_)
      refine lv_aload_n hx hb dX2_copyFrom_101 rfl (lv_at hl 1 rfl) ?_
      refine cz_getR X hM ff_X2_4 ka1 lk_X2_32 dX2_copyFrom_102 (fun hk30 => ?_)
      refine lv_iload_n hx hb dX2_copyFrom_105 rfl (lv_at hl 2 rfl) ?_
      refine cz_aald2 X hM h hk30 dX2_copyFrom_106 (fun h hk31 => ?_)
      obtain ⟨M32, hq, h⟩ := cz_bd_t h
      refine cz_runV (rest := []) (As := [.ref ((a1 + 5) + (48 + 2 * Int32.toNatClampNeg x2))]) (T := TX3) (N0 := 2) X hM hl.1 (c_X3_copyFrom (l := l) (g := g) (b := b) hk29 hk31 hq) mv_X3_copyFrom rfl (by decide) hk29 ml_X2_63 ⟨Nat.le_trans (Nat.le_of_ble_eq_true rfl) hRf, Nat.le_trans (Nat.le_of_ble_eq_true rfl) hRl⟩ rfl rfl (Nat.le_of_ble_eq_true rfl) dX2_copyFrom_107 (fun H locs hM => ?_)
      refine cz_nmL (v := x2 + 1) h (fun v33 e34 h => ?_)
      refine lv_iinc (v := v33) (lv' := [(2, .int v33), (0, .ref a0), (1, .ref a1)]) hx hb dX2_copyFrom_110 hl (k := 2) rfl (by rw [e34]; rfl) (by decide) rfl (fun ls hl => ?_)
      refine lv_goto (tgt := 90) hx hb dX2_copyFrom_113 (by decide) ?_
      exact ih _ _ _ _ _ h hM (lv_sub hl [1, 2, 0] rfl)
set_option maxHeartbeats 4000000 in
set_option maxRecDepth 100000 in
theorem c_X2_copyFrom {l : Launch} {g : cz_G} {b : Nat} {M : cz_M} {M9 : cz_M} {a : Nat} {a1 : Nat} (ka : cz_K b a 2) (ka1 : cz_K b a1 2) (h : f_X2_copyFrom M a a1 = some M9) : cz_C l yX2_copyFrom cX2_copyFrom 3 none 2 69 g b [.ref a, .ref a1] M none M9 := by
  refine cz_start (by decide) (Nat.le_of_ble_eq_true rfl) (fun p e s m args below meth c X H ls hM hl => ?_)
  have X : cz_X p s m args meth c cX2_copyFrom 3 RX2 g b none := X
  obtain ⟨hx, hb, -, ho, ht, -⟩ := id X
  have hRf : 2 ≤ ({ frames := 2, cells := 0, slots := 0, locals := 69 } : Room).frames := Nat.le_refl _
  have hRl : 69 ≤ ({ frames := 2, cells := 0, slots := 0, locals := 69 } : Room).locals := Nat.le_refl _
  have hl : lv_has ls 3 [(0, .ref a), (1, .ref a1)] := hl
  rw [f_X2_copyFrom] at h
  refine lv_aload_n hx hb dX2_copyFrom_0 rfl (lv_at hl 1 rfl) ?_
  refine cz_getR X hM ff_X2_0 ka1 lk_X2_9 dX2_copyFrom_1 (fun hk1 => ?_)
  refine lv_iconst (v := 0) hx hb dX2_copyFrom_4 (by decide) ?_
  refine lv_aload_n hx hb dX2_copyFrom_5 rfl (lv_at hl 0 rfl) ?_
  refine cz_getR X hM ff_X2_0 ka lk_X2_9 dX2_copyFrom_6 (fun hk2 => ?_)
  refine lv_iconst (v := 0) hx hb dX2_copyFrom_9 (by decide) ?_
  refine lv_iconst (v := 3) hx hb dX2_copyFrom_10 (by decide) ?_
  refine cz_copy (n0 := 3) (n1 := 3) X hM hl.1 h hk1 hk2 (by decide) (by decide) ml_X2_46 (Nat.le_trans (Nat.le_of_ble_eq_true rfl) hRf) (Nat.le_trans (Nat.le_of_ble_eq_true rfl) hRl) dX2_copyFrom_11 (fun M3 H locs h hM => ?_)
  refine lv_aload_n hx hb dX2_copyFrom_14 rfl (lv_at hl 1 rfl) ?_
  refine cz_getR X hM ff_X2_2 ka1 lk_X2_21 dX2_copyFrom_15 (fun hk4 => ?_)
  refine lv_iconst (v := 0) hx hb dX2_copyFrom_18 (by decide) ?_
  refine lv_aload_n hx hb dX2_copyFrom_19 rfl (lv_at hl 0 rfl) ?_
  refine cz_getR X hM ff_X2_2 ka lk_X2_21 dX2_copyFrom_20 (fun hk5 => ?_)
  refine lv_iconst (v := 0) hx hb dX2_copyFrom_23 (by decide) ?_
  refine lv_bipush (v := 8) hx hb dX2_copyFrom_24 (by decide) ?_
  refine cz_copy (n0 := 8) (n1 := 8) X hM hl.1 h hk4 hk5 (by decide) (by decide) ml_X2_46 (Nat.le_trans (Nat.le_of_ble_eq_true rfl) hRf) (Nat.le_trans (Nat.le_of_ble_eq_true rfl) hRl) dX2_copyFrom_26 (fun M6 H locs h hM => ?_)
  refine lv_iconst (v := 0) hx hb dX2_copyFrom_29 (by decide) ?_
  refine lv_istore_n (lv' := [(2, .int (0 : Int32)), (0, .ref a), (1, .ref a1)]) hx hb dX2_copyFrom_30 rfl hl (by decide) rfl (fun ls hl => ?_)
  refine w_X2_copyFrom_L31 X hRf hRl ka ka1 _ (fun x15 M16 H locs ls h hM hl => ?_) _ _ _ _ _ _ h hM (lv_sub hl [1, 2, 0] rfl)
  refine lv_iconst (v := 0) hx hb dX2_copyFrom_57 (by decide) ?_
  refine lv_istore_n (lv' := [(2, .int (0 : Int32)), (0, .ref a), (1, .ref a1)]) hx hb dX2_copyFrom_58 rfl hl (by decide) rfl (fun ls hl => ?_)
  refine w_X2_copyFrom_L59 X hRf hRl ka ka1 _ (fun x25 M26 H locs ls h hM hl => ?_) _ _ _ _ _ _ h hM (lv_sub hl [1, 2, 0] rfl)
  refine lv_iconst (v := 0) hx hb dX2_copyFrom_88 (by decide) ?_
  refine lv_istore_n (lv' := [(2, .int (0 : Int32)), (0, .ref a), (1, .ref a1)]) hx hb dX2_copyFrom_89 rfl hl (by decide) rfl (fun ls hl => ?_)
  refine w_X2_copyFrom_L90 X hRf hRl ka ka1 _ (fun x35 M36 H locs ls h hM hl => ?_) _ _ _ _ _ _ h hM (lv_sub hl [1, 2, 0] rfl)
  refine lv_aload_n hx hb dX2_copyFrom_116 rfl (lv_at hl 0 rfl) ?_
  refine lv_aload_n hx hb dX2_copyFrom_117 rfl (lv_at hl 1 rfl) ?_
  refine cz_getI X hM ff_X2_7 ka1 lk_X2_56 dX2_copyFrom_118 ?_
  refine cz_putI X hM h ff_X2_7 ka lk_X2_56 dX2_copyFrom_121 (fun M37 H locs h hM => ?_)
  refine lv_aload_n hx hb dX2_copyFrom_124 rfl (lv_at hl 0 rfl) ?_
  refine lv_aload_n hx hb dX2_copyFrom_125 rfl (lv_at hl 1 rfl) ?_
  refine cz_getI X hM ff_X2_8 ka1 lk_X2_66 dX2_copyFrom_126 ?_
  refine cz_putI X hM h ff_X2_8 ka lk_X2_66 dX2_copyFrom_129 (fun M38 H locs h hM => ?_)
  exact cz_retv X hM h dX2_copyFrom_132
theorem mv_X2_hasLetter : cz_MV yX2_hasLetter cX2_hasLetter 2 (some .boolean) RX2 1 := ⟨mi_X2_hasLetter, ms_X2_hasLetter, mc_X2_hasLetter, ini_X2, by decide +kernel⟩
set_option maxHeartbeats 4000000 in
set_option maxRecDepth 100000 in
theorem c_X2_hasLetter {l : Launch} {g : cz_G} {b : Nat} {M : cz_M} {r0 : Int32} {a : Nat} {x1 : Int32} (ka : cz_K b a 2) (h : f_X2_hasLetter M a x1 = some r0) : cz_C l yX2_hasLetter cX2_hasLetter 2 (some .boolean) 0 0 g b [.ref a, .int x1] M (some (.int r0)) M := by
  refine cz_start (by decide) (Nat.le_of_ble_eq_true rfl) (fun p e s m args below meth c X H ls hM hl => ?_)
  have X : cz_X p s m args meth c cX2_hasLetter 2 RX2 g b (some .boolean) := X
  obtain ⟨hx, hb, -, ho, ht, -⟩ := id X
  have hRf : 0 ≤ ({ frames := 0, cells := 0, slots := 0, locals := 0 } : Room).frames := Nat.le_refl _
  have hRl : 0 ≤ ({ frames := 0, cells := 0, slots := 0, locals := 0 } : Room).locals := Nat.le_refl _
  have hl : lv_has ls 2 [(0, .ref a), (1, .int x1)] := hl
  rw [f_X2_hasLetter] at h
  refine lv_iload_n hx hb dX2_hasLetter_0 rfl (lv_at hl 1 rfl) ?_
  refine lv_if_lt (tgt := 16) hx hb dX2_hasLetter_1 (by decide) (fun c1 => ?_) (fun c1 => ?_)
  · have h := cz_ite_t c1 h
    refine lv_iconst (v := 0) hx hb dX2_hasLetter_16 (by decide) ?_
    exact cz_retp X hM h rfl dX2_hasLetter_17
  · have h := cz_ite_f c1 h
    refine lv_iload_n hx hb dX2_hasLetter_4 rfl (lv_at hl 1 rfl) ?_
    refine lv_aload_n hx hb dX2_hasLetter_5 rfl (lv_at hl 0 rfl) ?_
    refine cz_getI X hM ff_X2_7 ka lk_X2_56 dX2_hasLetter_6 ?_
    refine lv_icmp_ge (tgt := 16) hx hb dX2_hasLetter_9 (by decide) (fun c2 => ?_) (fun c2 => ?_)
    · have h := cz_ite_t c2 h
      refine lv_iconst (v := 0) hx hb dX2_hasLetter_16 (by decide) ?_
      exact cz_retp X hM h rfl dX2_hasLetter_17
    · have h := cz_ite_f c2 h
      refine lv_iconst (v := 1) hx hb dX2_hasLetter_12 (by decide) ?_
      refine lv_goto (tgt := 17) hx hb dX2_hasLetter_13 (by decide) ?_
      exact cz_retp X hM h rfl dX2_hasLetter_17
theorem mv_X2_beginLetter : cz_MV yX2_beginLetter cX2_beginLetter 3 (some (FieldType.object "CensoredThreads$Letter")) RX2 1 := ⟨mi_X2_beginLetter, ms_X2_beginLetter, mc_X2_beginLetter, ini_X2, by decide +kernel⟩
set_option maxHeartbeats 4000000 in
set_option maxRecDepth 100000 in
theorem c_X2_beginLetter {l : Launch} {g : cz_G} {b : Nat} {M : cz_M} {r0 : Option Nat} {M9 : cz_M} {a : Nat} {x1 : Int32} (ka : cz_K b a 2) (h : f_X2_beginLetter M a x1 = some (r0, M9)) : cz_C l yX2_beginLetter cX2_beginLetter 3 (some (FieldType.object "CensoredThreads$Letter")) 1 22 g b [.ref a, .int x1] M (some (va_rf r0)) M9 := by
  refine cz_start (by decide) (Nat.le_of_ble_eq_true rfl) (fun p e s m args below meth c X H ls hM hl => ?_)
  have X : cz_X p s m args meth c cX2_beginLetter 3 RX2 g b (some (FieldType.object "CensoredThreads$Letter")) := X
  obtain ⟨hx, hb, -, ho, ht, -⟩ := id X
  have hRf : 1 ≤ ({ frames := 1, cells := 0, slots := 0, locals := 22 } : Room).frames := Nat.le_refl _
  have hRl : 22 ≤ ({ frames := 1, cells := 0, slots := 0, locals := 22 } : Room).locals := Nat.le_refl _
  have hl : lv_has ls 3 [(0, .ref a), (1, .int x1)] := hl
  rw [f_X2_beginLetter] at h
  refine lv_aload_n hx hb dX2_beginLetter_0 rfl (lv_at hl 0 rfl) ?_
  refine cz_getI X hM ff_X2_7 ka lk_X2_56 dX2_beginLetter_1 ?_
  refine lv_bipush (v := 40) hx hb dX2_beginLetter_4 (by decide) ?_
  refine lv_icmp_lt (tgt := 11) hx hb dX2_beginLetter_6 (by decide) (fun c1 => ?_) (fun c1 => ?_)
  · have h := cz_ite_t c1 h
    refine lv_aload_n hx hb dX2_beginLetter_11 rfl (lv_at hl 0 rfl) ?_
    refine cz_getR X hM ff_X2_3 ka lk_X2_26 dX2_beginLetter_12 (fun hk2 => ?_)
    refine lv_aload_n hx hb dX2_beginLetter_15 rfl (lv_at hl 0 rfl) ?_
    refine cz_getI X hM ff_X2_7 ka lk_X2_56 dX2_beginLetter_16 ?_
    refine cz_aald1 X hM h hk2 dX2_beginLetter_19 (fun h hk3 => ?_)
    refine cz_nmr h hk3 (fun r4 h hk5 => ?_)
    refine lv_astore_n (lv' := [(2, .ref r4), (0, .ref a), (1, .int x1)]) hx hb dX2_beginLetter_20 rfl hl (by decide) rfl (fun ls hl => ?_)
    refine lv_aload_n hx hb dX2_beginLetter_21 rfl (lv_at hl 0 rfl) ?_
    refine lv_iload_n hx hb dX2_beginLetter_22 rfl (lv_at hl 2 rfl) ?_
    refine lv_aload_n hx hb dX2_beginLetter_23 rfl (lv_at hl 1 rfl) ?_
    refine cz_getI X hM ff_X2_8 ka lk_X2_66 dX2_beginLetter_24 ?_
    obtain ⟨M6, hq, h⟩ := cz_bd_t h
    refine cz_runV (rest := []) (As := [.int x1, .int (M.1 a 8)]) (T := TX1) (N0 := 11) X hM hl.1 (c_X1_begin (l := l) (g := g) (b := b) hk5 hq) mv_X1_begin rfl (by decide) hk5 ml_X2_69 ⟨Nat.le_trans (Nat.le_of_ble_eq_true rfl) hRf, Nat.le_trans (Nat.le_of_ble_eq_true rfl) hRl⟩ rfl rfl (Nat.le_of_ble_eq_true rfl) dX2_beginLetter_27 (fun H locs hM => ?_)
    refine lv_aload_n hx hb dX2_beginLetter_30 rfl (lv_at hl 1 rfl) ?_
    refine lv_dup hx hb dX2_beginLetter_31 rfl ?_
    refine cz_getI X hM ff_X2_7 ka lk_X2_56 dX2_beginLetter_32 ?_
    refine lv_iconst (v := 1) hx hb dX2_beginLetter_35 (by decide) ?_
    refine lv_iadd hx hb dX2_beginLetter_36 ?_
    refine cz_putI X hM h ff_X2_7 ka lk_X2_56 dX2_beginLetter_37 (fun M7 H locs h hM => ?_)
    refine lv_aload_n hx hb dX2_beginLetter_40 rfl (lv_at hl 0 rfl) ?_
    exact cz_retq (v := (some r4)) X hM h dX2_beginLetter_41
  · have h := cz_ite_f c1 h
    refine lv_null hx hb dX2_beginLetter_9 ?_
    exact cz_retq (v := none) X hM h dX2_beginLetter_10
theorem mv_X3_append : cz_MV yX3_append cX3_append 2 none RX3 1 := ⟨mi_X3_append, ms_X3_append, mc_X3_append, ini_X3, by decide +kernel⟩
set_option maxHeartbeats 4000000 in
set_option maxRecDepth 100000 in
theorem c_X3_append {l : Launch} {g : cz_G} {b : Nat} {M : cz_M} {M9 : cz_M} {a : Nat} {x1 : Int32} (ka : cz_K b a 3) (h : f_X3_append M a x1 = some M9) : cz_C l yX3_append cX3_append 2 none 0 0 g b [.ref a, .int x1] M none M9 := by
  refine cz_start (by decide) (Nat.le_of_ble_eq_true rfl) (fun p e s m args below meth c X H ls hM hl => ?_)
  have X : cz_X p s m args meth c cX3_append 2 RX3 g b none := X
  obtain ⟨hx, hb, -, ho, ht, -⟩ := id X
  have hRf : 0 ≤ ({ frames := 0, cells := 0, slots := 0, locals := 0 } : Room).frames := Nat.le_refl _
  have hRl : 0 ≤ ({ frames := 0, cells := 0, slots := 0, locals := 0 } : Room).locals := Nat.le_refl _
  have hl : lv_has ls 2 [(0, .ref a), (1, .int x1)] := hl
  rw [f_X3_append] at h
  refine lv_aload_n hx hb dX3_append_0 rfl (lv_at hl 0 rfl) ?_
  refine cz_getI X hM ff_X3_1 ka lk_X3_15 dX3_append_1 ?_
  refine lv_aload_n hx hb dX3_append_4 rfl (lv_at hl 0 rfl) ?_
  refine cz_getR X hM ff_X3_0 ka lk_X3_9 dX3_append_5 (fun hk1 => ?_)
  refine cz_alen (n := 40) (v := 40) X hM hk1 (by decide) (by decide) dX3_append_8 ?_
  refine lv_icmp_ge (tgt := 32) hx hb dX3_append_9 (by decide) (fun c2 => ?_) (fun c2 => ?_)
  · have h := cz_ite_t c2 h
    exact cz_retv X hM h dX3_append_32
  · have h := cz_ite_f c2 h
    refine lv_aload_n hx hb dX3_append_12 rfl (lv_at hl 0 rfl) ?_
    refine cz_getR X hM ff_X3_0 ka lk_X3_9 dX3_append_13 (fun hk3 => ?_)
    refine lv_aload_n hx hb dX3_append_16 rfl (lv_at hl 0 rfl) ?_
    refine cz_getI X hM ff_X3_1 ka lk_X3_15 dX3_append_17 ?_
    refine lv_iload_n hx hb dX3_append_20 rfl (lv_at hl 1 rfl) ?_
    refine cz_iast (n := 40) X hM h hk3 (by decide) dX3_append_21 (fun M4 H locs h hM => ?_)
    refine lv_aload_n hx hb dX3_append_22 rfl (lv_at hl 0 rfl) ?_
    refine lv_dup hx hb dX3_append_23 rfl ?_
    refine cz_getI X hM ff_X3_1 ka lk_X3_15 dX3_append_24 ?_
    refine lv_iconst (v := 1) hx hb dX3_append_27 (by decide) ?_
    refine lv_iadd hx hb dX3_append_28 ?_
    refine cz_putI X hM h ff_X3_1 ka lk_X3_15 dX3_append_29 (fun M5 H locs h hM => ?_)
    exact cz_retv X hM h dX3_append_32
theorem mv_X2_sendNewest : cz_MV yX2_sendNewest cX2_sendNewest 2 none RX2 1 := ⟨mi_X2_sendNewest, ms_X2_sendNewest, mc_X2_sendNewest, ini_X2, by decide +kernel⟩
set_option maxHeartbeats 4000000 in
set_option maxRecDepth 100000 in
theorem c_X2_sendNewest {l : Launch} {g : cz_G} {b : Nat} {M : cz_M} {M9 : cz_M} {a : Nat} {x1 : Int32} (ka : cz_K b a 2) (h : f_X2_sendNewest M a x1 = some M9) : cz_C l yX2_sendNewest cX2_sendNewest 2 none 1 21 g b [.ref a, .int x1] M none M9 := by
  refine cz_start (by decide) (Nat.le_of_ble_eq_true rfl) (fun p e s m args below meth c X H ls hM hl => ?_)
  have X : cz_X p s m args meth c cX2_sendNewest 2 RX2 g b none := X
  obtain ⟨hx, hb, -, ho, ht, -⟩ := id X
  have hRf : 1 ≤ ({ frames := 1, cells := 0, slots := 0, locals := 21 } : Room).frames := Nat.le_refl _
  have hRl : 21 ≤ ({ frames := 1, cells := 0, slots := 0, locals := 21 } : Room).locals := Nat.le_refl _
  have hl : lv_has ls 2 [(0, .ref a), (1, .int x1)] := hl
  rw [f_X2_sendNewest] at h
  refine lv_aload_n hx hb dX2_sendNewest_0 rfl (lv_at hl 0 rfl) ?_
  refine cz_getI X hM ff_X2_7 ka lk_X2_56 dX2_sendNewest_1 ?_
  refine lv_if_le (tgt := 37) hx hb dX2_sendNewest_4 (by decide) (fun c1 => ?_) (fun c1 => ?_)
  · have h := cz_ite_t c1 h
    exact cz_retv X hM h dX2_sendNewest_37
  · have h := cz_ite_f c1 h
    refine lv_aload_n hx hb dX2_sendNewest_7 rfl (lv_at hl 0 rfl) ?_
    refine cz_getR X hM ff_X2_3 ka lk_X2_26 dX2_sendNewest_8 (fun hk2 => ?_)
    refine lv_aload_n hx hb dX2_sendNewest_11 rfl (lv_at hl 0 rfl) ?_
    refine cz_getI X hM ff_X2_7 ka lk_X2_56 dX2_sendNewest_12 ?_
    refine lv_iconst (v := 1) hx hb dX2_sendNewest_15 (by decide) ?_
    refine lv_isub hx hb dX2_sendNewest_16 ?_
    refine cz_aald1 X hM h hk2 dX2_sendNewest_17 (fun h hk3 => ?_)
    refine lv_iload_n hx hb dX2_sendNewest_18 rfl (lv_at hl 1 rfl) ?_
    refine cz_putI X hM h ff_X1_1 hk3 lk_X2_73 dX2_sendNewest_19 (fun M4 H locs h hM => ?_)
    refine lv_aload_n hx hb dX2_sendNewest_22 rfl (lv_at hl 0 rfl) ?_
    refine cz_getR X hM ff_X2_4 ka lk_X2_32 dX2_sendNewest_23 (fun hk5 => ?_)
    refine lv_iload_n hx hb dX2_sendNewest_26 rfl (lv_at hl 1 rfl) ?_
    refine cz_aald2 X hM h hk5 dX2_sendNewest_27 (fun h hk6 => ?_)
    refine lv_aload_n hx hb dX2_sendNewest_28 rfl (lv_at hl 0 rfl) ?_
    refine cz_getI X hM ff_X2_7 ka lk_X2_56 dX2_sendNewest_29 ?_
    refine lv_iconst (v := 1) hx hb dX2_sendNewest_32 (by decide) ?_
    refine lv_isub hx hb dX2_sendNewest_33 ?_
    obtain ⟨M7, hq, h⟩ := cz_bd_t h
    refine cz_runV (rest := []) (As := [.int ((M4.1 a 7) - (1 : Int32))]) (T := TX3) (N0 := 2) X hM hl.1 (c_X3_append (l := l) (g := g) (b := b) hk6 hq) mv_X3_append rfl (by decide) hk6 ml_X2_76 ⟨Nat.le_trans (Nat.le_of_ble_eq_true rfl) hRf, Nat.le_trans (Nat.le_of_ble_eq_true rfl) hRl⟩ rfl rfl (Nat.le_of_ble_eq_true rfl) dX2_sendNewest_34 (fun H locs hM => ?_)
    exact cz_retv X hM h dX2_sendNewest_37
theorem mv_X3_takeOut : cz_MV yX3_takeOut cX3_takeOut 4 none RX3 1 := ⟨mi_X3_takeOut, ms_X3_takeOut, mc_X3_takeOut, ini_X3, by decide +kernel⟩
set_option maxHeartbeats 4000000 in
set_option maxRecDepth 100000 in
theorem w_X3_takeOut_L4 {p : Program} {l : Launch} {e : Env} {R : Room} {s : State} {m : MethodId} {args : Array Value} {below : List Frame} {meth : Method} {c : Code} {g : cz_G} {b : Nat} (X : cz_X p s m args meth c cX3_takeOut 4 RX3 g b none) (hRf : 0 ≤ R.frames) (hRl : 0 ≤ R.locals) {M9 : cz_M} {a0 : Nat} {x1 : Int32} (ka0 : cz_K b a0 3)
    (K : Int32 → Int32 → cz_M → Option (cz_M)) (hX : ∀ (x2 : Int32) (x3 : Int32) (M : cz_M) (H : Heap) (locs : List Loc) (ls : Array Slot), K x2 x3 M = some M9 → cz_WS g b M s H locs → lv_has ls 4 [(0, .ref a0), (1, .int x1), (2, .int x2), (3, .int x3)] → W p l e R s m args below meth c H locs 0 0 (MQ below (cz_Q g b none M9) args s 0 0 (fun q => b ≤ q)) (F0 m 43 ls [])) :
    ∀ (n : Nat) (x2 : Int32) (x3 : Int32) (M : cz_M) (H : Heap) (locs : List Loc) (ls : Array Slot), cz_it3 (f_X3_takeOut_L4 a0 x1 K) n x2 x3 M = some M9 → cz_WS g b M s H locs → lv_has ls 4 [(0, .ref a0), (1, .int x1), (2, .int x2), (3, .int x3)] → W p l e R s m args below meth c H locs 0 0 (MQ below (cz_Q g b none M9) args s 0 0 (fun q => b ≤ q)) (F0 m 4 ls []) := by
  obtain ⟨hx, hb, -, ho, ht, -⟩ := id X
  intro n
  induction n with
  | zero => intro x2 x3 M H locs ls h; cases (show none = some _ from h)
  | succ n ih =>
    intro x2 x3 M H locs ls h hM hl
    have h : f_X3_takeOut_L4 a0 x1 K (cz_it3 (f_X3_takeOut_L4 a0 x1 K) n) x2 x3 M = some M9 := h
    rw [f_X3_takeOut_L4] at h
    refine lv_iload_n hx hb dX3_takeOut_4 rfl (lv_at hl 3 rfl) ?_
    refine lv_aload_n hx hb dX3_takeOut_5 rfl (lv_at hl 0 rfl) ?_
    refine cz_getI X hM ff_X3_1 ka0 lk_X3_15 dX3_takeOut_6 ?_
    refine lv_icmp_ge (tgt := 43) hx hb dX3_takeOut_9 (by decide) (fun c1 => ?_) (fun c1 => ?_)
    · have h := cz_ite_t c1 h
      exact hX _ _ _ _ _ _ h hM (lv_sub hl [0, 1, 2, 3] rfl)
    · have h := cz_ite_f c1 h
      refine lv_aload_n hx hb dX3_takeOut_12 rfl (lv_at hl 0 rfl) ?_
      refine cz_getR X hM ff_X3_0 ka0 lk_X3_9 dX3_takeOut_13 (fun hk2 => ?_)
      refine lv_iload_n hx hb dX3_takeOut_16 rfl (lv_at hl 3 rfl) ?_
      refine cz_iald (n := 40) X hM h hk2 (by decide) dX3_takeOut_17 (fun h => ?_)
      refine lv_iload_n hx hb dX3_takeOut_18 rfl (lv_at hl 1 rfl) ?_
      refine lv_icmp_eq (tgt := 37) hx hb dX3_takeOut_19 (by decide) (fun c3 => ?_) (fun c3 => ?_)
      · have h := cz_ite_t c3 h
        refine cz_nmL (v := x3 + 1) h (fun v4 e5 h => ?_)
        refine lv_iinc (v := v4) (lv' := [(3, .int v4), (0, .ref a0), (1, .int x1), (2, .int x2)]) hx hb dX3_takeOut_37 hl (k := 3) rfl (by rw [e5]; rfl) (by decide) rfl (fun ls hl => ?_)
        refine lv_goto (tgt := 4) hx hb dX3_takeOut_40 (by decide) ?_
        exact ih _ _ _ _ _ _ h hM (lv_sub hl [1, 2, 3, 0] rfl)
      · have h := cz_ite_f c3 h
        refine lv_aload_n hx hb dX3_takeOut_22 rfl (lv_at hl 0 rfl) ?_
        refine cz_getR X hM ff_X3_0 ka0 lk_X3_9 dX3_takeOut_23 (fun hk6 => ?_)
        refine lv_iload_n hx hb dX3_takeOut_26 rfl (lv_at hl 2 rfl) ?_
        refine lv_aload_n hx hb dX3_takeOut_27 rfl (lv_at hl 0 rfl) ?_
        refine cz_getR X hM ff_X3_0 ka0 lk_X3_9 dX3_takeOut_28 (fun hk7 => ?_)
        refine lv_iload_n hx hb dX3_takeOut_31 rfl (lv_at hl 3 rfl) ?_
        refine cz_iald (n := 40) X hM h hk7 (by decide) dX3_takeOut_32 (fun h => ?_)
        refine cz_iast (n := 40) X hM h hk6 (by decide) dX3_takeOut_33 (fun M8 H locs h hM => ?_)
        refine cz_nmL (v := x2 + 1) h (fun v9 e10 h => ?_)
        refine lv_iinc (v := v9) (lv' := [(2, .int v9), (0, .ref a0), (1, .int x1), (3, .int x3)]) hx hb dX3_takeOut_34 hl (k := 2) rfl (by rw [e10]; rfl) (by decide) rfl (fun ls hl => ?_)
        refine cz_nmL (v := x3 + 1) h (fun v11 e12 h => ?_)
        refine lv_iinc (v := v11) (lv' := [(3, .int v11), (2, .int v9), (0, .ref a0), (1, .int x1)]) hx hb dX3_takeOut_37 hl (k := 3) rfl (by rw [e12]; rfl) (by decide) rfl (fun ls hl => ?_)
        refine lv_goto (tgt := 4) hx hb dX3_takeOut_40 (by decide) ?_
        exact ih _ _ _ _ _ _ h hM (lv_sub hl [2, 3, 1, 0] rfl)
set_option maxHeartbeats 4000000 in
set_option maxRecDepth 100000 in
theorem c_X3_takeOut {l : Launch} {g : cz_G} {b : Nat} {M : cz_M} {M9 : cz_M} {a : Nat} {x1 : Int32} (ka : cz_K b a 3) (h : f_X3_takeOut M a x1 = some M9) : cz_C l yX3_takeOut cX3_takeOut 4 none 0 0 g b [.ref a, .int x1] M none M9 := by
  refine cz_start (by decide) (Nat.le_of_ble_eq_true rfl) (fun p e s m args below meth c X H ls hM hl => ?_)
  have X : cz_X p s m args meth c cX3_takeOut 4 RX3 g b none := X
  obtain ⟨hx, hb, -, ho, ht, -⟩ := id X
  have hRf : 0 ≤ ({ frames := 0, cells := 0, slots := 0, locals := 0 } : Room).frames := Nat.le_refl _
  have hRl : 0 ≤ ({ frames := 0, cells := 0, slots := 0, locals := 0 } : Room).locals := Nat.le_refl _
  have hl : lv_has ls 4 [(0, .ref a), (1, .int x1)] := hl
  rw [f_X3_takeOut] at h
  refine lv_iconst (v := 0) hx hb dX3_takeOut_0 (by decide) ?_
  refine lv_istore_n (lv' := [(2, .int (0 : Int32)), (0, .ref a), (1, .int x1)]) hx hb dX3_takeOut_1 rfl hl (by decide) rfl (fun ls hl => ?_)
  refine lv_iconst (v := 0) hx hb dX3_takeOut_2 (by decide) ?_
  refine lv_istore_n (lv' := [(3, .int (0 : Int32)), (2, .int (0 : Int32)), (0, .ref a), (1, .int x1)]) hx hb dX3_takeOut_3 rfl hl (by decide) rfl (fun ls hl => ?_)
  refine w_X3_takeOut_L4 X hRf hRl ka _ (fun x13 x14 M15 H locs ls h hM hl => ?_) _ _ _ _ _ _ _ h hM (lv_sub hl [2, 3, 1, 0] rfl)
  refine lv_aload_n hx hb dX3_takeOut_43 rfl (lv_at hl 0 rfl) ?_
  refine lv_iload_n hx hb dX3_takeOut_44 rfl (lv_at hl 2 rfl) ?_
  refine cz_putI X hM h ff_X3_1 ka lk_X3_15 dX3_takeOut_45 (fun M16 H locs h hM => ?_)
  exact cz_retv X hM h dX3_takeOut_48
theorem mv_X2_burnWaiting : cz_MV yX2_burnWaiting cX2_burnWaiting 2 none RX2 1 := ⟨mi_X2_burnWaiting, ms_X2_burnWaiting, mc_X2_burnWaiting, ini_X2, by decide +kernel⟩
set_option maxHeartbeats 4000000 in
set_option maxRecDepth 100000 in
theorem c_X2_burnWaiting {l : Launch} {g : cz_G} {b : Nat} {M : cz_M} {M9 : cz_M} {a : Nat} {x1 : Int32} (ka : cz_K b a 2) (h : f_X2_burnWaiting M a x1 = some M9) : cz_C l yX2_burnWaiting cX2_burnWaiting 2 none 1 23 g b [.ref a, .int x1] M none M9 := by
  refine cz_start (by decide) (Nat.le_of_ble_eq_true rfl) (fun p e s m args below meth c X H ls hM hl => ?_)
  have X : cz_X p s m args meth c cX2_burnWaiting 2 RX2 g b none := X
  obtain ⟨hx, hb, -, ho, ht, -⟩ := id X
  have hRf : 1 ≤ ({ frames := 1, cells := 0, slots := 0, locals := 23 } : Room).frames := Nat.le_refl _
  have hRl : 23 ≤ ({ frames := 1, cells := 0, slots := 0, locals := 23 } : Room).locals := Nat.le_refl _
  have hl : lv_has ls 2 [(0, .ref a), (1, .int x1)] := hl
  rw [f_X2_burnWaiting] at h
  refine lv_aload_n hx hb dX2_burnWaiting_0 rfl (lv_at hl 0 rfl) ?_
  refine cz_getR X hM ff_X2_3 ka lk_X2_26 dX2_burnWaiting_1 (fun hk1 => ?_)
  refine lv_iload_n hx hb dX2_burnWaiting_4 rfl (lv_at hl 1 rfl) ?_
  refine cz_aald1 X hM h hk1 dX2_burnWaiting_5 (fun h hk2 => ?_)
  refine lv_iconst (v := 2) hx hb dX2_burnWaiting_6 (by decide) ?_
  refine cz_putI X hM h ff_X1_5 hk2 lk_X2_80 dX2_burnWaiting_7 (fun M3 H locs h hM => ?_)
  refine lv_aload_n hx hb dX2_burnWaiting_10 rfl (lv_at hl 0 rfl) ?_
  refine cz_getR X hM ff_X2_4 ka lk_X2_32 dX2_burnWaiting_11 (fun hk4 => ?_)
  refine lv_aload_n hx hb dX2_burnWaiting_14 rfl (lv_at hl 0 rfl) ?_
  refine cz_getR X hM ff_X2_3 ka lk_X2_26 dX2_burnWaiting_15 (fun hk5 => ?_)
  refine lv_iload_n hx hb dX2_burnWaiting_18 rfl (lv_at hl 1 rfl) ?_
  refine cz_aald1 X hM h hk5 dX2_burnWaiting_19 (fun h hk6 => ?_)
  refine cz_getI X hM ff_X1_1 hk6 lk_X2_73 dX2_burnWaiting_20 ?_
  refine cz_aald2 X hM h hk4 dX2_burnWaiting_23 (fun h hk7 => ?_)
  refine lv_iload_n hx hb dX2_burnWaiting_24 rfl (lv_at hl 1 rfl) ?_
  obtain ⟨M8, hq, h⟩ := cz_bd_t h
  refine cz_runV (rest := []) (As := [.int x1]) (T := TX3) (N0 := 2) X hM hl.1 (c_X3_takeOut (l := l) (g := g) (b := b) hk7 hq) mv_X3_takeOut rfl (by decide) hk7 ml_X2_83 ⟨Nat.le_trans (Nat.le_of_ble_eq_true rfl) hRf, Nat.le_trans (Nat.le_of_ble_eq_true rfl) hRl⟩ rfl rfl (Nat.le_of_ble_eq_true rfl) dX2_burnWaiting_25 (fun H locs hM => ?_)
  exact cz_retv X hM h dX2_burnWaiting_28
theorem mv_X2_tradeShifts : cz_MV yX2_tradeShifts cX2_tradeShifts 4 none RX2 2 := ⟨mi_X2_tradeShifts, ms_X2_tradeShifts, mc_X2_tradeShifts, ini_X2, by decide +kernel⟩
set_option maxHeartbeats 4000000 in
set_option maxRecDepth 100000 in
theorem c_X2_tradeShifts {l : Launch} {g : cz_G} {b : Nat} {M : cz_M} {M9 : cz_M} {a : Nat} {x1 : Int32} {x2 : Int32} (ka : cz_K b a 2) (h : f_X2_tradeShifts M a x1 x2 = some M9) : cz_C l yX2_tradeShifts cX2_tradeShifts 4 none 0 0 g b [.ref a, .int x1, .int x2] M none M9 := by
  refine cz_start (by decide) (Nat.le_of_ble_eq_true rfl) (fun p e s m args below meth c X H ls hM hl => ?_)
  have X : cz_X p s m args meth c cX2_tradeShifts 4 RX2 g b none := X
  obtain ⟨hx, hb, -, ho, ht, -⟩ := id X
  have hRf : 0 ≤ ({ frames := 0, cells := 0, slots := 0, locals := 0 } : Room).frames := Nat.le_refl _
  have hRl : 0 ≤ ({ frames := 0, cells := 0, slots := 0, locals := 0 } : Room).locals := Nat.le_refl _
  have hl : lv_has ls 4 [(0, .ref a), (1, .int x1), (2, .int x2)] := hl
  rw [f_X2_tradeShifts] at h
  refine lv_aload_n hx hb dX2_tradeShifts_0 rfl (lv_at hl 0 rfl) ?_
  refine cz_getR X hM ff_X2_2 ka lk_X2_21 dX2_tradeShifts_1 (fun hk1 => ?_)
  refine lv_iload_n hx hb dX2_tradeShifts_4 rfl (lv_at hl 1 rfl) ?_
  refine cz_iald (n := 8) X hM h hk1 (by decide) dX2_tradeShifts_5 (fun h => ?_)
  refine cz_nmi h (fun v2 h => ?_)
  refine lv_istore_n (lv' := [(3, .int v2), (0, .ref a), (1, .int x1), (2, .int x2)]) hx hb dX2_tradeShifts_6 rfl hl (by decide) rfl (fun ls hl => ?_)
  refine lv_aload_n hx hb dX2_tradeShifts_7 rfl (lv_at hl 1 rfl) ?_
  refine cz_getR X hM ff_X2_2 ka lk_X2_21 dX2_tradeShifts_8 (fun hk3 => ?_)
  refine lv_iload_n hx hb dX2_tradeShifts_11 rfl (lv_at hl 2 rfl) ?_
  refine lv_aload_n hx hb dX2_tradeShifts_12 rfl (lv_at hl 1 rfl) ?_
  refine cz_getR X hM ff_X2_2 ka lk_X2_21 dX2_tradeShifts_13 (fun hk4 => ?_)
  refine lv_iload_n hx hb dX2_tradeShifts_16 rfl (lv_at hl 3 rfl) ?_
  refine cz_iald (n := 8) X hM h hk4 (by decide) dX2_tradeShifts_17 (fun h => ?_)
  refine cz_iast (n := 8) X hM h hk3 (by decide) dX2_tradeShifts_18 (fun M5 H locs h hM => ?_)
  refine lv_aload_n hx hb dX2_tradeShifts_19 rfl (lv_at hl 1 rfl) ?_
  refine cz_getR X hM ff_X2_2 ka lk_X2_21 dX2_tradeShifts_20 (fun hk6 => ?_)
  refine lv_iload_n hx hb dX2_tradeShifts_23 rfl (lv_at hl 3 rfl) ?_
  refine lv_iload_n hx hb dX2_tradeShifts_24 rfl (lv_at hl 0 rfl) ?_
  refine cz_iast (n := 8) X hM h hk6 (by decide) dX2_tradeShifts_25 (fun M7 H locs h hM => ?_)
  exact cz_retv X hM h dX2_tradeShifts_26
theorem mv_X2_censorNumber : cz_MV yX2_censorNumber cX2_censorNumber 3 (some .int) RX2 2 := ⟨mi_X2_censorNumber, ms_X2_censorNumber, mc_X2_censorNumber, ini_X2, by decide +kernel⟩
set_option maxHeartbeats 4000000 in
set_option maxRecDepth 100000 in
theorem c_X2_censorNumber {l : Launch} {g : cz_G} {b : Nat} {M : cz_M} {r0 : Int32} {a : Nat} {x1 : Int32} {x2 : Int32} (ka : cz_K b a 2) (h : f_X2_censorNumber M a x1 x2 = some r0) : cz_C l yX2_censorNumber cX2_censorNumber 3 (some .int) 0 0 g b [.ref a, .int x1, .int x2] M (some (.int r0)) M := by
  refine cz_start (by decide) (Nat.le_of_ble_eq_true rfl) (fun p e s m args below meth c X H ls hM hl => ?_)
  have X : cz_X p s m args meth c cX2_censorNumber 3 RX2 g b (some .int) := X
  obtain ⟨hx, hb, -, ho, ht, -⟩ := id X
  have hRf : 0 ≤ ({ frames := 0, cells := 0, slots := 0, locals := 0 } : Room).frames := Nat.le_refl _
  have hRl : 0 ≤ ({ frames := 0, cells := 0, slots := 0, locals := 0 } : Room).locals := Nat.le_refl _
  have hl : lv_has ls 3 [(0, .ref a), (1, .int x1), (2, .int x2)] := hl
  rw [f_X2_censorNumber] at h
  refine lv_aload_n hx hb dX2_censorNumber_0 rfl (lv_at hl 0 rfl) ?_
  refine cz_getR X hM ff_X2_2 ka lk_X2_21 dX2_censorNumber_1 (fun hk1 => ?_)
  refine lv_iconst (v := 2) hx hb dX2_censorNumber_4 (by decide) ?_
  refine lv_iload_n hx hb dX2_censorNumber_5 rfl (lv_at hl 1 rfl) ?_
  refine lv_iconst (v := 4) hx hb dX2_censorNumber_6 (by decide) ?_
  refine lv_irem hx hb dX2_censorNumber_7 (by decide) ?_
  refine lv_imul hx hb dX2_censorNumber_8 ?_
  refine lv_iload_n hx hb dX2_censorNumber_9 rfl (lv_at hl 2 rfl) ?_
  refine lv_iadd hx hb dX2_censorNumber_10 ?_
  refine cz_iald (n := 8) X hM h hk1 (by decide) dX2_censorNumber_11 (fun h => ?_)
  exact cz_retp X hM h rfl dX2_censorNumber_12
theorem mv_X2_shiftsOf : cz_MV yX2_shiftsOf cX2_shiftsOf 4 (some .int) RX2 1 := ⟨mi_X2_shiftsOf, ms_X2_shiftsOf, mc_X2_shiftsOf, ini_X2, by decide +kernel⟩
set_option maxHeartbeats 4000000 in
set_option maxRecDepth 100000 in
theorem w_X2_shiftsOf_L4 {p : Program} {l : Launch} {e : Env} {R : Room} {s : State} {m : MethodId} {args : Array Value} {below : List Frame} {meth : Method} {c : Code} {g : cz_G} {b : Nat} (X : cz_X p s m args meth c cX2_shiftsOf 4 RX2 g b (some .int)) (hRf : 0 ≤ R.frames) (hRl : 0 ≤ R.locals) {r0 : Int32} {a0 : Nat} {x1 : Int32} {M : cz_M} (ka0 : cz_K b a0 2)
    (K : Int32 → Int32 → Option (Int32)) (hX : ∀ (x2 : Int32) (x3 : Int32) (H : Heap) (locs : List Loc) (ls : Array Slot), K x2 x3 = some r0 → cz_WS g b M s H locs → lv_has ls 4 [(0, .ref a0), (1, .int x1), (2, .int x2), (3, .int x3)] → W p l e R s m args below meth c H locs 0 0 (MQ below (cz_Q g b (some (.int r0)) M) args s 0 0 (fun q => b ≤ q)) (F0 m 29 ls [])) :
    ∀ (n : Nat) (x2 : Int32) (x3 : Int32) (H : Heap) (locs : List Loc) (ls : Array Slot), cz_it2 (f_X2_shiftsOf_L4 a0 x1 M K) n x2 x3 = some r0 → cz_WS g b M s H locs → lv_has ls 4 [(0, .ref a0), (1, .int x1), (2, .int x2), (3, .int x3)] → W p l e R s m args below meth c H locs 0 0 (MQ below (cz_Q g b (some (.int r0)) M) args s 0 0 (fun q => b ≤ q)) (F0 m 4 ls []) := by
  obtain ⟨hx, hb, -, ho, ht, -⟩ := id X
  intro n
  induction n with
  | zero => intro x2 x3 H locs ls h; cases (show none = some _ from h)
  | succ n ih =>
    intro x2 x3 H locs ls h hM hl
    have h : f_X2_shiftsOf_L4 a0 x1 M K (cz_it2 (f_X2_shiftsOf_L4 a0 x1 M K) n) x2 x3 = some r0 := h
    rw [f_X2_shiftsOf_L4] at h
    refine lv_iload_n hx hb dX2_shiftsOf_4 rfl (lv_at hl 3 rfl) ?_
    refine lv_bipush (v := 8) hx hb dX2_shiftsOf_5 (by decide) ?_
    refine lv_icmp_ge (tgt := 29) hx hb dX2_shiftsOf_7 (by decide) (fun c1 => ?_) (fun c1 => ?_)
    · have h := cz_ite_t c1 h
      exact hX _ _ _ _ _ h hM (lv_sub hl [0, 1, 2, 3] rfl)
    · have h := cz_ite_f c1 h
      refine lv_aload_n hx hb dX2_shiftsOf_10 rfl (lv_at hl 0 rfl) ?_
      refine cz_getR X hM ff_X2_2 ka0 lk_X2_21 dX2_shiftsOf_11 (fun hk2 => ?_)
      refine lv_iload_n hx hb dX2_shiftsOf_14 rfl (lv_at hl 3 rfl) ?_
      refine cz_iald (n := 8) X hM h hk2 (by decide) dX2_shiftsOf_15 (fun h => ?_)
      refine lv_iload_n hx hb dX2_shiftsOf_16 rfl (lv_at hl 1 rfl) ?_
      refine lv_icmp_ne (tgt := 23) hx hb dX2_shiftsOf_17 (by decide) (fun c3 => ?_) (fun c3 => ?_)
      · have h := cz_ite_f c3 h
        refine cz_nmL (v := x3 + 1) h (fun v4 e5 h => ?_)
        refine lv_iinc (v := v4) (lv' := [(3, .int v4), (0, .ref a0), (1, .int x1), (2, .int x2)]) hx hb dX2_shiftsOf_23 hl (k := 3) rfl (by rw [e5]; rfl) (by decide) rfl (fun ls hl => ?_)
        refine lv_goto (tgt := 4) hx hb dX2_shiftsOf_26 (by decide) ?_
        exact ih _ _ _ _ _ h hM (lv_sub hl [1, 2, 3, 0] rfl)
      · have h := cz_ite_t c3 h
        refine cz_nmL (v := x2 + 1) h (fun v6 e7 h => ?_)
        refine lv_iinc (v := v6) (lv' := [(2, .int v6), (0, .ref a0), (1, .int x1), (3, .int x3)]) hx hb dX2_shiftsOf_20 hl (k := 2) rfl (by rw [e7]; rfl) (by decide) rfl (fun ls hl => ?_)
        refine cz_nmL (v := x3 + 1) h (fun v8 e9 h => ?_)
        refine lv_iinc (v := v8) (lv' := [(3, .int v8), (2, .int v6), (0, .ref a0), (1, .int x1)]) hx hb dX2_shiftsOf_23 hl (k := 3) rfl (by rw [e9]; rfl) (by decide) rfl (fun ls hl => ?_)
        refine lv_goto (tgt := 4) hx hb dX2_shiftsOf_26 (by decide) ?_
        exact ih _ _ _ _ _ h hM (lv_sub hl [2, 3, 1, 0] rfl)
set_option maxHeartbeats 4000000 in
set_option maxRecDepth 100000 in
theorem c_X2_shiftsOf {l : Launch} {g : cz_G} {b : Nat} {M : cz_M} {r0 : Int32} {a : Nat} {x1 : Int32} (ka : cz_K b a 2) (h : f_X2_shiftsOf M a x1 = some r0) : cz_C l yX2_shiftsOf cX2_shiftsOf 4 (some .int) 0 0 g b [.ref a, .int x1] M (some (.int r0)) M := by
  refine cz_start (by decide) (Nat.le_of_ble_eq_true rfl) (fun p e s m args below meth c X H ls hM hl => ?_)
  have X : cz_X p s m args meth c cX2_shiftsOf 4 RX2 g b (some .int) := X
  obtain ⟨hx, hb, -, ho, ht, -⟩ := id X
  have hRf : 0 ≤ ({ frames := 0, cells := 0, slots := 0, locals := 0 } : Room).frames := Nat.le_refl _
  have hRl : 0 ≤ ({ frames := 0, cells := 0, slots := 0, locals := 0 } : Room).locals := Nat.le_refl _
  have hl : lv_has ls 4 [(0, .ref a), (1, .int x1)] := hl
  rw [f_X2_shiftsOf] at h
  refine lv_iconst (v := 0) hx hb dX2_shiftsOf_0 (by decide) ?_
  refine lv_istore_n (lv' := [(2, .int (0 : Int32)), (0, .ref a), (1, .int x1)]) hx hb dX2_shiftsOf_1 rfl hl (by decide) rfl (fun ls hl => ?_)
  refine lv_iconst (v := 0) hx hb dX2_shiftsOf_2 (by decide) ?_
  refine lv_istore_n (lv' := [(3, .int (0 : Int32)), (2, .int (0 : Int32)), (0, .ref a), (1, .int x1)]) hx hb dX2_shiftsOf_3 rfl hl (by decide) rfl (fun ls hl => ?_)
  refine w_X2_shiftsOf_L4 X hRf hRl ka _ (fun x10 x11 H locs ls h hM hl => ?_) _ _ _ _ _ _ h hM (lv_sub hl [2, 3, 1, 0] rfl)
  refine lv_iload_n hx hb dX2_shiftsOf_29 rfl (lv_at hl 2 rfl) ?_
  exact cz_retp X hM h rfl dX2_shiftsOf_30
theorem mv_X2_aheadOf : cz_MV yX2_aheadOf cX2_aheadOf 3 (some .int) RX2 1 := ⟨mi_X2_aheadOf, ms_X2_aheadOf, mc_X2_aheadOf, ini_X2, by decide +kernel⟩
set_option maxHeartbeats 4000000 in
set_option maxRecDepth 100000 in
theorem w_X2_aheadOf_L4 {p : Program} {l : Launch} {e : Env} {R : Room} {s : State} {m : MethodId} {args : Array Value} {below : List Frame} {meth : Method} {c : Code} {g : cz_G} {b : Nat} (X : cz_X p s m args meth c cX2_aheadOf 3 RX2 g b (some .int)) (hRf : 0 ≤ R.frames) (hRl : 0 ≤ R.locals) {r0 : Int32} {a0 : Nat} {x1 : Int32} {M : cz_M} (ka0 : cz_K b a0 2)
    (K : Int32 → Option (Int32)) (hX : ∀ (x2 : Int32) (H : Heap) (locs : List Loc) (ls : Array Slot), K x2 = some r0 → cz_WS g b M s H locs → lv_has ls 3 [(0, .ref a0), (1, .int x1), (2, .int x2)] → W p l e R s m args below meth c H locs 0 0 (MQ below (cz_Q g b (some (.int r0)) M) args s 0 0 (fun q => b ≤ q)) (F0 m 37 ls [])) :
    ∀ (n : Nat) (x2 : Int32) (H : Heap) (locs : List Loc) (ls : Array Slot), cz_it1 (f_X2_aheadOf_L4 a0 x1 M K) n x2 = some r0 → cz_WS g b M s H locs → lv_has ls 3 [(0, .ref a0), (1, .int x1), (2, .int x2)] → W p l e R s m args below meth c H locs 0 0 (MQ below (cz_Q g b (some (.int r0)) M) args s 0 0 (fun q => b ≤ q)) (F0 m 4 ls []) := by
  obtain ⟨hx, hb, -, ho, ht, -⟩ := id X
  intro n
  induction n with
  | zero => intro x2 H locs ls h; cases (show none = some _ from h)
  | succ n ih =>
    intro x2 H locs ls h hM hl
    have h : f_X2_aheadOf_L4 a0 x1 M K (cz_it1 (f_X2_aheadOf_L4 a0 x1 M K) n) x2 = some r0 := h
    rw [f_X2_aheadOf_L4] at h
    refine lv_iload_n hx hb dX2_aheadOf_4 rfl (lv_at hl 2 rfl) ?_
    refine lv_if_lt (tgt := 37) hx hb dX2_aheadOf_5 (by decide) (fun c2 => ?_) (fun c2 => ?_)
    · have h := cz_ite_t c2 h
      exact hX _ _ _ _ h hM (lv_sub hl [0, 1, 2] rfl)
    · have h := cz_ite_f c2 h
      refine lv_aload_n hx hb dX2_aheadOf_8 rfl (lv_at hl 0 rfl) ?_
      refine cz_getR X hM ff_X2_3 ka0 lk_X2_26 dX2_aheadOf_9 (fun hk3 => ?_)
      refine lv_iload_n hx hb dX2_aheadOf_12 rfl (lv_at hl 2 rfl) ?_
      refine cz_aald1 X hM h hk3 dX2_aheadOf_13 (fun h hk4 => ?_)
      refine cz_getI X hM ff_X1_0 hk4 lk_X2_86 dX2_aheadOf_14 ?_
      refine lv_aload_n hx hb dX2_aheadOf_17 rfl (lv_at hl 0 rfl) ?_
      refine cz_getR X hM ff_X2_3 ka0 lk_X2_26 dX2_aheadOf_18 (fun hk5 => ?_)
      refine lv_iload_n hx hb dX2_aheadOf_21 rfl (lv_at hl 1 rfl) ?_
      refine cz_aald1 X hM h hk5 dX2_aheadOf_22 (fun h hk6 => ?_)
      refine cz_getI X hM ff_X1_0 hk6 lk_X2_86 dX2_aheadOf_23 ?_
      refine lv_icmp_ne (tgt := 31) hx hb dX2_aheadOf_26 (by decide) (fun c7 => ?_) (fun c7 => ?_)
      · have h := cz_ite_f c7 h
        refine cz_nmL (v := x2 + (-1)) h (fun v8 e9 h => ?_)
        refine lv_iinc (v := v8) (lv' := [(2, .int v8), (0, .ref a0), (1, .int x1)]) hx hb dX2_aheadOf_31 hl (k := 2) rfl (by rw [e9]; rfl) (by decide) rfl (fun ls hl => ?_)
        refine lv_goto (tgt := 4) hx hb dX2_aheadOf_34 (by decide) ?_
        exact ih _ _ _ _ h hM (lv_sub hl [1, 2, 0] rfl)
      · have h := cz_ite_t c7 h
        refine lv_iload_n hx hb dX2_aheadOf_29 rfl (lv_at hl 2 rfl) ?_
        exact cz_retp X hM h rfl dX2_aheadOf_30
set_option maxHeartbeats 4000000 in
set_option maxRecDepth 100000 in
theorem c_X2_aheadOf {l : Launch} {g : cz_G} {b : Nat} {M : cz_M} {r0 : Int32} {a : Nat} {x1 : Int32} (ka : cz_K b a 2) (h : f_X2_aheadOf M a x1 = some r0) : cz_C l yX2_aheadOf cX2_aheadOf 3 (some .int) 0 0 g b [.ref a, .int x1] M (some (.int r0)) M := by
  refine cz_start (by decide) (Nat.le_of_ble_eq_true rfl) (fun p e s m args below meth c X H ls hM hl => ?_)
  have X : cz_X p s m args meth c cX2_aheadOf 3 RX2 g b (some .int) := X
  obtain ⟨hx, hb, -, ho, ht, -⟩ := id X
  have hRf : 0 ≤ ({ frames := 0, cells := 0, slots := 0, locals := 0 } : Room).frames := Nat.le_refl _
  have hRl : 0 ≤ ({ frames := 0, cells := 0, slots := 0, locals := 0 } : Room).locals := Nat.le_refl _
  have hl : lv_has ls 3 [(0, .ref a), (1, .int x1)] := hl
  rw [f_X2_aheadOf] at h
  refine lv_iload_n hx hb dX2_aheadOf_0 rfl (lv_at hl 1 rfl) ?_
  refine lv_iconst (v := 1) hx hb dX2_aheadOf_1 (by decide) ?_
  refine lv_isub hx hb dX2_aheadOf_2 ?_
  refine cz_nmi h (fun v1 h => ?_)
  refine lv_istore_n (lv' := [(2, .int v1), (0, .ref a), (1, .int x1)]) hx hb dX2_aheadOf_3 rfl hl (by decide) rfl (fun ls hl => ?_)
  refine w_X2_aheadOf_L4 X hRf hRl ka _ (fun x10 H locs ls h hM hl => ?_) _ _ _ _ _ h hM (lv_sub hl [1, 2, 0] rfl)
  refine lv_bipush (v := -6) hx hb dX2_aheadOf_37 (by decide) ?_
  exact cz_retp X hM h rfl dX2_aheadOf_39
theorem mv_X2_lettersThatAre : cz_MV yX2_lettersThatAre cX2_lettersThatAre 4 (some .int) RX2 1 := ⟨mi_X2_lettersThatAre, ms_X2_lettersThatAre, mc_X2_lettersThatAre, ini_X2, by decide +kernel⟩
set_option maxHeartbeats 4000000 in
set_option maxRecDepth 100000 in
theorem w_X2_lettersThatAre_L4 {p : Program} {l : Launch} {e : Env} {R : Room} {s : State} {m : MethodId} {args : Array Value} {below : List Frame} {meth : Method} {c : Code} {g : cz_G} {b : Nat} (X : cz_X p s m args meth c cX2_lettersThatAre 4 RX2 g b (some .int)) (hRf : 0 ≤ R.frames) (hRl : 0 ≤ R.locals) {r0 : Int32} {a0 : Nat} {x1 : Int32} {M : cz_M} (ka0 : cz_K b a0 2)
    (K : Int32 → Int32 → Option (Int32)) (hX : ∀ (x2 : Int32) (x3 : Int32) (H : Heap) (locs : List Loc) (ls : Array Slot), K x2 x3 = some r0 → cz_WS g b M s H locs → lv_has ls 4 [(0, .ref a0), (1, .int x1), (2, .int x2), (3, .int x3)] → W p l e R s m args below meth c H locs 0 0 (MQ below (cz_Q g b (some (.int r0)) M) args s 0 0 (fun q => b ≤ q)) (F0 m 34 ls [])) :
    ∀ (n : Nat) (x2 : Int32) (x3 : Int32) (H : Heap) (locs : List Loc) (ls : Array Slot), cz_it2 (f_X2_lettersThatAre_L4 a0 x1 M K) n x2 x3 = some r0 → cz_WS g b M s H locs → lv_has ls 4 [(0, .ref a0), (1, .int x1), (2, .int x2), (3, .int x3)] → W p l e R s m args below meth c H locs 0 0 (MQ below (cz_Q g b (some (.int r0)) M) args s 0 0 (fun q => b ≤ q)) (F0 m 4 ls []) := by
  obtain ⟨hx, hb, -, ho, ht, -⟩ := id X
  intro n
  induction n with
  | zero => intro x2 x3 H locs ls h; cases (show none = some _ from h)
  | succ n ih =>
    intro x2 x3 H locs ls h hM hl
    have h : f_X2_lettersThatAre_L4 a0 x1 M K (cz_it2 (f_X2_lettersThatAre_L4 a0 x1 M K) n) x2 x3 = some r0 := h
    rw [f_X2_lettersThatAre_L4] at h
    refine lv_iload_n hx hb dX2_lettersThatAre_4 rfl (lv_at hl 3 rfl) ?_
    refine lv_aload_n hx hb dX2_lettersThatAre_5 rfl (lv_at hl 0 rfl) ?_
    refine cz_getI X hM ff_X2_7 ka0 lk_X2_56 dX2_lettersThatAre_6 ?_
    refine lv_icmp_ge (tgt := 34) hx hb dX2_lettersThatAre_9 (by decide) (fun c1 => ?_) (fun c1 => ?_)
    · have h := cz_ite_t c1 h
      exact hX _ _ _ _ _ h hM (lv_sub hl [0, 1, 2, 3] rfl)
    · have h := cz_ite_f c1 h
      refine lv_aload_n hx hb dX2_lettersThatAre_12 rfl (lv_at hl 0 rfl) ?_
      refine cz_getR X hM ff_X2_3 ka0 lk_X2_26 dX2_lettersThatAre_13 (fun hk2 => ?_)
      refine lv_iload_n hx hb dX2_lettersThatAre_16 rfl (lv_at hl 3 rfl) ?_
      refine cz_aald1 X hM h hk2 dX2_lettersThatAre_17 (fun h hk3 => ?_)
      refine cz_getI X hM ff_X1_5 hk3 lk_X2_80 dX2_lettersThatAre_18 ?_
      refine lv_iload_n hx hb dX2_lettersThatAre_21 rfl (lv_at hl 1 rfl) ?_
      refine lv_icmp_ne (tgt := 28) hx hb dX2_lettersThatAre_22 (by decide) (fun c4 => ?_) (fun c4 => ?_)
      · have h := cz_ite_f c4 h
        refine cz_nmL (v := x3 + 1) h (fun v5 e6 h => ?_)
        refine lv_iinc (v := v5) (lv' := [(3, .int v5), (0, .ref a0), (1, .int x1), (2, .int x2)]) hx hb dX2_lettersThatAre_28 hl (k := 3) rfl (by rw [e6]; rfl) (by decide) rfl (fun ls hl => ?_)
        refine lv_goto (tgt := 4) hx hb dX2_lettersThatAre_31 (by decide) ?_
        exact ih _ _ _ _ _ h hM (lv_sub hl [1, 2, 3, 0] rfl)
      · have h := cz_ite_t c4 h
        refine cz_nmL (v := x2 + 1) h (fun v7 e8 h => ?_)
        refine lv_iinc (v := v7) (lv' := [(2, .int v7), (0, .ref a0), (1, .int x1), (3, .int x3)]) hx hb dX2_lettersThatAre_25 hl (k := 2) rfl (by rw [e8]; rfl) (by decide) rfl (fun ls hl => ?_)
        refine cz_nmL (v := x3 + 1) h (fun v9 e10 h => ?_)
        refine lv_iinc (v := v9) (lv' := [(3, .int v9), (2, .int v7), (0, .ref a0), (1, .int x1)]) hx hb dX2_lettersThatAre_28 hl (k := 3) rfl (by rw [e10]; rfl) (by decide) rfl (fun ls hl => ?_)
        refine lv_goto (tgt := 4) hx hb dX2_lettersThatAre_31 (by decide) ?_
        exact ih _ _ _ _ _ h hM (lv_sub hl [2, 3, 1, 0] rfl)
set_option maxHeartbeats 4000000 in
set_option maxRecDepth 100000 in
theorem c_X2_lettersThatAre {l : Launch} {g : cz_G} {b : Nat} {M : cz_M} {r0 : Int32} {a : Nat} {x1 : Int32} (ka : cz_K b a 2) (h : f_X2_lettersThatAre M a x1 = some r0) : cz_C l yX2_lettersThatAre cX2_lettersThatAre 4 (some .int) 0 0 g b [.ref a, .int x1] M (some (.int r0)) M := by
  refine cz_start (by decide) (Nat.le_of_ble_eq_true rfl) (fun p e s m args below meth c X H ls hM hl => ?_)
  have X : cz_X p s m args meth c cX2_lettersThatAre 4 RX2 g b (some .int) := X
  obtain ⟨hx, hb, -, ho, ht, -⟩ := id X
  have hRf : 0 ≤ ({ frames := 0, cells := 0, slots := 0, locals := 0 } : Room).frames := Nat.le_refl _
  have hRl : 0 ≤ ({ frames := 0, cells := 0, slots := 0, locals := 0 } : Room).locals := Nat.le_refl _
  have hl : lv_has ls 4 [(0, .ref a), (1, .int x1)] := hl
  rw [f_X2_lettersThatAre] at h
  refine lv_iconst (v := 0) hx hb dX2_lettersThatAre_0 (by decide) ?_
  refine lv_istore_n (lv' := [(2, .int (0 : Int32)), (0, .ref a), (1, .int x1)]) hx hb dX2_lettersThatAre_1 rfl hl (by decide) rfl (fun ls hl => ?_)
  refine lv_iconst (v := 0) hx hb dX2_lettersThatAre_2 (by decide) ?_
  refine lv_istore_n (lv' := [(3, .int (0 : Int32)), (2, .int (0 : Int32)), (0, .ref a), (1, .int x1)]) hx hb dX2_lettersThatAre_3 rfl hl (by decide) rfl (fun ls hl => ?_)
  refine w_X2_lettersThatAre_L4 X hRf hRl ka _ (fun x11 x12 H locs ls h hM hl => ?_) _ _ _ _ _ _ h hM (lv_sub hl [2, 3, 1, 0] rfl)
  refine lv_iload_n hx hb dX2_lettersThatAre_34 rfl (lv_at hl 2 rfl) ?_
  exact cz_retp X hM h rfl dX2_lettersThatAre_35
theorem mv_X2_allDelays : cz_MV yX2_allDelays cX2_allDelays 3 (some .int) RX2 0 := ⟨mi_X2_allDelays, ms_X2_allDelays, mc_X2_allDelays, ini_X2, by decide +kernel⟩
set_option maxHeartbeats 4000000 in
set_option maxRecDepth 100000 in
theorem w_X2_allDelays_L4 {p : Program} {l : Launch} {e : Env} {R : Room} {s : State} {m : MethodId} {args : Array Value} {below : List Frame} {meth : Method} {c : Code} {g : cz_G} {b : Nat} (X : cz_X p s m args meth c cX2_allDelays 3 RX2 g b (some .int)) (hRf : 0 ≤ R.frames) (hRl : 0 ≤ R.locals) {r0 : Int32} {a0 : Nat} {M : cz_M} (ka0 : cz_K b a0 2)
    (K : Int32 → Int32 → Option (Int32)) (hX : ∀ (x1 : Int32) (x2 : Int32) (H : Heap) (locs : List Loc) (ls : Array Slot), K x1 x2 = some r0 → cz_WS g b M s H locs → lv_has ls 3 [(0, .ref a0), (1, .int x1), (2, .int x2)] → W p l e R s m args below meth c H locs 0 0 (MQ below (cz_Q g b (some (.int r0)) M) args s 0 0 (fun q => b ≤ q)) (F0 m 43 ls [])) :
    ∀ (n : Nat) (x1 : Int32) (x2 : Int32) (H : Heap) (locs : List Loc) (ls : Array Slot), cz_it2 (f_X2_allDelays_L4 a0 M K) n x1 x2 = some r0 → cz_WS g b M s H locs → lv_has ls 3 [(0, .ref a0), (1, .int x1), (2, .int x2)] → W p l e R s m args below meth c H locs 0 0 (MQ below (cz_Q g b (some (.int r0)) M) args s 0 0 (fun q => b ≤ q)) (F0 m 4 ls []) := by
  obtain ⟨hx, hb, -, ho, ht, -⟩ := id X
  intro n
  induction n with
  | zero => intro x1 x2 H locs ls h; cases (show none = some _ from h)
  | succ n ih =>
    intro x1 x2 H locs ls h hM hl
    have h : f_X2_allDelays_L4 a0 M K (cz_it2 (f_X2_allDelays_L4 a0 M K) n) x1 x2 = some r0 := h
    rw [f_X2_allDelays_L4] at h
    refine lv_iload_n hx hb dX2_allDelays_4 rfl (lv_at hl 2 rfl) ?_
    refine lv_aload_n hx hb dX2_allDelays_5 rfl (lv_at hl 0 rfl) ?_
    refine cz_getI X hM ff_X2_7 ka0 lk_X2_56 dX2_allDelays_6 ?_
    refine lv_icmp_ge (tgt := 43) hx hb dX2_allDelays_9 (by decide) (fun c1 => ?_) (fun c1 => ?_)
    · have h := cz_ite_t c1 h
      exact hX _ _ _ _ _ h hM (lv_sub hl [0, 1, 2] rfl)
    · have h := cz_ite_f c1 h
      refine lv_aload_n hx hb dX2_allDelays_12 rfl (lv_at hl 0 rfl) ?_
      refine cz_getR X hM ff_X2_3 ka0 lk_X2_26 dX2_allDelays_13 (fun hk2 => ?_)
      refine lv_iload_n hx hb dX2_allDelays_16 rfl (lv_at hl 2 rfl) ?_
      refine cz_aald1 X hM h hk2 dX2_allDelays_17 (fun h hk3 => ?_)
      refine cz_getI X hM ff_X1_5 hk3 lk_X2_80 dX2_allDelays_18 ?_
      refine lv_iconst (v := 1) hx hb dX2_allDelays_21 (by decide) ?_
      refine lv_icmp_ne (tgt := 37) hx hb dX2_allDelays_22 (by decide) (fun c4 => ?_) (fun c4 => ?_)
      · have h := cz_ite_f c4 h
        refine cz_nmL (v := x2 + 1) h (fun v5 e6 h => ?_)
        refine lv_iinc (v := v5) (lv' := [(2, .int v5), (0, .ref a0), (1, .int x1)]) hx hb dX2_allDelays_37 hl (k := 2) rfl (by rw [e6]; rfl) (by decide) rfl (fun ls hl => ?_)
        refine lv_goto (tgt := 4) hx hb dX2_allDelays_40 (by decide) ?_
        exact ih _ _ _ _ _ h hM (lv_sub hl [1, 2, 0] rfl)
      · have h := cz_ite_t c4 h
        refine lv_iload_n hx hb dX2_allDelays_25 rfl (lv_at hl 1 rfl) ?_
        refine lv_aload_n hx hb dX2_allDelays_26 rfl (lv_at hl 0 rfl) ?_
        refine cz_getR X hM ff_X2_3 ka0 lk_X2_26 dX2_allDelays_27 (fun hk7 => ?_)
        refine lv_iload_n hx hb dX2_allDelays_30 rfl (lv_at hl 2 rfl) ?_
        refine cz_aald1 X hM h hk7 dX2_allDelays_31 (fun h hk8 => ?_)
        refine cz_getI X hM ff_X1_6 hk8 lk_X2_89 dX2_allDelays_32 ?_
        refine lv_iadd hx hb dX2_allDelays_35 ?_
        refine cz_nmi h (fun v9 h => ?_)
        refine lv_istore_n (lv' := [(1, .int v9), (0, .ref a0), (2, .int x2)]) hx hb dX2_allDelays_36 rfl hl (by decide) rfl (fun ls hl => ?_)
        refine cz_nmL (v := x2 + 1) h (fun v10 e11 h => ?_)
        refine lv_iinc (v := v10) (lv' := [(2, .int v10), (1, .int v9), (0, .ref a0)]) hx hb dX2_allDelays_37 hl (k := 2) rfl (by rw [e11]; rfl) (by decide) rfl (fun ls hl => ?_)
        refine lv_goto (tgt := 4) hx hb dX2_allDelays_40 (by decide) ?_
        exact ih _ _ _ _ _ h hM (lv_sub hl [2, 1, 0] rfl)
set_option maxHeartbeats 4000000 in
set_option maxRecDepth 100000 in
theorem c_X2_allDelays {l : Launch} {g : cz_G} {b : Nat} {M : cz_M} {r0 : Int32} {a : Nat} (ka : cz_K b a 2) (h : f_X2_allDelays M a = some r0) : cz_C l yX2_allDelays cX2_allDelays 3 (some .int) 0 0 g b [.ref a] M (some (.int r0)) M := by
  refine cz_start (by decide) (Nat.le_of_ble_eq_true rfl) (fun p e s m args below meth c X H ls hM hl => ?_)
  have X : cz_X p s m args meth c cX2_allDelays 3 RX2 g b (some .int) := X
  obtain ⟨hx, hb, -, ho, ht, -⟩ := id X
  have hRf : 0 ≤ ({ frames := 0, cells := 0, slots := 0, locals := 0 } : Room).frames := Nat.le_refl _
  have hRl : 0 ≤ ({ frames := 0, cells := 0, slots := 0, locals := 0 } : Room).locals := Nat.le_refl _
  have hl : lv_has ls 3 [(0, .ref a)] := hl
  rw [f_X2_allDelays] at h
  refine lv_iconst (v := 0) hx hb dX2_allDelays_0 (by decide) ?_
  refine lv_istore_n (lv' := [(1, .int (0 : Int32)), (0, .ref a)]) hx hb dX2_allDelays_1 rfl hl (by decide) rfl (fun ls hl => ?_)
  refine lv_iconst (v := 0) hx hb dX2_allDelays_2 (by decide) ?_
  refine lv_istore_n (lv' := [(2, .int (0 : Int32)), (1, .int (0 : Int32)), (0, .ref a)]) hx hb dX2_allDelays_3 rfl hl (by decide) rfl (fun ls hl => ?_)
  refine w_X2_allDelays_L4 X hRf hRl ka _ (fun x12 x13 H locs ls h hM hl => ?_) _ _ _ _ _ _ h hM (lv_sub hl [2, 1, 0] rfl)
  refine lv_iload_n hx hb dX2_allDelays_43 rfl (lv_at hl 1 rfl) ?_
  exact cz_retp X hM h rfl dX2_allDelays_44
theorem mv_X2_longestDelay : cz_MV yX2_longestDelay cX2_longestDelay 3 (some .int) RX2 0 := ⟨mi_X2_longestDelay, ms_X2_longestDelay, mc_X2_longestDelay, ini_X2, by decide +kernel⟩
set_option maxHeartbeats 4000000 in
set_option maxRecDepth 100000 in
theorem w_X2_longestDelay_L4 {p : Program} {l : Launch} {e : Env} {R : Room} {s : State} {m : MethodId} {args : Array Value} {below : List Frame} {meth : Method} {c : Code} {g : cz_G} {b : Nat} (X : cz_X p s m args meth c cX2_longestDelay 3 RX2 g b (some .int)) (hRf : 1 ≤ R.frames) (hRl : 48 ≤ R.locals) {r0 : Int32} {a0 : Nat} {M : cz_M} (ka0 : cz_K b a0 2)
    (K : Int32 → Int32 → Option (Int32)) (hX : ∀ (x1 : Int32) (x2 : Int32) (H : Heap) (locs : List Loc) (ls : Array Slot), K x1 x2 = some r0 → cz_WS g b M s H locs → lv_has ls 3 [(0, .ref a0), (1, .int x1), (2, .int x2)] → W p l e R s m args below meth c H locs 0 0 (MQ below (cz_Q g b (some (.int r0)) M) args s 0 0 (fun q => b ≤ q)) (F0 m 45 ls [])) :
    ∀ (n : Nat) (x1 : Int32) (x2 : Int32) (H : Heap) (locs : List Loc) (ls : Array Slot), cz_it2 (f_X2_longestDelay_L4 a0 M K) n x1 x2 = some r0 → cz_WS g b M s H locs → lv_has ls 3 [(0, .ref a0), (1, .int x1), (2, .int x2)] → W p l e R s m args below meth c H locs 0 0 (MQ below (cz_Q g b (some (.int r0)) M) args s 0 0 (fun q => b ≤ q)) (F0 m 4 ls []) := by
  obtain ⟨hx, hb, -, ho, ht, -⟩ := id X
  intro n
  induction n with
  | zero => intro x1 x2 H locs ls h; cases (show none = some _ from h)
  | succ n ih =>
    intro x1 x2 H locs ls h hM hl
    have h : f_X2_longestDelay_L4 a0 M K (cz_it2 (f_X2_longestDelay_L4 a0 M K) n) x1 x2 = some r0 := h
    rw [f_X2_longestDelay_L4] at h
    refine lv_iload_n hx hb dX2_longestDelay_4 rfl (lv_at hl 2 rfl) ?_
    refine lv_aload_n hx hb dX2_longestDelay_5 rfl (lv_at hl 0 rfl) ?_
    refine cz_getI X hM ff_X2_7 ka0 lk_X2_56 dX2_longestDelay_6 ?_
    refine lv_icmp_ge (tgt := 45) hx hb dX2_longestDelay_9 (by decide) (fun c1 => ?_) (fun c1 => ?_)
    · have h := cz_ite_t c1 h
      exact hX _ _ _ _ _ h hM (lv_sub hl [0, 1, 2] rfl)
    · have h := cz_ite_f c1 h
      refine lv_aload_n hx hb dX2_longestDelay_12 rfl (lv_at hl 0 rfl) ?_
      refine cz_getR X hM ff_X2_3 ka0 lk_X2_26 dX2_longestDelay_13 (fun hk2 => ?_)
      refine lv_iload_n hx hb dX2_longestDelay_16 rfl (lv_at hl 2 rfl) ?_
      refine cz_aald1 X hM h hk2 dX2_longestDelay_17 (fun h hk3 => ?_)
      refine cz_getI X hM ff_X1_5 hk3 lk_X2_80 dX2_longestDelay_18 ?_
      refine lv_iconst (v := 1) hx hb dX2_longestDelay_21 (by decide) ?_
      refine lv_icmp_ne (tgt := 39) hx hb dX2_longestDelay_22 (by decide) (fun c4 => ?_) (fun c4 => ?_)
      · have h := cz_ite_f c4 h
        refine cz_nmL (v := x2 + 1) h (fun v5 e6 h => ?_)
        refine lv_iinc (v := v5) (lv' := [(2, .int v5), (0, .ref a0), (1, .int x1)]) hx hb dX2_longestDelay_39 hl (k := 2) rfl (by rw [e6]; rfl) (by decide) rfl (fun ls hl => ?_)
        refine lv_goto (tgt := 4) hx hb dX2_longestDelay_42 (by decide) ?_
        exact ih _ _ _ _ _ h hM (lv_sub hl [1, 2, 0] rfl)
      · have h := cz_ite_t c4 h
        refine lv_iload_n hx hb dX2_longestDelay_25 rfl (lv_at hl 1 rfl) ?_
        refine lv_aload_n hx hb dX2_longestDelay_26 rfl (lv_at hl 0 rfl) ?_
        refine cz_getR X hM ff_X2_3 ka0 lk_X2_26 dX2_longestDelay_27 (fun hk7 => ?_)
        refine lv_iload_n hx hb dX2_longestDelay_30 rfl (lv_at hl 2 rfl) ?_
        refine cz_aald1 X hM h hk7 dX2_longestDelay_31 (fun h hk8 => ?_)
        refine cz_getI X hM ff_X1_6 hk8 lk_X2_89 dX2_longestDelay_32 ?_
        refine cz_max X hl.1 ml_X2_92 (Nat.le_trans (Nat.le_of_ble_eq_true rfl) hRf) (Nat.le_trans (Nat.le_of_ble_eq_true rfl) hRl) dX2_longestDelay_35 ?_
        refine cz_nmi h (fun v9 h => ?_)
        refine lv_istore_n (lv' := [(1, .int v9), (0, .ref a0), (2, .int x2)]) hx hb dX2_longestDelay_38 rfl hl (by decide) rfl (fun ls hl => ?_)
        refine cz_nmL (v := x2 + 1) h (fun v10 e11 h => ?_)
        refine lv_iinc (v := v10) (lv' := [(2, .int v10), (1, .int v9), (0, .ref a0)]) hx hb dX2_longestDelay_39 hl (k := 2) rfl (by rw [e11]; rfl) (by decide) rfl (fun ls hl => ?_)
        refine lv_goto (tgt := 4) hx hb dX2_longestDelay_42 (by decide) ?_
        exact ih _ _ _ _ _ h hM (lv_sub hl [2, 1, 0] rfl)
set_option maxHeartbeats 4000000 in
set_option maxRecDepth 100000 in
theorem c_X2_longestDelay {l : Launch} {g : cz_G} {b : Nat} {M : cz_M} {r0 : Int32} {a : Nat} (ka : cz_K b a 2) (h : f_X2_longestDelay M a = some r0) : cz_C l yX2_longestDelay cX2_longestDelay 3 (some .int) 1 48 g b [.ref a] M (some (.int r0)) M := by
  refine cz_start (by decide) (Nat.le_of_ble_eq_true rfl) (fun p e s m args below meth c X H ls hM hl => ?_)
  have X : cz_X p s m args meth c cX2_longestDelay 3 RX2 g b (some .int) := X
  obtain ⟨hx, hb, -, ho, ht, -⟩ := id X
  have hRf : 1 ≤ ({ frames := 1, cells := 0, slots := 0, locals := 48 } : Room).frames := Nat.le_refl _
  have hRl : 48 ≤ ({ frames := 1, cells := 0, slots := 0, locals := 48 } : Room).locals := Nat.le_refl _
  have hl : lv_has ls 3 [(0, .ref a)] := hl
  rw [f_X2_longestDelay] at h
  refine lv_iconst (v := 0) hx hb dX2_longestDelay_0 (by decide) ?_
  refine lv_istore_n (lv' := [(1, .int (0 : Int32)), (0, .ref a)]) hx hb dX2_longestDelay_1 rfl hl (by decide) rfl (fun ls hl => ?_)
  refine lv_iconst (v := 0) hx hb dX2_longestDelay_2 (by decide) ?_
  refine lv_istore_n (lv' := [(2, .int (0 : Int32)), (1, .int (0 : Int32)), (0, .ref a)]) hx hb dX2_longestDelay_3 rfl hl (by decide) rfl (fun ls hl => ?_)
  refine w_X2_longestDelay_L4 X hRf hRl ka _ (fun x12 x13 H locs ls h hM hl => ?_) _ _ _ _ _ _ h hM (lv_sub hl [2, 1, 0] rfl)
  refine lv_iload_n hx hb dX2_longestDelay_45 rfl (lv_at hl 1 rfl) ?_
  exact cz_retp X hM h rfl dX2_longestDelay_46
theorem mv_X2_wordsStruckInLetters : cz_MV yX2_wordsStruckInLetters cX2_wordsStruckInLetters 3 (some .int) RX2 0 := ⟨mi_X2_wordsStruckInLetters, ms_X2_wordsStruckInLetters, mc_X2_wordsStruckInLetters, ini_X2, by decide +kernel⟩
set_option maxHeartbeats 4000000 in
set_option maxRecDepth 100000 in
theorem w_X2_wordsStruckInLetters_L4 {p : Program} {l : Launch} {e : Env} {R : Room} {s : State} {m : MethodId} {args : Array Value} {below : List Frame} {meth : Method} {c : Code} {g : cz_G} {b : Nat} (X : cz_X p s m args meth c cX2_wordsStruckInLetters 3 RX2 g b (some .int)) (hRf : 2 ≤ R.frames) (hRl : 40 ≤ R.locals) {r0 : Int32} {a0 : Nat} {M : cz_M} (ka0 : cz_K b a0 2)
    (K : Int32 → Int32 → Option (Int32)) (hX : ∀ (x1 : Int32) (x2 : Int32) (H : Heap) (locs : List Loc) (ls : Array Slot), K x1 x2 = some r0 → cz_WS g b M s H locs → lv_has ls 3 [(0, .ref a0), (1, .int x1), (2, .int x2)] → W p l e R s m args below meth c H locs 0 0 (MQ below (cz_Q g b (some (.int r0)) M) args s 0 0 (fun q => b ≤ q)) (F0 m 43 ls [])) :
    ∀ (n : Nat) (x1 : Int32) (x2 : Int32) (H : Heap) (locs : List Loc) (ls : Array Slot), cz_it2 (f_X2_wordsStruckInLetters_L4 a0 M K) n x1 x2 = some r0 → cz_WS g b M s H locs → lv_has ls 3 [(0, .ref a0), (1, .int x1), (2, .int x2)] → W p l e R s m args below meth c H locs 0 0 (MQ below (cz_Q g b (some (.int r0)) M) args s 0 0 (fun q => b ≤ q)) (F0 m 4 ls []) := by
  obtain ⟨hx, hb, -, ho, ht, -⟩ := id X
  intro n
  induction n with
  | zero => intro x1 x2 H locs ls h; cases (show none = some _ from h)
  | succ n ih =>
    intro x1 x2 H locs ls h hM hl
    have h : f_X2_wordsStruckInLetters_L4 a0 M K (cz_it2 (f_X2_wordsStruckInLetters_L4 a0 M K) n) x1 x2 = some r0 := h
    rw [f_X2_wordsStruckInLetters_L4] at h
    refine lv_iload_n hx hb dX2_wordsStruckInLetters_4 rfl (lv_at hl 2 rfl) ?_
    refine lv_aload_n hx hb dX2_wordsStruckInLetters_5 rfl (lv_at hl 0 rfl) ?_
    refine cz_getI X hM ff_X2_7 ka0 lk_X2_56 dX2_wordsStruckInLetters_6 ?_
    refine lv_icmp_ge (tgt := 43) hx hb dX2_wordsStruckInLetters_9 (by decide) (fun c1 => ?_) (fun c1 => ?_)
    · have h := cz_ite_t c1 h
      exact hX _ _ _ _ _ h hM (lv_sub hl [0, 1, 2] rfl)
    · have h := cz_ite_f c1 h
      refine lv_aload_n hx hb dX2_wordsStruckInLetters_12 rfl (lv_at hl 0 rfl) ?_
      refine cz_getR X hM ff_X2_3 ka0 lk_X2_26 dX2_wordsStruckInLetters_13 (fun hk2 => ?_)
      refine lv_iload_n hx hb dX2_wordsStruckInLetters_16 rfl (lv_at hl 2 rfl) ?_
      refine cz_aald1 X hM h hk2 dX2_wordsStruckInLetters_17 (fun h hk3 => ?_)
      refine cz_getI X hM ff_X1_5 hk3 lk_X2_80 dX2_wordsStruckInLetters_18 ?_
      refine lv_iconst (v := 1) hx hb dX2_wordsStruckInLetters_21 (by decide) ?_
      refine lv_icmp_ne (tgt := 37) hx hb dX2_wordsStruckInLetters_22 (by decide) (fun c4 => ?_) (fun c4 => ?_)
      · have h := cz_ite_f c4 h
        refine cz_nmL (v := x2 + 1) h (fun v5 e6 h => ?_)
        refine lv_iinc (v := v5) (lv' := [(2, .int v5), (0, .ref a0), (1, .int x1)]) hx hb dX2_wordsStruckInLetters_37 hl (k := 2) rfl (by rw [e6]; rfl) (by decide) rfl (fun ls hl => ?_)
        refine lv_goto (tgt := 4) hx hb dX2_wordsStruckInLetters_40 (by decide) ?_
        exact ih _ _ _ _ _ h hM (lv_sub hl [1, 2, 0] rfl)
      · have h := cz_ite_t c4 h
        refine lv_iload_n hx hb dX2_wordsStruckInLetters_25 rfl (lv_at hl 1 rfl) ?_
        refine lv_aload_n hx hb dX2_wordsStruckInLetters_26 rfl (lv_at hl 0 rfl) ?_
        refine cz_getR X hM ff_X2_3 ka0 lk_X2_26 dX2_wordsStruckInLetters_27 (fun hk7 => ?_)
        refine lv_iload_n hx hb dX2_wordsStruckInLetters_30 rfl (lv_at hl 2 rfl) ?_
        refine cz_aald1 X hM h hk7 dX2_wordsStruckInLetters_31 (fun h hk8 => ?_)
        obtain ⟨v9, hq, h⟩ := cz_bd_t h
        refine cz_runV (rest := [.int x1]) (As := []) (T := TX1) (N0 := 11) X hM hl.1 (c_X1_struckCount (l := l) (g := g) (b := b) hk8 hq) mv_X1_struckCount rfl (by decide) hk8 ml_X2_98 ⟨Nat.le_trans (Nat.le_of_ble_eq_true rfl) hRf, Nat.le_trans (Nat.le_of_ble_eq_true rfl) hRl⟩ rfl rfl (Nat.le_of_ble_eq_true rfl) dX2_wordsStruckInLetters_32 (fun H locs hM => ?_)
        refine lv_iadd hx hb dX2_wordsStruckInLetters_35 ?_
        refine cz_nmi h (fun v10 h => ?_)
        refine lv_istore_n (lv' := [(1, .int v10), (0, .ref a0), (2, .int x2)]) hx hb dX2_wordsStruckInLetters_36 rfl hl (by decide) rfl (fun ls hl => ?_)
        refine cz_nmL (v := x2 + 1) h (fun v11 e12 h => ?_)
        refine lv_iinc (v := v11) (lv' := [(2, .int v11), (1, .int v10), (0, .ref a0)]) hx hb dX2_wordsStruckInLetters_37 hl (k := 2) rfl (by rw [e12]; rfl) (by decide) rfl (fun ls hl => ?_)
        refine lv_goto (tgt := 4) hx hb dX2_wordsStruckInLetters_40 (by decide) ?_
        exact ih _ _ _ _ _ h hM (lv_sub hl [2, 1, 0] rfl)
set_option maxHeartbeats 4000000 in
set_option maxRecDepth 100000 in
theorem c_X2_wordsStruckInLetters {l : Launch} {g : cz_G} {b : Nat} {M : cz_M} {r0 : Int32} {a : Nat} (ka : cz_K b a 2) (h : f_X2_wordsStruckInLetters M a = some r0) : cz_C l yX2_wordsStruckInLetters cX2_wordsStruckInLetters 3 (some .int) 2 40 g b [.ref a] M (some (.int r0)) M := by
  refine cz_start (by decide) (Nat.le_of_ble_eq_true rfl) (fun p e s m args below meth c X H ls hM hl => ?_)
  have X : cz_X p s m args meth c cX2_wordsStruckInLetters 3 RX2 g b (some .int) := X
  obtain ⟨hx, hb, -, ho, ht, -⟩ := id X
  have hRf : 2 ≤ ({ frames := 2, cells := 0, slots := 0, locals := 40 } : Room).frames := Nat.le_refl _
  have hRl : 40 ≤ ({ frames := 2, cells := 0, slots := 0, locals := 40 } : Room).locals := Nat.le_refl _
  have hl : lv_has ls 3 [(0, .ref a)] := hl
  rw [f_X2_wordsStruckInLetters] at h
  refine lv_iconst (v := 0) hx hb dX2_wordsStruckInLetters_0 (by decide) ?_
  refine lv_istore_n (lv' := [(1, .int (0 : Int32)), (0, .ref a)]) hx hb dX2_wordsStruckInLetters_1 rfl hl (by decide) rfl (fun ls hl => ?_)
  refine lv_iconst (v := 0) hx hb dX2_wordsStruckInLetters_2 (by decide) ?_
  refine lv_istore_n (lv' := [(2, .int (0 : Int32)), (1, .int (0 : Int32)), (0, .ref a)]) hx hb dX2_wordsStruckInLetters_3 rfl hl (by decide) rfl (fun ls hl => ?_)
  refine w_X2_wordsStruckInLetters_L4 X hRf hRl ka _ (fun x13 x14 H locs ls h hM hl => ?_) _ _ _ _ _ _ h hM (lv_sub hl [2, 1, 0] rfl)
  refine lv_iload_n hx hb dX2_wordsStruckInLetters_43 rfl (lv_at hl 1 rfl) ?_
  exact cz_retp X hM h rfl dX2_wordsStruckInLetters_44
theorem mv_X2_findHeadsIn : cz_MV yX2_findHeadsIn cX2_findHeadsIn 5 none RX2 1 := ⟨mi_X2_findHeadsIn, ms_X2_findHeadsIn, mc_X2_findHeadsIn, ini_X2, by decide +kernel⟩
set_option maxHeartbeats 4000000 in
set_option maxRecDepth 100000 in
theorem w_X2_findHeadsIn_L2 {p : Program} {l : Launch} {e : Env} {R : Room} {s : State} {m : MethodId} {args : Array Value} {below : List Frame} {meth : Method} {c : Code} {g : cz_G} {b : Nat} (X : cz_X p s m args meth c cX2_findHeadsIn 5 RX2 g b none) (hRf : 0 ≤ R.frames) (hRl : 0 ≤ R.locals) {M9 : cz_M} {a0 : Nat} {a1 : Nat} (ka0 : cz_K b a0 2) (ka1 : cz_K b a1 3)
    (K : Int32 → cz_M → Option (cz_M)) (hX : ∀ (x2 : Int32) (M : cz_M) (H : Heap) (locs : List Loc) (ls : Array Slot), K x2 M = some M9 → cz_WS g b M s H locs → lv_has ls 5 [(0, .ref a0), (1, .ref a1), (2, .int x2)] → W p l e R s m args below meth c H locs 0 0 (MQ below (cz_Q g b none M9) args s 0 0 (fun q => b ≤ q)) (F0 m 65 ls [])) :
    ∀ (n : Nat) (x2 : Int32) (M : cz_M) (H : Heap) (locs : List Loc) (ls : Array Slot), cz_it2 (f_X2_findHeadsIn_L2 a0 a1 K) n x2 M = some M9 → cz_WS g b M s H locs → lv_has ls 5 [(0, .ref a0), (1, .ref a1), (2, .int x2)] → W p l e R s m args below meth c H locs 0 0 (MQ below (cz_Q g b none M9) args s 0 0 (fun q => b ≤ q)) (F0 m 2 ls []) := by
  obtain ⟨hx, hb, -, ho, ht, -⟩ := id X
  intro n
  induction n with
  | zero => intro x2 M H locs ls h; cases (show none = some _ from h)
  | succ n ih =>
    intro x2 M H locs ls h hM hl
    have h : f_X2_findHeadsIn_L2 a0 a1 K (cz_it2 (f_X2_findHeadsIn_L2 a0 a1 K) n) x2 M = some M9 := h
    rw [f_X2_findHeadsIn_L2] at h
    refine lv_iload_n hx hb dX2_findHeadsIn_2 rfl (lv_at hl 2 rfl) ?_
    refine lv_aload_n hx hb dX2_findHeadsIn_3 rfl (lv_at hl 1 rfl) ?_
    refine cz_getI X hM ff_X3_1 ka1 lk_X2_111 dX2_findHeadsIn_4 ?_
    refine lv_icmp_ge (tgt := 65) hx hb dX2_findHeadsIn_7 (by decide) (fun c1 => ?_) (fun c1 => ?_)
    · have h := cz_ite_t c1 h
      exact hX _ _ _ _ _ h hM (lv_sub hl [0, 1, 2] rfl)
    · have h := cz_ite_f c1 h
      refine lv_aload_n hx hb dX2_findHeadsIn_10 rfl (lv_at hl 1 rfl) ?_
      refine cz_getR X hM ff_X3_0 ka1 lk_X2_114 dX2_findHeadsIn_11 (fun hk2 => ?_)
      refine lv_iload_n hx hb dX2_findHeadsIn_14 rfl (lv_at hl 2 rfl) ?_
      refine cz_iald (n := 40) X hM h hk2 (by decide) dX2_findHeadsIn_15 (fun h => ?_)
      refine cz_nmi h (fun v3 h => ?_)
      refine lv_istore_n (lv' := [(3, .int v3), (0, .ref a0), (1, .ref a1), (2, .int x2)]) hx hb dX2_findHeadsIn_16 rfl hl (by decide) rfl (fun ls hl => ?_)
      refine lv_aload_n hx hb dX2_findHeadsIn_17 rfl (lv_at hl 1 rfl) ?_
      refine cz_getR X hM ff_X2_3 ka0 lk_X2_26 dX2_findHeadsIn_18 (fun hk4 => ?_)
      refine lv_iload_n hx hb dX2_findHeadsIn_21 rfl (lv_at hl 0 rfl) ?_
      refine cz_aald1 X hM h hk4 dX2_findHeadsIn_22 (fun h hk5 => ?_)
      refine cz_getI X hM ff_X1_0 hk5 lk_X2_86 dX2_findHeadsIn_23 ?_
      refine cz_nmi h (fun v6 h => ?_)
      refine lv_istore (lv' := [(4, .int v6), (3, .int v3), (0, .ref a0), (1, .ref a1), (2, .int x2)]) hx hb dX2_findHeadsIn_26 hl (by decide) rfl (fun ls hl => ?_)
      refine lv_aload_n hx hb dX2_findHeadsIn_28 rfl (lv_at hl 2 rfl) ?_
      refine cz_getR X hM ff_X2_6 ka0 lk_X2_41 dX2_findHeadsIn_29 (fun hk7 => ?_)
      refine lv_iload hx hb dX2_findHeadsIn_32 (lv_at hl 0 rfl) ?_
      refine cz_iald (n := 5) X hM h hk7 (by decide) dX2_findHeadsIn_34 (fun h => ?_)
      refine lv_bipush (v := -6) hx hb dX2_findHeadsIn_35 (by decide) ?_
      refine lv_icmp_eq (tgt := 51) hx hb dX2_findHeadsIn_37 (by decide) (fun c8 => ?_) (fun c8 => ?_)
      · have h := cz_ite_t c8 h
        refine lv_aload_n hx hb dX2_findHeadsIn_51 rfl (lv_at hl 2 rfl) ?_
        refine cz_getR X hM ff_X2_6 ka0 lk_X2_41 dX2_findHeadsIn_52 (fun hk9 => ?_)
        refine lv_iload hx hb dX2_findHeadsIn_55 (lv_at hl 0 rfl) ?_
        refine lv_iload_n hx hb dX2_findHeadsIn_57 rfl (lv_at hl 1 rfl) ?_
        refine cz_iast (n := 5) X hM h hk9 (by decide) dX2_findHeadsIn_58 (fun M10 H locs h hM => ?_)
        refine cz_nmL (v := x2 + 1) h (fun v11 e12 h => ?_)
        refine lv_iinc (v := v11) (lv' := [(2, .int v11), (4, .int v6), (3, .int v3), (0, .ref a0), (1, .ref a1)]) hx hb dX2_findHeadsIn_59 hl (k := 4) rfl (by rw [e12]; rfl) (by decide) rfl (fun ls hl => ?_)
        refine lv_goto (tgt := 2) hx hb dX2_findHeadsIn_62 (by decide) ?_
        exact ih _ _ _ _ _ h hM (lv_sub hl [3, 4, 0] rfl)
      · have h := cz_ite_f c8 h
        refine lv_aload_n hx hb dX2_findHeadsIn_40 rfl (lv_at hl 2 rfl) ?_
        refine cz_getR X hM ff_X2_6 ka0 lk_X2_41 dX2_findHeadsIn_41 (fun hk13 => ?_)
        refine lv_iload hx hb dX2_findHeadsIn_44 (lv_at hl 0 rfl) ?_
        refine cz_iald (n := 5) X hM h hk13 (by decide) dX2_findHeadsIn_46 (fun h => ?_)
        refine lv_iload_n hx hb dX2_findHeadsIn_47 rfl (lv_at hl 1 rfl) ?_
        refine lv_icmp_le (tgt := 59) hx hb dX2_findHeadsIn_48 (by decide) (fun c14 => ?_) (fun c14 => ?_)
        · have h := cz_ite_t c14 h
          refine cz_nmL (v := x2 + 1) h (fun v15 e16 h => ?_)
          refine lv_iinc (v := v15) (lv' := [(2, .int v15), (4, .int v6), (3, .int v3), (0, .ref a0), (1, .ref a1)]) hx hb dX2_findHeadsIn_59 hl (k := 4) rfl (by rw [e16]; rfl) (by decide) rfl (fun ls hl => ?_)
          refine lv_goto (tgt := 2) hx hb dX2_findHeadsIn_62 (by decide) ?_
          exact ih _ _ _ _ _ h hM (lv_sub hl [3, 4, 0] rfl)
        · have h := cz_ite_f c14 h
          refine lv_aload_n hx hb dX2_findHeadsIn_51 rfl (lv_at hl 2 rfl) ?_
          refine cz_getR X hM ff_X2_6 ka0 lk_X2_41 dX2_findHeadsIn_52 (fun hk17 => ?_)
          refine lv_iload hx hb dX2_findHeadsIn_55 (lv_at hl 0 rfl) ?_
          refine lv_iload_n hx hb dX2_findHeadsIn_57 rfl (lv_at hl 1 rfl) ?_
          refine cz_iast (n := 5) X hM h hk17 (by decide) dX2_findHeadsIn_58 (fun M18 H locs h hM => ?_)
          refine cz_nmL (v := x2 + 1) h (fun v19 e20 h => ?_)
          refine lv_iinc (v := v19) (lv' := [(2, .int v19), (4, .int v6), (3, .int v3), (0, .ref a0), (1, .ref a1)]) hx hb dX2_findHeadsIn_59 hl (k := 4) rfl (by rw [e20]; rfl) (by decide) rfl (fun ls hl => ?_)
          refine lv_goto (tgt := 2) hx hb dX2_findHeadsIn_62 (by decide) ?_
          exact ih _ _ _ _ _ h hM (lv_sub hl [3, 4, 0] rfl)
set_option maxHeartbeats 4000000 in
set_option maxRecDepth 100000 in
theorem c_X2_findHeadsIn {l : Launch} {g : cz_G} {b : Nat} {M : cz_M} {M9 : cz_M} {a : Nat} {a1 : Nat} (ka : cz_K b a 2) (ka1 : cz_K b a1 3) (h : f_X2_findHeadsIn M a a1 = some M9) : cz_C l yX2_findHeadsIn cX2_findHeadsIn 5 none 0 0 g b [.ref a, .ref a1] M none M9 := by
  refine cz_start (by decide) (Nat.le_of_ble_eq_true rfl) (fun p e s m args below meth c X H ls hM hl => ?_)
  have X : cz_X p s m args meth c cX2_findHeadsIn 5 RX2 g b none := X
  obtain ⟨hx, hb, -, ho, ht, -⟩ := id X
  have hRf : 0 ≤ ({ frames := 0, cells := 0, slots := 0, locals := 0 } : Room).frames := Nat.le_refl _
  have hRl : 0 ≤ ({ frames := 0, cells := 0, slots := 0, locals := 0 } : Room).locals := Nat.le_refl _
  have hl : lv_has ls 5 [(0, .ref a), (1, .ref a1)] := hl
  rw [f_X2_findHeadsIn] at h
  refine lv_iconst (v := 0) hx hb dX2_findHeadsIn_0 (by decide) ?_
  refine lv_istore_n (lv' := [(2, .int (0 : Int32)), (0, .ref a), (1, .ref a1)]) hx hb dX2_findHeadsIn_1 rfl hl (by decide) rfl (fun ls hl => ?_)
  refine w_X2_findHeadsIn_L2 X hRf hRl ka ka1 _ (fun x21 M22 H locs ls h hM hl => ?_) _ _ _ _ _ _ h hM (lv_sub hl [1, 2, 0] rfl)
  exact cz_retv X hM h dX2_findHeadsIn_65
theorem mv_X2_findHeads : cz_MV yX2_findHeads cX2_findHeads 2 none RX2 0 := ⟨mi_X2_findHeads, ms_X2_findHeads, mc_X2_findHeads, ini_X2, by decide +kernel⟩
set_option maxHeartbeats 4000000 in
set_option maxRecDepth 100000 in
theorem w_X2_findHeads_L2 {p : Program} {l : Launch} {e : Env} {R : Room} {s : State} {m : MethodId} {args : Array Value} {below : List Frame} {meth : Method} {c : Code} {g : cz_G} {b : Nat} (X : cz_X p s m args meth c cX2_findHeads 2 RX2 g b none) (hRf : 1 ≤ R.frames) (hRl : 24 ≤ R.locals) {M9 : cz_M} {a0 : Nat} (ka0 : cz_K b a0 2)
    (K : Int32 → cz_M → Option (cz_M)) (hX : ∀ (x1 : Int32) (M : cz_M) (H : Heap) (locs : List Loc) (ls : Array Slot), K x1 M = some M9 → cz_WS g b M s H locs → lv_has ls 2 [(0, .ref a0), (1, .int x1)] → W p l e R s m args below meth c H locs 0 0 (MQ below (cz_Q g b none M9) args s 0 0 (fun q => b ≤ q)) (F0 m 21 ls [])) :
    ∀ (n : Nat) (x1 : Int32) (M : cz_M) (H : Heap) (locs : List Loc) (ls : Array Slot), cz_it2 (f_X2_findHeads_L2 a0 K) n x1 M = some M9 → cz_WS g b M s H locs → lv_has ls 2 [(0, .ref a0), (1, .int x1)] → W p l e R s m args below meth c H locs 0 0 (MQ below (cz_Q g b none M9) args s 0 0 (fun q => b ≤ q)) (F0 m 2 ls []) := by
  obtain ⟨hx, hb, -, ho, ht, -⟩ := id X
  intro n
  induction n with
  | zero => intro x1 M H locs ls h; cases (show none = some _ from h)
  | succ n ih =>
    intro x1 M H locs ls h hM hl
    have h : f_X2_findHeads_L2 a0 K (cz_it2 (f_X2_findHeads_L2 a0 K) n) x1 M = some M9 := h
    rw [f_X2_findHeads_L2] at h
    refine lv_iload_n hx hb dX2_findHeads_2 rfl (lv_at hl 1 rfl) ?_
    refine lv_iconst (v := 5) hx hb dX2_findHeads_3 (by decide) ?_
    refine lv_icmp_ge (tgt := 21) hx hb dX2_findHeads_4 (by decide) (fun c1 => ?_) (fun c1 => ?_)
    · have h := cz_ite_t c1 h
      exact hX _ _ _ _ _ h hM (lv_sub hl [0, 1] rfl)
    · have h := cz_ite_f c1 h
      refine lv_aload_n hx hb dX2_findHeads_7 rfl (lv_at hl 0 rfl) ?_
      refine cz_getR X hM ff_X2_6 ka0 lk_X2_41 dX2_findHeads_8 (fun hk2 => ?_)
      refine lv_iload_n hx hb dX2_findHeads_11 rfl (lv_at hl 1 rfl) ?_
      refine lv_bipush (v := -6) hx hb dX2_findHeads_12 (by decide) ?_
      refine cz_iast (n := 5) X hM h hk2 (by decide) dX2_findHeads_14 (fun M3 H locs h hM => ?_)
      refine cz_nmL (v := x1 + 1) h (fun v4 e5 h => ?_)
      refine lv_iinc (v := v4) (lv' := [(1, .int v4), (0, .ref a0)]) hx hb dX2_findHeads_15 hl (k := 1) rfl (by rw [e5]; rfl) (by decide) rfl (fun ls hl => ?_)
      refine lv_goto (tgt := 2) hx hb dX2_findHeads_18 (by decide) ?_
      exact ih _ _ _ _ _ h hM (lv_sub hl [1, 0] rfl)
set_option maxHeartbeats 4000000 in
set_option maxRecDepth 100000 in
theorem w_X2_findHeads_L23 {p : Program} {l : Launch} {e : Env} {R : Room} {s : State} {m : MethodId} {args : Array Value} {below : List Frame} {meth : Method} {c : Code} {g : cz_G} {b : Nat} (X : cz_X p s m args meth c cX2_findHeads 2 RX2 g b none) (hRf : 1 ≤ R.frames) (hRl : 24 ≤ R.locals) {M9 : cz_M} {a0 : Nat} (ka0 : cz_K b a0 2)
    (K : Int32 → cz_M → Option (cz_M)) (hX : ∀ (x1 : Int32) (M : cz_M) (H : Heap) (locs : List Loc) (ls : Array Slot), K x1 M = some M9 → cz_WS g b M s H locs → lv_has ls 2 [(0, .ref a0), (1, .int x1)] → W p l e R s m args below meth c H locs 0 0 (MQ below (cz_Q g b none M9) args s 0 0 (fun q => b ≤ q)) (F0 m 44 ls [])) :
    ∀ (n : Nat) (x1 : Int32) (M : cz_M) (H : Heap) (locs : List Loc) (ls : Array Slot), cz_it2 (f_X2_findHeads_L23 a0 K) n x1 M = some M9 → cz_WS g b M s H locs → lv_has ls 2 [(0, .ref a0), (1, .int x1)] → W p l e R s m args below meth c H locs 0 0 (MQ below (cz_Q g b none M9) args s 0 0 (fun q => b ≤ q)) (F0 m 23 ls []) := by
  obtain ⟨hx, hb, -, ho, ht, -⟩ := id X
  intro n
  induction n with
  | zero => intro x1 M H locs ls h; cases (show none = some _ from h)
  | succ n ih =>
    intro x1 M H locs ls h hM hl
    have h : f_X2_findHeads_L23 a0 K (cz_it2 (f_X2_findHeads_L23 a0 K) n) x1 M = some M9 := h
    rw [f_X2_findHeads_L23] at h
    refine lv_iload_n hx hb dX2_findHeads_23 rfl (lv_at hl 1 rfl) ?_
    refine lv_iconst (v := 2) hx hb dX2_findHeads_24 (by decide) ?_
    refine lv_icmp_ge (tgt := 44) hx hb dX2_findHeads_25 (by decide) (fun c8 => ?_) (fun c8 => ?_)
    · have h := cz_ite_t c8 h
      exact hX _ _ _ _ _ h hM (lv_sub hl [0, 1] rfl)
    · have h := cz_ite_f c8 h
      refine lv_aload_n hx hb dX2_findHeads_28 rfl (lv_at hl 0 rfl) ?_
      refine lv_aload_n hx hb dX2_findHeads_29 rfl (lv_at hl 0 rfl) ?_
      refine cz_getR X hM ff_X2_4 ka0 lk_X2_32 dX2_findHeads_30 (fun hk9 => ?_)
      refine lv_iload_n hx hb dX2_findHeads_33 rfl (lv_at hl 1 rfl) ?_
      refine cz_aald2 X hM h hk9 dX2_findHeads_34 (fun h hk10 => ?_)
      obtain ⟨M11, hq, h⟩ := cz_bd_t h
      refine cz_runV (rest := []) (As := [.ref ((a0 + 5) + (48 + 2 * Int32.toNatClampNeg x1))]) (T := TX2) (N0 := 9) X hM hl.1 (c_X2_findHeadsIn (l := l) (g := g) (b := b) ka0 hk10 hq) mv_X2_findHeadsIn rfl (by decide) ka0 ml_X2_108 ⟨Nat.le_trans (Nat.le_of_ble_eq_true rfl) hRf, Nat.le_trans (Nat.le_of_ble_eq_true rfl) hRl⟩ rfl rfl (Nat.le_of_ble_eq_true rfl) dX2_findHeads_35 (fun H locs hM => ?_)
      refine cz_nmL (v := x1 + 1) h (fun v12 e13 h => ?_)
      refine lv_iinc (v := v12) (lv' := [(1, .int v12), (0, .ref a0)]) hx hb dX2_findHeads_38 hl (k := 1) rfl (by rw [e13]; rfl) (by decide) rfl (fun ls hl => ?_)
      refine lv_goto (tgt := 23) hx hb dX2_findHeads_41 (by decide) ?_
      exact ih _ _ _ _ _ h hM (lv_sub hl [1, 0] rfl)
set_option maxHeartbeats 4000000 in
set_option maxRecDepth 100000 in
theorem c_X2_findHeads {l : Launch} {g : cz_G} {b : Nat} {M : cz_M} {M9 : cz_M} {a : Nat} (ka : cz_K b a 2) (h : f_X2_findHeads M a = some M9) : cz_C l yX2_findHeads cX2_findHeads 2 none 1 24 g b [.ref a] M none M9 := by
  refine cz_start (by decide) (Nat.le_of_ble_eq_true rfl) (fun p e s m args below meth c X H ls hM hl => ?_)
  have X : cz_X p s m args meth c cX2_findHeads 2 RX2 g b none := X
  obtain ⟨hx, hb, -, ho, ht, -⟩ := id X
  have hRf : 1 ≤ ({ frames := 1, cells := 0, slots := 0, locals := 24 } : Room).frames := Nat.le_refl _
  have hRl : 24 ≤ ({ frames := 1, cells := 0, slots := 0, locals := 24 } : Room).locals := Nat.le_refl _
  have hl : lv_has ls 2 [(0, .ref a)] := hl
  rw [f_X2_findHeads] at h
  refine lv_iconst (v := 0) hx hb dX2_findHeads_0 (by decide) ?_
  refine lv_istore_n (lv' := [(1, .int (0 : Int32)), (0, .ref a)]) hx hb dX2_findHeads_1 rfl hl (by decide) rfl (fun ls hl => ?_)
  refine w_X2_findHeads_L2 X hRf hRl ka _ (fun x6 M7 H locs ls h hM hl => ?_) _ _ _ _ _ _ h hM (lv_sub hl [1, 0] rfl)
  refine lv_iconst (v := 0) hx hb dX2_findHeads_21 (by decide) ?_
  refine lv_istore_n (lv' := [(1, .int (0 : Int32)), (0, .ref a)]) hx hb dX2_findHeads_22 rfl hl (by decide) rfl (fun ls hl => ?_)
  refine w_X2_findHeads_L23 X hRf hRl ka _ (fun x14 M15 H locs ls h hM hl => ?_) _ _ _ _ _ _ h hM (lv_sub hl [1, 0] rfl)
  exact cz_retv X hM h dX2_findHeads_44
theorem mv_X2_threadsThatWait : cz_MV yX2_threadsThatWait cX2_threadsThatWait 3 (some .int) RX2 0 := ⟨mi_X2_threadsThatWait, ms_X2_threadsThatWait, mc_X2_threadsThatWait, ini_X2, by decide +kernel⟩
set_option maxHeartbeats 4000000 in
set_option maxRecDepth 100000 in
theorem w_X2_threadsThatWait_L8 {p : Program} {l : Launch} {e : Env} {R : Room} {s : State} {m : MethodId} {args : Array Value} {below : List Frame} {meth : Method} {c : Code} {g : cz_G} {b : Nat} (X : cz_X p s m args meth c cX2_threadsThatWait 3 RX2 g b (some .int)) (hRf : 2 ≤ R.frames) (hRl : 45 ≤ R.locals) {r0 : Int32} {M9 : cz_M} {a0 : Nat} {M : cz_M} (ka0 : cz_K b a0 2)
    (K : Int32 → Int32 → Option (Int32 × cz_M)) (hX : ∀ (x1 : Int32) (x2 : Int32) (H : Heap) (locs : List Loc) (ls : Array Slot), K x1 x2 = some (r0, M9) → cz_WS g b M s H locs → lv_has ls 3 [(0, .ref a0), (1, .int x1), (2, .int x2)] → W p l e R s m args below meth c H locs 0 0 (MQ below (cz_Q g b (some (.int r0)) M9) args s 0 0 (fun q => b ≤ q)) (F0 m 33 ls [])) :
    ∀ (n : Nat) (x1 : Int32) (x2 : Int32) (H : Heap) (locs : List Loc) (ls : Array Slot), cz_it2 (f_X2_threadsThatWait_L8 a0 M K) n x1 x2 = some (r0, M9) → cz_WS g b M s H locs → lv_has ls 3 [(0, .ref a0), (1, .int x1), (2, .int x2)] → W p l e R s m args below meth c H locs 0 0 (MQ below (cz_Q g b (some (.int r0)) M9) args s 0 0 (fun q => b ≤ q)) (F0 m 8 ls []) := by
  obtain ⟨hx, hb, -, ho, ht, -⟩ := id X
  intro n
  induction n with
  | zero => intro x1 x2 H locs ls h; cases (show none = some _ from h)
  | succ n ih =>
    intro x1 x2 H locs ls h hM hl
    have h : f_X2_threadsThatWait_L8 a0 M K (cz_it2 (f_X2_threadsThatWait_L8 a0 M K) n) x1 x2 = some (r0, M9) := h
    rw [f_X2_threadsThatWait_L8] at h
    refine lv_iload_n hx hb dX2_threadsThatWait_8 rfl (lv_at hl 2 rfl) ?_
    refine lv_iconst (v := 5) hx hb dX2_threadsThatWait_9 (by decide) ?_
    refine lv_icmp_ge (tgt := 33) hx hb dX2_threadsThatWait_10 (by decide) (fun c2 => ?_) (fun c2 => ?_)
    · have h := cz_ite_t c2 h
      exact hX _ _ _ _ _ h hM (lv_sub hl [0, 1, 2] rfl)
    · have h := cz_ite_f c2 h
      refine lv_aload_n hx hb dX2_threadsThatWait_13 rfl (lv_at hl 0 rfl) ?_
      refine cz_getR X hM ff_X2_6 ka0 lk_X2_41 dX2_threadsThatWait_14 (fun hk3 => ?_)
      refine lv_iload_n hx hb dX2_threadsThatWait_17 rfl (lv_at hl 2 rfl) ?_
      refine cz_iald (n := 5) X hM h hk3 (by decide) dX2_threadsThatWait_18 (fun h => ?_)
      refine lv_bipush (v := -6) hx hb dX2_threadsThatWait_19 (by decide) ?_
      refine lv_icmp_eq (tgt := 27) hx hb dX2_threadsThatWait_21 (by decide) (fun c4 => ?_) (fun c4 => ?_)
      · have h := cz_ite_t c4 h
        refine cz_nmL (v := x2 + 1) h (fun v5 e6 h => ?_)
        refine lv_iinc (v := v5) (lv' := [(2, .int v5), (0, .ref a0), (1, .int x1)]) hx hb dX2_threadsThatWait_27 hl (k := 2) rfl (by rw [e6]; rfl) (by decide) rfl (fun ls hl => ?_)
        refine lv_goto (tgt := 8) hx hb dX2_threadsThatWait_30 (by decide) ?_
        exact ih _ _ _ _ _ h hM (lv_sub hl [1, 2, 0] rfl)
      · have h := cz_ite_f c4 h
        refine cz_nmL (v := x1 + 1) h (fun v7 e8 h => ?_)
        refine lv_iinc (v := v7) (lv' := [(1, .int v7), (0, .ref a0), (2, .int x2)]) hx hb dX2_threadsThatWait_24 hl (k := 1) rfl (by rw [e8]; rfl) (by decide) rfl (fun ls hl => ?_)
        refine cz_nmL (v := x2 + 1) h (fun v9 e10 h => ?_)
        refine lv_iinc (v := v9) (lv' := [(2, .int v9), (1, .int v7), (0, .ref a0)]) hx hb dX2_threadsThatWait_27 hl (k := 2) rfl (by rw [e10]; rfl) (by decide) rfl (fun ls hl => ?_)
        refine lv_goto (tgt := 8) hx hb dX2_threadsThatWait_30 (by decide) ?_
        exact ih _ _ _ _ _ h hM (lv_sub hl [2, 1, 0] rfl)
set_option maxHeartbeats 4000000 in
set_option maxRecDepth 100000 in
theorem c_X2_threadsThatWait {l : Launch} {g : cz_G} {b : Nat} {M : cz_M} {r0 : Int32} {M9 : cz_M} {a : Nat} (ka : cz_K b a 2) (h : f_X2_threadsThatWait M a = some (r0, M9)) : cz_C l yX2_threadsThatWait cX2_threadsThatWait 3 (some .int) 2 45 g b [.ref a] M (some (.int r0)) M9 := by
  refine cz_start (by decide) (Nat.le_of_ble_eq_true rfl) (fun p e s m args below meth c X H ls hM hl => ?_)
  have X : cz_X p s m args meth c cX2_threadsThatWait 3 RX2 g b (some .int) := X
  obtain ⟨hx, hb, -, ho, ht, -⟩ := id X
  have hRf : 2 ≤ ({ frames := 2, cells := 0, slots := 0, locals := 45 } : Room).frames := Nat.le_refl _
  have hRl : 45 ≤ ({ frames := 2, cells := 0, slots := 0, locals := 45 } : Room).locals := Nat.le_refl _
  have hl : lv_has ls 3 [(0, .ref a)] := hl
  rw [f_X2_threadsThatWait] at h
  refine lv_aload_n hx hb dX2_threadsThatWait_0 rfl (lv_at hl 0 rfl) ?_
  obtain ⟨M1, hq, h⟩ := cz_bd_t h
  refine cz_runV (rest := []) (As := []) (T := TX2) (N0 := 9) X hM hl.1 (c_X2_findHeads (l := l) (g := g) (b := b) ka hq) mv_X2_findHeads rfl (by decide) ka ml_X2_102 ⟨Nat.le_trans (Nat.le_of_ble_eq_true rfl) hRf, Nat.le_trans (Nat.le_of_ble_eq_true rfl) hRl⟩ rfl rfl (Nat.le_of_ble_eq_true rfl) dX2_threadsThatWait_1 (fun H locs hM => ?_)
  refine lv_iconst (v := 0) hx hb dX2_threadsThatWait_4 (by decide) ?_
  refine lv_istore_n (lv' := [(1, .int (0 : Int32)), (0, .ref a)]) hx hb dX2_threadsThatWait_5 rfl hl (by decide) rfl (fun ls hl => ?_)
  refine lv_iconst (v := 0) hx hb dX2_threadsThatWait_6 (by decide) ?_
  refine lv_istore_n (lv' := [(2, .int (0 : Int32)), (1, .int (0 : Int32)), (0, .ref a)]) hx hb dX2_threadsThatWait_7 rfl hl (by decide) rfl (fun ls hl => ?_)
  refine w_X2_threadsThatWait_L8 X hRf hRl ka _ (fun x11 x12 H locs ls h hM hl => ?_) _ _ _ _ _ _ h hM (lv_sub hl [2, 1, 0] rfl)
  refine lv_iload_n hx hb dX2_threadsThatWait_33 rfl (lv_at hl 1 rfl) ?_
  exact cz_reti X hM h rfl dX2_threadsThatWait_34
end
section
theorem mv_X2_lettersTurnedByAll : cz_MV yX2_lettersTurnedByAll cX2_lettersTurnedByAll 3 (some .int) RX2 0 := ⟨mi_X2_lettersTurnedByAll, ms_X2_lettersTurnedByAll, mc_X2_lettersTurnedByAll, ini_X2, by decide +kernel⟩
set_option maxHeartbeats 4000000 in
set_option maxRecDepth 100000 in
theorem w_X2_lettersTurnedByAll_L4 {p : Program} {l : Launch} {e : Env} {R : Room} {s : State} {m : MethodId} {args : Array Value} {below : List Frame} {meth : Method} {c : Code} {g : cz_G} {b : Nat} (X : cz_X p s m args meth c cX2_lettersTurnedByAll 3 RX2 g b (some .int)) (hRf : 0 ≤ R.frames) (hRl : 0 ≤ R.locals) {r0 : Int32} {a0 : Nat} {M : cz_M} (ka0 : cz_K b a0 2)
    (K : Int32 → Int32 → Option (Int32)) (hX : ∀ (x1 : Int32) (x2 : Int32) (H : Heap) (locs : List Loc) (ls : Array Slot), K x1 x2 = some r0 → cz_WS g b M s H locs → lv_has ls 3 [(0, .ref a0), (1, .int x1), (2, .int x2)] → W p l e R s m args below meth c H locs 0 0 (MQ below (cz_Q g b (some (.int r0)) M) args s 0 0 (fun q => b ≤ q)) (F0 m 27 ls [])) :
    ∀ (n : Nat) (x1 : Int32) (x2 : Int32) (H : Heap) (locs : List Loc) (ls : Array Slot), cz_it2 (f_X2_lettersTurnedByAll_L4 a0 M K) n x1 x2 = some r0 → cz_WS g b M s H locs → lv_has ls 3 [(0, .ref a0), (1, .int x1), (2, .int x2)] → W p l e R s m args below meth c H locs 0 0 (MQ below (cz_Q g b (some (.int r0)) M) args s 0 0 (fun q => b ≤ q)) (F0 m 4 ls []) := by
  obtain ⟨hx, hb, -, ho, ht, -⟩ := id X
  intro n
  induction n with
  | zero => intro x1 x2 H locs ls h; cases (show none = some _ from h)
  | succ n ih =>
    intro x1 x2 H locs ls h hM hl
    have h : f_X2_lettersTurnedByAll_L4 a0 M K (cz_it2 (f_X2_lettersTurnedByAll_L4 a0 M K) n) x1 x2 = some r0 := h
    rw [f_X2_lettersTurnedByAll_L4] at h
    refine lv_iload_n hx hb dX2_lettersTurnedByAll_4 rfl (lv_at hl 2 rfl) ?_
    refine lv_iconst (v := 4) hx hb dX2_lettersTurnedByAll_5 (by decide) ?_
    refine lv_icmp_ge (tgt := 27) hx hb dX2_lettersTurnedByAll_6 (by decide) (fun c1 => ?_) (fun c1 => ?_)
    · have h := cz_ite_t c1 h
      exact hX _ _ _ _ _ h hM (lv_sub hl [0, 1, 2] rfl)
    · have h := cz_ite_f c1 h
      refine lv_iload_n hx hb dX2_lettersTurnedByAll_9 rfl (lv_at hl 1 rfl) ?_
      refine lv_aload_n hx hb dX2_lettersTurnedByAll_10 rfl (lv_at hl 0 rfl) ?_
      refine cz_getR X hM ff_X2_1 ka0 lk_X2_17 dX2_lettersTurnedByAll_11 (fun hk2 => ?_)
      refine lv_iload_n hx hb dX2_lettersTurnedByAll_14 rfl (lv_at hl 2 rfl) ?_
      refine cz_aald0 X hM h hk2 dX2_lettersTurnedByAll_15 (fun h hk3 => ?_)
      refine cz_getI X hM ff_X0_3 hk3 lk_X2_105 dX2_lettersTurnedByAll_16 ?_
      refine lv_iadd hx hb dX2_lettersTurnedByAll_19 ?_
      refine cz_nmi h (fun v4 h => ?_)
      refine lv_istore_n (lv' := [(1, .int v4), (0, .ref a0), (2, .int x2)]) hx hb dX2_lettersTurnedByAll_20 rfl hl (by decide) rfl (fun ls hl => ?_)
      refine cz_nmL (v := x2 + 1) h (fun v5 e6 h => ?_)
      refine lv_iinc (v := v5) (lv' := [(2, .int v5), (1, .int v4), (0, .ref a0)]) hx hb dX2_lettersTurnedByAll_21 hl (k := 2) rfl (by rw [e6]; rfl) (by decide) rfl (fun ls hl => ?_)
      refine lv_goto (tgt := 4) hx hb dX2_lettersTurnedByAll_24 (by decide) ?_
      exact ih _ _ _ _ _ h hM (lv_sub hl [2, 1, 0] rfl)
set_option maxHeartbeats 4000000 in
set_option maxRecDepth 100000 in
theorem c_X2_lettersTurnedByAll {l : Launch} {g : cz_G} {b : Nat} {M : cz_M} {r0 : Int32} {a : Nat} (ka : cz_K b a 2) (h : f_X2_lettersTurnedByAll M a = some r0) : cz_C l yX2_lettersTurnedByAll cX2_lettersTurnedByAll 3 (some .int) 0 0 g b [.ref a] M (some (.int r0)) M := by
  refine cz_start (by decide) (Nat.le_of_ble_eq_true rfl) (fun p e s m args below meth c X H ls hM hl => ?_)
  have X : cz_X p s m args meth c cX2_lettersTurnedByAll 3 RX2 g b (some .int) := X
  obtain ⟨hx, hb, -, ho, ht, -⟩ := id X
  have hRf : 0 ≤ ({ frames := 0, cells := 0, slots := 0, locals := 0 } : Room).frames := Nat.le_refl _
  have hRl : 0 ≤ ({ frames := 0, cells := 0, slots := 0, locals := 0 } : Room).locals := Nat.le_refl _
  have hl : lv_has ls 3 [(0, .ref a)] := hl
  rw [f_X2_lettersTurnedByAll] at h
  refine lv_iconst (v := 0) hx hb dX2_lettersTurnedByAll_0 (by decide) ?_
  refine lv_istore_n (lv' := [(1, .int (0 : Int32)), (0, .ref a)]) hx hb dX2_lettersTurnedByAll_1 rfl hl (by decide) rfl (fun ls hl => ?_)
  refine lv_iconst (v := 0) hx hb dX2_lettersTurnedByAll_2 (by decide) ?_
  refine lv_istore_n (lv' := [(2, .int (0 : Int32)), (1, .int (0 : Int32)), (0, .ref a)]) hx hb dX2_lettersTurnedByAll_3 rfl hl (by decide) rfl (fun ls hl => ?_)
  refine w_X2_lettersTurnedByAll_L4 X hRf hRl ka _ (fun x7 x8 H locs ls h hM hl => ?_) _ _ _ _ _ _ h hM (lv_sub hl [2, 1, 0] rfl)
  refine lv_iload_n hx hb dX2_lettersTurnedByAll_27 rfl (lv_at hl 1 rfl) ?_
  exact cz_retp X hM h rfl dX2_lettersTurnedByAll_28
theorem mv_X2_fateIfRead : cz_MV yX2_fateIfRead cX2_fateIfRead 3 (some .int) RX2 2 := ⟨mi_X2_fateIfRead, ms_X2_fateIfRead, mc_X2_fateIfRead, ini_X2, by decide +kernel⟩
set_option maxHeartbeats 4000000 in
set_option maxRecDepth 100000 in
theorem c_X2_fateIfRead {l : Launch} {g : cz_G} {b : Nat} {M : cz_M} {r0 : Int32} {a : Nat} {a1 : Nat} {x2 : Int32} (ka : cz_K b a 2) (ka1 : cz_K b a1 1) (h : f_X2_fateIfRead M a a1 x2 = some r0) : cz_C l yX2_fateIfRead cX2_fateIfRead 3 (some .int) 1 26 g b [.ref a, .ref a1, .int x2] M (some (.int r0)) M := by
  refine cz_start (by decide) (Nat.le_of_ble_eq_true rfl) (fun p e s m args below meth c X H ls hM hl => ?_)
  have X : cz_X p s m args meth c cX2_fateIfRead 3 RX2 g b (some .int) := X
  obtain ⟨hx, hb, -, ho, ht, -⟩ := id X
  have hRf : 1 ≤ ({ frames := 1, cells := 0, slots := 0, locals := 26 } : Room).frames := Nat.le_refl _
  have hRl : 26 ≤ ({ frames := 1, cells := 0, slots := 0, locals := 26 } : Room).locals := Nat.le_refl _
  have hl : lv_has ls 3 [(0, .ref a), (1, .ref a1), (2, .int x2)] := hl
  rw [f_X2_fateIfRead] at h
  refine lv_aload_n hx hb dX2_fateIfRead_0 rfl (lv_at hl 1 rfl) ?_
  refine lv_iload_n hx hb dX2_fateIfRead_1 rfl (lv_at hl 2 rfl) ?_
  obtain ⟨v1, hq, h⟩ := cz_bd_t h
  refine cz_runV (rest := []) (As := [.int x2]) (T := TX1) (N0 := 11) X hM hl.1 (c_X1_placesOf (l := l) (g := g) (b := b) ka1 hq) mv_X1_placesOf rfl (by decide) ka1 ml_X2_133 ⟨Nat.le_trans (Nat.le_of_ble_eq_true rfl) hRf, Nat.le_trans (Nat.le_of_ble_eq_true rfl) hRl⟩ rfl rfl (Nat.le_of_ble_eq_true rfl) dX2_fateIfRead_2 (fun H locs hM => ?_)
  obtain ⟨v2, hq, h⟩ := cz_bd_t h
  refine cz_runS (rest := []) (As := [.int v1]) X hM hl.1 (c_J6_bitCount_0f7a4 (l := l) (g := g) (b := b)  hq) mv_J6_bitCount_0f7a4 ml_X2_137 ⟨Nat.le_trans (Nat.le_of_ble_eq_true rfl) hRf, Nat.le_trans (Nat.le_of_ble_eq_true rfl) hRl⟩ rfl rfl (Nat.le_of_ble_eq_true rfl) dX2_fateIfRead_5 (fun H locs hM => ?_)
  refine lv_aload_n hx hb dX2_fateIfRead_8 rfl (lv_at hl 0 rfl) ?_
  refine cz_getR X hM ff_X2_0 ka lk_X2_9 dX2_fateIfRead_9 (fun hk3 => ?_)
  refine lv_iconst (v := 1) hx hb dX2_fateIfRead_12 (by decide) ?_
  refine cz_iald (n := 3) X hM h hk3 (by decide) dX2_fateIfRead_13 (fun h => ?_)
  refine lv_icmp_gt (tgt := 19) hx hb dX2_fateIfRead_14 (by decide) (fun c4 => ?_) (fun c4 => ?_)
  · have h := cz_ite_t c4 h
    refine lv_aload_n hx hb dX2_fateIfRead_19 rfl (lv_at hl 1 rfl) ?_
    refine cz_getI X hM ff_X1_7 ka1 lk_X2_142 dX2_fateIfRead_20 ?_
    refine lv_iconst (v := 1) hx hb dX2_fateIfRead_23 (by decide) ?_
    refine lv_iadd hx hb dX2_fateIfRead_24 ?_
    refine lv_aload_n hx hb dX2_fateIfRead_25 rfl (lv_at hl 0 rfl) ?_
    refine cz_getR X hM ff_X2_0 ka lk_X2_9 dX2_fateIfRead_26 (fun hk5 => ?_)
    refine lv_iconst (v := 2) hx hb dX2_fateIfRead_29 (by decide) ?_
    refine cz_iald (n := 3) X hM h hk5 (by decide) dX2_fateIfRead_30 (fun h => ?_)
    refine lv_icmp_lt (tgt := 38) hx hb dX2_fateIfRead_31 (by decide) (fun c6 => ?_) (fun c6 => ?_)
    · have h := cz_ite_t c6 h
      refine lv_iconst (v := 4) hx hb dX2_fateIfRead_38 (by decide) ?_
      exact cz_retp X hM h rfl dX2_fateIfRead_39
    · have h := cz_ite_f c6 h
      refine lv_iconst (v := 5) hx hb dX2_fateIfRead_34 (by decide) ?_
      refine lv_goto (tgt := 39) hx hb dX2_fateIfRead_35 (by decide) ?_
      exact cz_retp X hM h rfl dX2_fateIfRead_39
  · have h := cz_ite_f c4 h
    refine lv_iconst (v := 0) hx hb dX2_fateIfRead_17 (by decide) ?_
    exact cz_retp X hM h rfl dX2_fateIfRead_18
theorem mv_X2_judgeRow : cz_MV yX2_judgeRow cX2_judgeRow 8 none RX2 1 := ⟨mi_X2_judgeRow, ms_X2_judgeRow, mc_X2_judgeRow, ini_X2, by decide +kernel⟩
set_option maxHeartbeats 4000000 in
set_option maxRecDepth 100000 in
theorem w_X2_judgeRow_L31 {p : Program} {l : Launch} {e : Env} {R : Room} {s : State} {m : MethodId} {args : Array Value} {below : List Frame} {meth : Method} {c : Code} {g : cz_G} {b : Nat} (X : cz_X p s m args meth c cX2_judgeRow 8 RX2 g b none) (hRf : 2 ≤ R.frames) (hRl : 48 ≤ R.locals) {M9 : cz_M} {a0 : Nat} {a2 : Nat} {x3 : Int32} (ka0 : cz_K b a0 2) (ka2 : cz_K b a2 3)
    (K : Int32 → Int32 → cz_M → Option (cz_M)) (hX : ∀ (x4 : Int32) (x5 : Int32) (M : cz_M) (H : Heap) (locs : List Loc) (ls : Array Slot), K x4 x5 M = some M9 → cz_WS g b M s H locs → lv_has ls 8 [(0, .ref a0), (2, .ref a2), (3, .int x3), (4, .int x4), (5, .int x5)] → W p l e R s m args below meth c H locs 0 0 (MQ below (cz_Q g b none M9) args s 0 0 (fun q => b ≤ q)) (F0 m 123 ls [])) :
    ∀ (n : Nat) (x4 : Int32) (x5 : Int32) (M : cz_M) (H : Heap) (locs : List Loc) (ls : Array Slot), cz_it3 (f_X2_judgeRow_L31 a0 a2 x3 K) n x4 x5 M = some M9 → cz_WS g b M s H locs → lv_has ls 8 [(0, .ref a0), (2, .ref a2), (3, .int x3), (4, .int x4), (5, .int x5)] → W p l e R s m args below meth c H locs 0 0 (MQ below (cz_Q g b none M9) args s 0 0 (fun q => b ≤ q)) (F0 m 31 ls []) := by
  obtain ⟨hx, hb, -, ho, ht, -⟩ := id X
  intro n
  induction n with
  | zero => intro x4 x5 M H locs ls h; cases (show none = some _ from h)
  | succ n ih =>
    intro x4 x5 M H locs ls h hM hl
    have h : f_X2_judgeRow_L31 a0 a2 x3 K (cz_it3 (f_X2_judgeRow_L31 a0 a2 x3 K) n) x4 x5 M = some M9 := h
    rw [f_X2_judgeRow_L31] at h
    refine lv_iload hx hb dX2_judgeRow_31 (lv_at hl 4 rfl) ?_
    refine lv_aload_n hx hb dX2_judgeRow_33 rfl (lv_at hl 1 rfl) ?_
    refine cz_getI X hM ff_X3_1 ka2 lk_X2_111 dX2_judgeRow_34 ?_
    refine lv_icmp_ge (tgt := 123) hx hb dX2_judgeRow_37 (by decide) (fun c9 => ?_) (fun c9 => ?_)
    · have h := cz_ite_t c9 h
      exact hX _ _ _ _ _ _ h hM (lv_sub hl [0, 1, 2, 3, 4] rfl)
    · have h := cz_ite_f c9 h
      refine lv_aload_n hx hb dX2_judgeRow_40 rfl (lv_at hl 1 rfl) ?_
      refine cz_getR X hM ff_X3_0 ka2 lk_X2_114 dX2_judgeRow_41 (fun hk10 => ?_)
      refine lv_iload hx hb dX2_judgeRow_44 (lv_at hl 4 rfl) ?_
      refine cz_iald (n := 40) X hM h hk10 (by decide) dX2_judgeRow_46 (fun h => ?_)
      refine cz_nmi h (fun v11 h => ?_)
      refine lv_istore (lv' := [(6, .int v11), (0, .ref a0), (2, .ref a2), (3, .int x3), (4, .int x4), (5, .int x5)]) hx hb dX2_judgeRow_47 hl (by decide) rfl (fun ls hl => ?_)
      refine lv_aload_n hx hb dX2_judgeRow_49 rfl (lv_at hl 1 rfl) ?_
      refine cz_getR X hM ff_X2_3 ka0 lk_X2_26 dX2_judgeRow_50 (fun hk12 => ?_)
      refine lv_iload hx hb dX2_judgeRow_53 (lv_at hl 0 rfl) ?_
      refine cz_aald1 X hM h hk12 dX2_judgeRow_55 (fun h hk13 => ?_)
      refine cz_nmr h hk13 (fun r14 h hk15 => ?_)
      refine lv_astore (lv' := [(7, .ref r14), (6, .int v11), (0, .ref a0), (2, .ref a2), (3, .int x3), (4, .int x4), (5, .int x5)]) hx hb dX2_judgeRow_56 hl (by decide) rfl (fun ls hl => ?_)
      refine lv_aload_n hx hb dX2_judgeRow_58 rfl (lv_at hl 2 rfl) ?_
      refine cz_getR X hM ff_X2_6 ka0 lk_X2_41 dX2_judgeRow_59 (fun hk16 => ?_)
      refine lv_aload hx hb dX2_judgeRow_62 (lv_at hl 0 rfl) ?_
      refine cz_getI X hM ff_X1_0 hk15 lk_X2_86 dX2_judgeRow_64 ?_
      refine cz_iald (n := 5) X hM h hk16 (by decide) dX2_judgeRow_67 (fun h => ?_)
      refine lv_iload hx hb dX2_judgeRow_68 (lv_at hl 1 rfl) ?_
      refine lv_icmp_eq (tgt := 82) hx hb dX2_judgeRow_70 (by decide) (fun c17 => ?_) (fun c17 => ?_)
      · have h := cz_ite_t c17 h
        refine lv_iload hx hb dX2_judgeRow_82 (lv_at hl 5 rfl) ?_
        refine lv_aload_n hx hb dX2_judgeRow_84 rfl (lv_at hl 2 rfl) ?_
        refine cz_getR X hM ff_X2_0 ka0 lk_X2_9 dX2_judgeRow_85 (fun hk18 => ?_)
        refine lv_iconst (v := 0) hx hb dX2_judgeRow_88 (by decide) ?_
        refine cz_iald (n := 3) X hM h hk18 (by decide) dX2_judgeRow_89 (fun h => ?_)
        refine lv_icmp_lt (tgt := 102) hx hb dX2_judgeRow_90 (by decide) (fun c19 => ?_) (fun c19 => ?_)
        · have h := cz_ite_t c19 h
          refine lv_aload hx hb dX2_judgeRow_102 (lv_at hl 0 rfl) ?_
          refine lv_aload_n hx hb dX2_judgeRow_104 rfl (lv_at hl 2 rfl) ?_
          refine lv_aload hx hb dX2_judgeRow_105 (lv_at hl 0 rfl) ?_
          refine lv_iload_n hx hb dX2_judgeRow_107 rfl (lv_at hl 4 rfl) ?_
          obtain ⟨v20, hq, h⟩ := cz_bd_t h
          refine cz_runV (rest := [.ref r14]) (As := [.ref r14, .int x3]) (T := TX2) (N0 := 9) X hM hl.1 (c_X2_fateIfRead (l := l) (g := g) (b := b) ka0 hk15 hq) mv_X2_fateIfRead rfl (by decide) ka0 ml_X2_129 ⟨Nat.le_trans (Nat.le_of_ble_eq_true rfl) hRf, Nat.le_trans (Nat.le_of_ble_eq_true rfl) hRl⟩ rfl rfl (Nat.le_of_ble_eq_true rfl) dX2_judgeRow_108 (fun H locs hM => ?_)
          refine cz_putI X hM h ff_X1_10 hk15 lk_X2_126 dX2_judgeRow_111 (fun M21 H locs h hM => ?_)
          refine cz_nmL (v := x4 + 1) h (fun v22 e23 h => ?_)
          refine lv_iinc (v := v22) (lv' := [(4, .int v22), (7, .ref r14), (6, .int v11), (0, .ref a0), (2, .ref a2), (3, .int x3), (5, .int x5)]) hx hb dX2_judgeRow_114 hl (k := 5) rfl (by rw [e23]; rfl) (by decide) rfl (fun ls hl => ?_)
          refine cz_nmL (v := x5 + 1) h (fun v24 e25 h => ?_)
          refine lv_iinc (v := v24) (lv' := [(5, .int v24), (4, .int v22), (7, .ref r14), (6, .int v11), (0, .ref a0), (2, .ref a2), (3, .int x3)]) hx hb dX2_judgeRow_117 hl (k := 6) rfl (by rw [e25]; rfl) (by decide) rfl (fun ls hl => ?_)
          refine lv_goto (tgt := 31) hx hb dX2_judgeRow_120 (by decide) ?_
          exact ih _ _ _ _ _ _ h hM (lv_sub hl [4, 5, 6, 1, 0] rfl)
        · have h := cz_ite_f c19 h
          refine lv_aload hx hb dX2_judgeRow_93 (lv_at hl 0 rfl) ?_
          refine lv_iconst (v := 3) hx hb dX2_judgeRow_95 (by decide) ?_
          refine cz_putI X hM h ff_X1_10 hk15 lk_X2_126 dX2_judgeRow_96 (fun M26 H locs h hM => ?_)
          refine lv_goto (tgt := 117) hx hb dX2_judgeRow_99 (by decide) ?_
          refine cz_nmL (v := x5 + 1) h (fun v27 e28 h => ?_)
          refine lv_iinc (v := v27) (lv' := [(5, .int v27), (7, .ref r14), (6, .int v11), (0, .ref a0), (2, .ref a2), (3, .int x3), (4, .int x4)]) hx hb dX2_judgeRow_117 hl (k := 6) rfl (by rw [e28]; rfl) (by decide) rfl (fun ls hl => ?_)
          refine lv_goto (tgt := 31) hx hb dX2_judgeRow_120 (by decide) ?_
          exact ih _ _ _ _ _ _ h hM (lv_sub hl [3, 4, 5, 6, 0] rfl)
      · have h := cz_ite_f c17 h
        refine lv_aload hx hb dX2_judgeRow_73 (lv_at hl 0 rfl) ?_
        refine lv_iconst (v := 2) hx hb dX2_judgeRow_75 (by decide) ?_
        refine cz_putI X hM h ff_X1_10 hk15 lk_X2_126 dX2_judgeRow_76 (fun M29 H locs h hM => ?_)
        refine lv_goto (tgt := 117) hx hb dX2_judgeRow_79 (by decide) ?_
        refine cz_nmL (v := x5 + 1) h (fun v30 e31 h => ?_)
        refine lv_iinc (v := v30) (lv' := [(5, .int v30), (7, .ref r14), (6, .int v11), (0, .ref a0), (2, .ref a2), (3, .int x3), (4, .int x4)]) hx hb dX2_judgeRow_117 hl (k := 6) rfl (by rw [e31]; rfl) (by decide) rfl (fun ls hl => ?_)
        refine lv_goto (tgt := 31) hx hb dX2_judgeRow_120 (by decide) ?_
        exact ih _ _ _ _ _ _ h hM (lv_sub hl [3, 4, 5, 6, 0] rfl)
set_option maxHeartbeats 4000000 in
set_option maxRecDepth 100000 in
theorem c_X2_judgeRow {l : Launch} {g : cz_G} {b : Nat} {M : cz_M} {M9 : cz_M} {a : Nat} {x1 : Int32} (ka : cz_K b a 2) (h : f_X2_judgeRow M a x1 = some M9) : cz_C l yX2_judgeRow cX2_judgeRow 8 none 2 48 g b [.ref a, .int x1] M none M9 := by
  refine cz_start (by decide) (Nat.le_of_ble_eq_true rfl) (fun p e s m args below meth c X H ls hM hl => ?_)
  have X : cz_X p s m args meth c cX2_judgeRow 8 RX2 g b none := X
  obtain ⟨hx, hb, -, ho, ht, -⟩ := id X
  have hRf : 2 ≤ ({ frames := 2, cells := 0, slots := 0, locals := 48 } : Room).frames := Nat.le_refl _
  have hRl : 48 ≤ ({ frames := 2, cells := 0, slots := 0, locals := 48 } : Room).locals := Nat.le_refl _
  have hl : lv_has ls 8 [(0, .ref a), (1, .int x1)] := hl
  rw [f_X2_judgeRow] at h
  refine lv_aload_n hx hb dX2_judgeRow_0 rfl (lv_at hl 0 rfl) ?_
  refine cz_getR X hM ff_X2_4 ka lk_X2_32 dX2_judgeRow_1 (fun hk1 => ?_)
  refine lv_iload_n hx hb dX2_judgeRow_4 rfl (lv_at hl 1 rfl) ?_
  refine cz_aald2 X hM h hk1 dX2_judgeRow_5 (fun h hk2 => ?_)
  refine cz_nmr h hk2 (fun r3 h hk4 => ?_)
  refine lv_astore_n (lv' := [(2, .ref r3), (0, .ref a), (1, .int x1)]) hx hb dX2_judgeRow_6 rfl hl (by decide) rfl (fun ls hl => ?_)
  refine lv_aload_n hx hb dX2_judgeRow_7 rfl (lv_at hl 1 rfl) ?_
  refine cz_getR X hM ff_X2_1 ka lk_X2_17 dX2_judgeRow_8 (fun hk5 => ?_)
  refine lv_aload_n hx hb dX2_judgeRow_11 rfl (lv_at hl 1 rfl) ?_
  refine lv_aload_n hx hb dX2_judgeRow_12 rfl (lv_at hl 1 rfl) ?_
  refine cz_getI X hM ff_X2_8 ka lk_X2_66 dX2_judgeRow_13 ?_
  refine lv_iload_n hx hb dX2_judgeRow_16 rfl (lv_at hl 2 rfl) ?_
  obtain ⟨v6, hq, h⟩ := cz_bd_t h
  refine cz_runV (rest := [.ref (a + 2)]) (As := [.int (M.1 a 8), .int x1]) (T := TX2) (N0 := 9) X hM hl.1 (c_X2_censorNumber (l := l) (g := g) (b := b) ka hq) mv_X2_censorNumber rfl (by decide) ka ml_X2_120 ⟨Nat.le_trans (Nat.le_of_ble_eq_true rfl) hRf, Nat.le_trans (Nat.le_of_ble_eq_true rfl) hRl⟩ rfl rfl (Nat.le_of_ble_eq_true rfl) dX2_judgeRow_17 (fun H locs hM => ?_)
  refine cz_aald0 X hM h hk5 dX2_judgeRow_20 (fun h hk7 => ?_)
  refine cz_getI X hM ff_X0_0 hk7 lk_X2_123 dX2_judgeRow_21 ?_
  refine cz_nmi h (fun v8 h => ?_)
  refine lv_istore_n (lv' := [(3, .int v8), (2, .ref r3), (0, .ref a), (1, .int x1)]) hx hb dX2_judgeRow_24 rfl hl (by decide) rfl (fun ls hl => ?_)
  refine lv_iconst (v := 0) hx hb dX2_judgeRow_25 (by decide) ?_
  refine lv_istore (lv' := [(4, .int (0 : Int32)), (3, .int v8), (2, .ref r3), (0, .ref a), (1, .int x1)]) hx hb dX2_judgeRow_26 hl (by decide) rfl (fun ls hl => ?_)
  refine lv_iconst (v := 0) hx hb dX2_judgeRow_28 (by decide) ?_
  refine lv_istore (lv' := [(5, .int (0 : Int32)), (4, .int (0 : Int32)), (3, .int v8), (2, .ref r3), (0, .ref a), (1, .int x1)]) hx hb dX2_judgeRow_29 hl (by decide) rfl (fun ls hl => ?_)
  refine w_X2_judgeRow_L31 X hRf hRl ka hk4 _ (fun x32 x33 M34 H locs ls h hM hl => ?_) _ _ _ _ _ _ _ h hM (lv_sub hl [4, 3, 2, 1, 0] rfl)
  exact cz_retv X hM h dX2_judgeRow_123
theorem mv_X2_judgeWeek : cz_MV yX2_judgeWeek cX2_judgeWeek 2 none RX2 0 := ⟨mi_X2_judgeWeek, ms_X2_judgeWeek, mc_X2_judgeWeek, ini_X2, by decide +kernel⟩
set_option maxHeartbeats 4000000 in
set_option maxRecDepth 100000 in
theorem w_X2_judgeWeek_L6 {p : Program} {l : Launch} {e : Env} {R : Room} {s : State} {m : MethodId} {args : Array Value} {below : List Frame} {meth : Method} {c : Code} {g : cz_G} {b : Nat} (X : cz_X p s m args meth c cX2_judgeWeek 2 RX2 g b none) (hRf : 3 ≤ R.frames) (hRl : 75 ≤ R.locals) {M9 : cz_M} {a0 : Nat} (ka0 : cz_K b a0 2)
    (K : Int32 → cz_M → Option (cz_M)) (hX : ∀ (x1 : Int32) (M : cz_M) (H : Heap) (locs : List Loc) (ls : Array Slot), K x1 M = some M9 → cz_WS g b M s H locs → lv_has ls 2 [(0, .ref a0), (1, .int x1)] → W p l e R s m args below meth c H locs 0 0 (MQ below (cz_Q g b none M9) args s 0 0 (fun q => b ≤ q)) (F0 m 22 ls [])) :
    ∀ (n : Nat) (x1 : Int32) (M : cz_M) (H : Heap) (locs : List Loc) (ls : Array Slot), cz_it2 (f_X2_judgeWeek_L6 a0 K) n x1 M = some M9 → cz_WS g b M s H locs → lv_has ls 2 [(0, .ref a0), (1, .int x1)] → W p l e R s m args below meth c H locs 0 0 (MQ below (cz_Q g b none M9) args s 0 0 (fun q => b ≤ q)) (F0 m 6 ls []) := by
  obtain ⟨hx, hb, -, ho, ht, -⟩ := id X
  intro n
  induction n with
  | zero => intro x1 M H locs ls h; cases (show none = some _ from h)
  | succ n ih =>
    intro x1 M H locs ls h hM hl
    have h : f_X2_judgeWeek_L6 a0 K (cz_it2 (f_X2_judgeWeek_L6 a0 K) n) x1 M = some M9 := h
    rw [f_X2_judgeWeek_L6] at h
    refine lv_iload_n hx hb dX2_judgeWeek_6 rfl (lv_at hl 1 rfl) ?_
    refine lv_iconst (v := 2) hx hb dX2_judgeWeek_7 (by decide) ?_
    refine lv_icmp_ge (tgt := 22) hx hb dX2_judgeWeek_8 (by decide) (fun c2 => ?_) (fun c2 => ?_)
    · have h := cz_ite_t c2 h
      exact hX _ _ _ _ _ h hM (lv_sub hl [0, 1] rfl)
    · have h := cz_ite_f c2 h
      refine lv_aload_n hx hb dX2_judgeWeek_11 rfl (lv_at hl 0 rfl) ?_
      refine lv_iload_n hx hb dX2_judgeWeek_12 rfl (lv_at hl 1 rfl) ?_
      obtain ⟨M3, hq, h⟩ := cz_bd_t h
      refine cz_runV (rest := []) (As := [.int x1]) (T := TX2) (N0 := 9) X hM hl.1 (c_X2_judgeRow (l := l) (g := g) (b := b) ka0 hq) mv_X2_judgeRow rfl (by decide) ka0 ml_X2_117 ⟨Nat.le_trans (Nat.le_of_ble_eq_true rfl) hRf, Nat.le_trans (Nat.le_of_ble_eq_true rfl) hRl⟩ rfl rfl (Nat.le_of_ble_eq_true rfl) dX2_judgeWeek_13 (fun H locs hM => ?_)
      refine cz_nmL (v := x1 + 1) h (fun v4 e5 h => ?_)
      refine lv_iinc (v := v4) (lv' := [(1, .int v4), (0, .ref a0)]) hx hb dX2_judgeWeek_16 hl (k := 1) rfl (by rw [e5]; rfl) (by decide) rfl (fun ls hl => ?_)
      refine lv_goto (tgt := 6) hx hb dX2_judgeWeek_19 (by decide) ?_
      exact ih _ _ _ _ _ h hM (lv_sub hl [1, 0] rfl)
set_option maxHeartbeats 4000000 in
set_option maxRecDepth 100000 in
theorem c_X2_judgeWeek {l : Launch} {g : cz_G} {b : Nat} {M : cz_M} {M9 : cz_M} {a : Nat} (ka : cz_K b a 2) (h : f_X2_judgeWeek M a = some M9) : cz_C l yX2_judgeWeek cX2_judgeWeek 2 none 3 75 g b [.ref a] M none M9 := by
  refine cz_start (by decide) (Nat.le_of_ble_eq_true rfl) (fun p e s m args below meth c X H ls hM hl => ?_)
  have X : cz_X p s m args meth c cX2_judgeWeek 2 RX2 g b none := X
  obtain ⟨hx, hb, -, ho, ht, -⟩ := id X
  have hRf : 3 ≤ ({ frames := 3, cells := 0, slots := 0, locals := 75 } : Room).frames := Nat.le_refl _
  have hRl : 75 ≤ ({ frames := 3, cells := 0, slots := 0, locals := 75 } : Room).locals := Nat.le_refl _
  have hl : lv_has ls 2 [(0, .ref a)] := hl
  rw [f_X2_judgeWeek] at h
  refine lv_aload_n hx hb dX2_judgeWeek_0 rfl (lv_at hl 0 rfl) ?_
  obtain ⟨M1, hq, h⟩ := cz_bd_t h
  refine cz_runV (rest := []) (As := []) (T := TX2) (N0 := 9) X hM hl.1 (c_X2_findHeads (l := l) (g := g) (b := b) ka hq) mv_X2_findHeads rfl (by decide) ka ml_X2_102 ⟨Nat.le_trans (Nat.le_of_ble_eq_true rfl) hRf, Nat.le_trans (Nat.le_of_ble_eq_true rfl) hRl⟩ rfl rfl (Nat.le_of_ble_eq_true rfl) dX2_judgeWeek_1 (fun H locs hM => ?_)
  refine lv_iconst (v := 0) hx hb dX2_judgeWeek_4 (by decide) ?_
  refine lv_istore_n (lv' := [(1, .int (0 : Int32)), (0, .ref a)]) hx hb dX2_judgeWeek_5 rfl hl (by decide) rfl (fun ls hl => ?_)
  refine w_X2_judgeWeek_L6 X hRf hRl ka _ (fun x6 M7 H locs ls h hM hl => ?_) _ _ _ _ _ _ h hM (lv_sub hl [1, 0] rfl)
  exact cz_retv X hM h dX2_judgeWeek_22
theorem mv_X2_letThrough : cz_MV yX2_letThrough cX2_letThrough 3 none RX2 2 := ⟨mi_X2_letThrough, ms_X2_letThrough, mc_X2_letThrough, ini_X2, by decide +kernel⟩
set_option maxHeartbeats 4000000 in
set_option maxRecDepth 100000 in
theorem c_X2_letThrough {l : Launch} {g : cz_G} {b : Nat} {M : cz_M} {M9 : cz_M} {a : Nat} {a1 : Nat} {x2 : Int32} (ka : cz_K b a 2) (ka1 : cz_K b a1 1) (h : f_X2_letThrough M a a1 x2 = some M9) : cz_C l yX2_letThrough cX2_letThrough 3 none 2 40 g b [.ref a, .ref a1, .int x2] M none M9 := by
  refine cz_start (by decide) (Nat.le_of_ble_eq_true rfl) (fun p e s m args below meth c X H ls hM hl => ?_)
  have X : cz_X p s m args meth c cX2_letThrough 3 RX2 g b none := X
  obtain ⟨hx, hb, -, ho, ht, -⟩ := id X
  have hRf : 2 ≤ ({ frames := 2, cells := 0, slots := 0, locals := 40 } : Room).frames := Nat.le_refl _
  have hRl : 40 ≤ ({ frames := 2, cells := 0, slots := 0, locals := 40 } : Room).locals := Nat.le_refl _
  have hl : lv_has ls 3 [(0, .ref a), (1, .ref a1), (2, .int x2)] := hl
  rw [f_X2_letThrough] at h
  refine lv_aload_n hx hb dX2_letThrough_0 rfl (lv_at hl 1 rfl) ?_
  refine lv_aload_n hx hb dX2_letThrough_1 rfl (lv_at hl 1 rfl) ?_
  refine lv_aload_n hx hb dX2_letThrough_2 rfl (lv_at hl 0 rfl) ?_
  refine cz_getR X hM ff_X2_1 ka lk_X2_17 dX2_letThrough_3 (fun hk1 => ?_)
  refine lv_iload_n hx hb dX2_letThrough_6 rfl (lv_at hl 2 rfl) ?_
  refine cz_aald0 X hM h hk1 dX2_letThrough_7 (fun h hk2 => ?_)
  refine cz_getI X hM ff_X0_0 hk2 lk_X2_123 dX2_letThrough_8 ?_
  obtain ⟨v3, hq, h⟩ := cz_bd_t h
  refine cz_runV (rest := [.ref a1]) (As := [.int (M.1 ((a + 2) + (7 + Int32.toNatClampNeg x2)) 0)]) (T := TX1) (N0 := 11) X hM hl.1 (c_X1_placesOf (l := l) (g := g) (b := b) ka1 hq) mv_X1_placesOf rfl (by decide) ka1 ml_X2_133 ⟨Nat.le_trans (Nat.le_of_ble_eq_true rfl) hRf, Nat.le_trans (Nat.le_of_ble_eq_true rfl) hRl⟩ rfl rfl (Nat.le_of_ble_eq_true rfl) dX2_letThrough_11 (fun H locs hM => ?_)
  refine cz_putI X hM h ff_X1_8 ka1 lk_X2_165 dX2_letThrough_14 (fun M4 H locs h hM => ?_)
  refine lv_aload_n hx hb dX2_letThrough_17 rfl (lv_at hl 1 rfl) ?_
  refine lv_iconst (v := 1) hx hb dX2_letThrough_18 (by decide) ?_
  refine cz_putI X hM h ff_X1_5 ka1 lk_X2_80 dX2_letThrough_19 (fun M5 H locs h hM => ?_)
  refine lv_aload_n hx hb dX2_letThrough_22 rfl (lv_at hl 1 rfl) ?_
  refine lv_aload_n hx hb dX2_letThrough_23 rfl (lv_at hl 0 rfl) ?_
  refine cz_getI X hM ff_X2_8 ka lk_X2_66 dX2_letThrough_24 ?_
  refine lv_iconst (v := 1) hx hb dX2_letThrough_27 (by decide) ?_
  refine lv_iadd hx hb dX2_letThrough_28 ?_
  refine lv_aload_n hx hb dX2_letThrough_29 rfl (lv_at hl 1 rfl) ?_
  refine cz_getI X hM ff_X1_4 ka1 lk_X2_168 dX2_letThrough_30 ?_
  refine lv_isub hx hb dX2_letThrough_33 ?_
  refine cz_putI X hM h ff_X1_6 ka1 lk_X2_89 dX2_letThrough_34 (fun M6 H locs h hM => ?_)
  refine lv_aload_n hx hb dX2_letThrough_37 rfl (lv_at hl 1 rfl) ?_
  refine lv_iload_n hx hb dX2_letThrough_38 rfl (lv_at hl 2 rfl) ?_
  refine cz_putI X hM h ff_X1_9 ka1 lk_X2_171 dX2_letThrough_39 (fun M7 H locs h hM => ?_)
  refine lv_aload_n hx hb dX2_letThrough_42 rfl (lv_at hl 0 rfl) ?_
  refine cz_getR X hM ff_X2_1 ka lk_X2_17 dX2_letThrough_43 (fun hk8 => ?_)
  refine lv_iload_n hx hb dX2_letThrough_46 rfl (lv_at hl 2 rfl) ?_
  refine cz_aald0 X hM h hk8 dX2_letThrough_47 (fun h hk9 => ?_)
  refine lv_dup hx hb dX2_letThrough_48 rfl ?_
  refine cz_getI X hM ff_X0_1 hk9 lk_X2_174 dX2_letThrough_49 ?_
  refine lv_iconst (v := 1) hx hb dX2_letThrough_52 (by decide) ?_
  refine lv_iadd hx hb dX2_letThrough_53 ?_
  refine cz_putI X hM h ff_X0_1 hk9 lk_X2_174 dX2_letThrough_54 (fun M10 H locs h hM => ?_)
  refine lv_aload_n hx hb dX2_letThrough_57 rfl (lv_at hl 0 rfl) ?_
  refine cz_getR X hM ff_X2_1 ka lk_X2_17 dX2_letThrough_58 (fun hk11 => ?_)
  refine lv_iload_n hx hb dX2_letThrough_61 rfl (lv_at hl 2 rfl) ?_
  refine cz_aald0 X hM h hk11 dX2_letThrough_62 (fun h hk12 => ?_)
  refine lv_dup hx hb dX2_letThrough_63 rfl ?_
  refine cz_getI X hM ff_X0_2 hk12 lk_X2_177 dX2_letThrough_64 ?_
  refine lv_aload_n hx hb dX2_letThrough_67 rfl (lv_at hl 1 rfl) ?_
  obtain ⟨v13, hq, h⟩ := cz_bd_t h
  refine cz_runV (rest := [.int (M10.1 ((a + 2) + (7 + Int32.toNatClampNeg x2)) 2), .ref ((a + 2) + (7 + Int32.toNatClampNeg x2))]) (As := []) (T := TX1) (N0 := 11) X hM hl.1 (c_X1_struckCount (l := l) (g := g) (b := b) ka1 hq) mv_X1_struckCount rfl (by decide) ka1 ml_X2_98 ⟨Nat.le_trans (Nat.le_of_ble_eq_true rfl) hRf, Nat.le_trans (Nat.le_of_ble_eq_true rfl) hRl⟩ rfl rfl (Nat.le_of_ble_eq_true rfl) dX2_letThrough_68 (fun H locs hM => ?_)
  refine lv_iadd hx hb dX2_letThrough_71 ?_
  refine cz_putI X hM h ff_X0_2 hk12 lk_X2_177 dX2_letThrough_72 (fun M14 H locs h hM => ?_)
  exact cz_retv X hM h dX2_letThrough_75
theorem mv_X2_turnBack : cz_MV yX2_turnBack cX2_turnBack 3 none RX2 2 := ⟨mi_X2_turnBack, ms_X2_turnBack, mc_X2_turnBack, ini_X2, by decide +kernel⟩
set_option maxHeartbeats 4000000 in
set_option maxRecDepth 100000 in
theorem c_X2_turnBack {l : Launch} {g : cz_G} {b : Nat} {M : cz_M} {M9 : cz_M} {a : Nat} {a1 : Nat} {x2 : Int32} (ka : cz_K b a 2) (ka1 : cz_K b a1 1) (h : f_X2_turnBack M a a1 x2 = some M9) : cz_C l yX2_turnBack cX2_turnBack 3 none 0 0 g b [.ref a, .ref a1, .int x2] M none M9 := by
  refine cz_start (by decide) (Nat.le_of_ble_eq_true rfl) (fun p e s m args below meth c X H ls hM hl => ?_)
  have X : cz_X p s m args meth c cX2_turnBack 3 RX2 g b none := X
  obtain ⟨hx, hb, -, ho, ht, -⟩ := id X
  have hRf : 0 ≤ ({ frames := 0, cells := 0, slots := 0, locals := 0 } : Room).frames := Nat.le_refl _
  have hRl : 0 ≤ ({ frames := 0, cells := 0, slots := 0, locals := 0 } : Room).locals := Nat.le_refl _
  have hl : lv_has ls 3 [(0, .ref a), (1, .ref a1), (2, .int x2)] := hl
  rw [f_X2_turnBack] at h
  refine lv_aload_n hx hb dX2_turnBack_0 rfl (lv_at hl 1 rfl) ?_
  refine lv_dup hx hb dX2_turnBack_1 rfl ?_
  refine cz_getI X hM ff_X1_7 ka1 lk_X2_142 dX2_turnBack_2 ?_
  refine lv_iconst (v := 1) hx hb dX2_turnBack_5 (by decide) ?_
  refine lv_iadd hx hb dX2_turnBack_6 ?_
  refine cz_putI X hM h ff_X1_7 ka1 lk_X2_142 dX2_turnBack_7 (fun M1 H locs h hM => ?_)
  refine lv_aload_n hx hb dX2_turnBack_10 rfl (lv_at hl 1 rfl) ?_
  refine cz_getI X hM ff_X1_10 ka1 lk_X2_126 dX2_turnBack_11 ?_
  refine lv_iconst (v := 5) hx hb dX2_turnBack_14 (by decide) ?_
  refine lv_icmp_ne (tgt := 23) hx hb dX2_turnBack_15 (by decide) (fun c2 => ?_) (fun c2 => ?_)
  · have h := cz_ite_f c2 h
    refine lv_aload_n hx hb dX2_turnBack_23 rfl (lv_at hl 0 rfl) ?_
    refine cz_getR X hM ff_X2_1 ka lk_X2_17 dX2_turnBack_24 (fun hk3 => ?_)
    refine lv_iload_n hx hb dX2_turnBack_27 rfl (lv_at hl 2 rfl) ?_
    refine cz_aald0 X hM h hk3 dX2_turnBack_28 (fun h hk4 => ?_)
    refine lv_dup hx hb dX2_turnBack_29 rfl ?_
    refine cz_getI X hM ff_X0_1 hk4 lk_X2_174 dX2_turnBack_30 ?_
    refine lv_iconst (v := 1) hx hb dX2_turnBack_33 (by decide) ?_
    refine lv_iadd hx hb dX2_turnBack_34 ?_
    refine cz_putI X hM h ff_X0_1 hk4 lk_X2_174 dX2_turnBack_35 (fun M5 H locs h hM => ?_)
    refine lv_aload_n hx hb dX2_turnBack_38 rfl (lv_at hl 0 rfl) ?_
    refine cz_getR X hM ff_X2_1 ka lk_X2_17 dX2_turnBack_39 (fun hk6 => ?_)
    refine lv_iload_n hx hb dX2_turnBack_42 rfl (lv_at hl 2 rfl) ?_
    refine cz_aald0 X hM h hk6 dX2_turnBack_43 (fun h hk7 => ?_)
    refine lv_dup hx hb dX2_turnBack_44 rfl ?_
    refine cz_getI X hM ff_X0_3 hk7 lk_X2_105 dX2_turnBack_45 ?_
    refine lv_iconst (v := 1) hx hb dX2_turnBack_48 (by decide) ?_
    refine lv_iadd hx hb dX2_turnBack_49 ?_
    refine cz_putI X hM h ff_X0_3 hk7 lk_X2_105 dX2_turnBack_50 (fun M8 H locs h hM => ?_)
    exact cz_retv X hM h dX2_turnBack_53
  · have h := cz_ite_t c2 h
    refine lv_aload_n hx hb dX2_turnBack_18 rfl (lv_at hl 1 rfl) ?_
    refine lv_iconst (v := 2) hx hb dX2_turnBack_19 (by decide) ?_
    refine cz_putI X hM h ff_X1_5 ka1 lk_X2_80 dX2_turnBack_20 (fun M9 H locs h hM => ?_)
    refine lv_aload_n hx hb dX2_turnBack_23 rfl (lv_at hl 0 rfl) ?_
    refine cz_getR X hM ff_X2_1 ka lk_X2_17 dX2_turnBack_24 (fun hk10 => ?_)
    refine lv_iload_n hx hb dX2_turnBack_27 rfl (lv_at hl 2 rfl) ?_
    refine cz_aald0 X hM h hk10 dX2_turnBack_28 (fun h hk11 => ?_)
    refine lv_dup hx hb dX2_turnBack_29 rfl ?_
    refine cz_getI X hM ff_X0_1 hk11 lk_X2_174 dX2_turnBack_30 ?_
    refine lv_iconst (v := 1) hx hb dX2_turnBack_33 (by decide) ?_
    refine lv_iadd hx hb dX2_turnBack_34 ?_
    refine cz_putI X hM h ff_X0_1 hk11 lk_X2_174 dX2_turnBack_35 (fun M12 H locs h hM => ?_)
    refine lv_aload_n hx hb dX2_turnBack_38 rfl (lv_at hl 0 rfl) ?_
    refine cz_getR X hM ff_X2_1 ka lk_X2_17 dX2_turnBack_39 (fun hk13 => ?_)
    refine lv_iload_n hx hb dX2_turnBack_42 rfl (lv_at hl 2 rfl) ?_
    refine cz_aald0 X hM h hk13 dX2_turnBack_43 (fun h hk14 => ?_)
    refine lv_dup hx hb dX2_turnBack_44 rfl ?_
    refine cz_getI X hM ff_X0_3 hk14 lk_X2_105 dX2_turnBack_45 ?_
    refine lv_iconst (v := 1) hx hb dX2_turnBack_48 (by decide) ?_
    refine lv_iadd hx hb dX2_turnBack_49 ?_
    refine cz_putI X hM h ff_X0_3 hk14 lk_X2_105 dX2_turnBack_50 (fun M15 H locs h hM => ?_)
    exact cz_retv X hM h dX2_turnBack_53
theorem mv_X2_appendIfFate : cz_MV yX2_appendIfFate cX2_appendIfFate 6 none RX2 3 := ⟨mi_X2_appendIfFate, ms_X2_appendIfFate, mc_X2_appendIfFate, ini_X2, by decide +kernel⟩
set_option maxHeartbeats 4000000 in
set_option maxRecDepth 100000 in
theorem w_X2_appendIfFate_L3 {p : Program} {l : Launch} {e : Env} {R : Room} {s : State} {m : MethodId} {args : Array Value} {below : List Frame} {meth : Method} {c : Code} {g : cz_G} {b : Nat} (X : cz_X p s m args meth c cX2_appendIfFate 6 RX2 g b none) (hRf : 1 ≤ R.frames) (hRl : 21 ≤ R.locals) {M9 : cz_M} {a0 : Nat} {a1 : Nat} {x2 : Int32} {x3 : Int32} (ka0 : cz_K b a0 2) (ka1 : cz_K b a1 3)
    (K : Int32 → cz_M → Option (cz_M)) (hX : ∀ (x4 : Int32) (M : cz_M) (H : Heap) (locs : List Loc) (ls : Array Slot), K x4 M = some M9 → cz_WS g b M s H locs → lv_has ls 6 [(0, .ref a0), (1, .ref a1), (2, .int x2), (3, .int x3), (4, .int x4)] → W p l e R s m args below meth c H locs 0 0 (MQ below (cz_Q g b none M9) args s 0 0 (fun q => b ≤ q)) (F0 m 61 ls [])) :
    ∀ (n : Nat) (x4 : Int32) (M : cz_M) (H : Heap) (locs : List Loc) (ls : Array Slot), cz_it2 (f_X2_appendIfFate_L3 a0 a1 x2 x3 K) n x4 M = some M9 → cz_WS g b M s H locs → lv_has ls 6 [(0, .ref a0), (1, .ref a1), (2, .int x2), (3, .int x3), (4, .int x4)] → W p l e R s m args below meth c H locs 0 0 (MQ below (cz_Q g b none M9) args s 0 0 (fun q => b ≤ q)) (F0 m 3 ls []) := by
  obtain ⟨hx, hb, -, ho, ht, -⟩ := id X
  intro n
  induction n with
  | zero => intro x4 M H locs ls h; cases (show none = some _ from h)
  | succ n ih =>
    intro x4 M H locs ls h hM hl
    have h : f_X2_appendIfFate_L3 a0 a1 x2 x3 K (cz_it2 (f_X2_appendIfFate_L3 a0 a1 x2 x3 K) n) x4 M = some M9 := h
    rw [f_X2_appendIfFate_L3] at h
    refine lv_iload hx hb dX2_appendIfFate_3 (lv_at hl 4 rfl) ?_
    refine lv_aload_n hx hb dX2_appendIfFate_5 rfl (lv_at hl 1 rfl) ?_
    refine cz_getI X hM ff_X3_1 ka1 lk_X2_111 dX2_appendIfFate_6 ?_
    refine lv_icmp_ge (tgt := 61) hx hb dX2_appendIfFate_9 (by decide) (fun c1 => ?_) (fun c1 => ?_)
    · have h := cz_ite_t c1 h
      exact hX _ _ _ _ _ h hM (lv_sub hl [0, 1, 2, 3, 4] rfl)
    · have h := cz_ite_f c1 h
      refine lv_aload_n hx hb dX2_appendIfFate_12 rfl (lv_at hl 0 rfl) ?_
      refine cz_getR X hM ff_X2_3 ka0 lk_X2_26 dX2_appendIfFate_13 (fun hk2 => ?_)
      refine lv_aload_n hx hb dX2_appendIfFate_16 rfl (lv_at hl 1 rfl) ?_
      refine cz_getR X hM ff_X3_0 ka1 lk_X2_114 dX2_appendIfFate_17 (fun hk3 => ?_)
      refine lv_iload hx hb dX2_appendIfFate_20 (lv_at hl 4 rfl) ?_
      refine cz_iald (n := 40) X hM h hk3 (by decide) dX2_appendIfFate_22 (fun h => ?_)
      refine cz_aald1 X hM h hk2 dX2_appendIfFate_23 (fun h hk4 => ?_)
      refine cz_getI X hM ff_X1_10 hk4 lk_X2_126 dX2_appendIfFate_24 ?_
      refine cz_nmi h (fun v5 h => ?_)
      refine lv_istore (lv' := [(5, .int v5), (0, .ref a0), (1, .ref a1), (2, .int x2), (3, .int x3), (4, .int x4)]) hx hb dX2_appendIfFate_27 hl (by decide) rfl (fun ls hl => ?_)
      refine lv_iload hx hb dX2_appendIfFate_29 (lv_at hl 0 rfl) ?_
      refine lv_iload_n hx hb dX2_appendIfFate_31 rfl (lv_at hl 3 rfl) ?_
      refine lv_icmp_eq (tgt := 41) hx hb dX2_appendIfFate_32 (by decide) (fun c6 => ?_) (fun c6 => ?_)
      · have h := cz_ite_t c6 h
        refine lv_aload_n hx hb dX2_appendIfFate_41 rfl (lv_at hl 1 rfl) ?_
        refine cz_getR X hM ff_X2_5 ka0 lk_X2_37 dX2_appendIfFate_42 (fun hk7 => ?_)
        refine lv_aload_n hx hb dX2_appendIfFate_45 rfl (lv_at hl 2 rfl) ?_
        refine cz_getR X hM ff_X3_0 ka1 lk_X2_114 dX2_appendIfFate_46 (fun hk8 => ?_)
        refine lv_iload hx hb dX2_appendIfFate_49 (lv_at hl 5 rfl) ?_
        refine cz_iald (n := 40) X hM h hk8 (by decide) dX2_appendIfFate_51 (fun h => ?_)
        obtain ⟨M9, hq, h⟩ := cz_bd_t h
        refine cz_runV (rest := []) (As := [.int (M.1 (a1 + 1) (Int32.toNatClampNeg x4))]) (T := TX3) (N0 := 2) X hM hl.1 (c_X3_append (l := l) (g := g) (b := b) hk7 hq) mv_X3_append rfl (by decide) hk7 ml_X2_76 ⟨Nat.le_trans (Nat.le_of_ble_eq_true rfl) hRf, Nat.le_trans (Nat.le_of_ble_eq_true rfl) hRl⟩ rfl rfl (Nat.le_of_ble_eq_true rfl) dX2_appendIfFate_52 (fun H locs hM => ?_)
        refine cz_nmL (v := x4 + 1) h (fun v10 e11 h => ?_)
        refine lv_iinc (v := v10) (lv' := [(4, .int v10), (5, .int v5), (0, .ref a0), (1, .ref a1), (2, .int x2), (3, .int x3)]) hx hb dX2_appendIfFate_55 hl (k := 5) rfl (by rw [e11]; rfl) (by decide) rfl (fun ls hl => ?_)
        refine lv_goto (tgt := 3) hx hb dX2_appendIfFate_58 (by decide) ?_
        exact ih _ _ _ _ _ h hM (lv_sub hl [2, 3, 4, 5, 0] rfl)
      · have h := cz_ite_f c6 h
        refine lv_iload hx hb dX2_appendIfFate_35 (lv_at hl 0 rfl) ?_
        refine lv_iload_n hx hb dX2_appendIfFate_37 rfl (lv_at hl 4 rfl) ?_
        refine lv_icmp_ne (tgt := 55) hx hb dX2_appendIfFate_38 (by decide) (fun c12 => ?_) (fun c12 => ?_)
        · have h := cz_ite_f c12 h
          refine cz_nmL (v := x4 + 1) h (fun v13 e14 h => ?_)
          refine lv_iinc (v := v13) (lv' := [(4, .int v13), (5, .int v5), (0, .ref a0), (1, .ref a1), (2, .int x2), (3, .int x3)]) hx hb dX2_appendIfFate_55 hl (k := 5) rfl (by rw [e14]; rfl) (by decide) rfl (fun ls hl => ?_)
          refine lv_goto (tgt := 3) hx hb dX2_appendIfFate_58 (by decide) ?_
          exact ih _ _ _ _ _ h hM (lv_sub hl [2, 3, 4, 5, 0] rfl)
        · have h := cz_ite_t c12 h
          refine lv_aload_n hx hb dX2_appendIfFate_41 rfl (lv_at hl 1 rfl) ?_
          refine cz_getR X hM ff_X2_5 ka0 lk_X2_37 dX2_appendIfFate_42 (fun hk15 => ?_)
          refine lv_aload_n hx hb dX2_appendIfFate_45 rfl (lv_at hl 2 rfl) ?_
          refine cz_getR X hM ff_X3_0 ka1 lk_X2_114 dX2_appendIfFate_46 (fun hk16 => ?_)
          refine lv_iload hx hb dX2_appendIfFate_49 (lv_at hl 5 rfl) ?_
          refine cz_iald (n := 40) X hM h hk16 (by decide) dX2_appendIfFate_51 (fun h => ?_)
          obtain ⟨M17, hq, h⟩ := cz_bd_t h
          refine cz_runV (rest := []) (As := [.int (M.1 (a1 + 1) (Int32.toNatClampNeg x4))]) (T := TX3) (N0 := 2) X hM hl.1 (c_X3_append (l := l) (g := g) (b := b) hk15 hq) mv_X3_append rfl (by decide) hk15 ml_X2_76 ⟨Nat.le_trans (Nat.le_of_ble_eq_true rfl) hRf, Nat.le_trans (Nat.le_of_ble_eq_true rfl) hRl⟩ rfl rfl (Nat.le_of_ble_eq_true rfl) dX2_appendIfFate_52 (fun H locs hM => ?_)
          refine cz_nmL (v := x4 + 1) h (fun v18 e19 h => ?_)
          refine lv_iinc (v := v18) (lv' := [(4, .int v18), (5, .int v5), (0, .ref a0), (1, .ref a1), (2, .int x2), (3, .int x3)]) hx hb dX2_appendIfFate_55 hl (k := 5) rfl (by rw [e19]; rfl) (by decide) rfl (fun ls hl => ?_)
          refine lv_goto (tgt := 3) hx hb dX2_appendIfFate_58 (by decide) ?_
          exact ih _ _ _ _ _ h hM (lv_sub hl [2, 3, 4, 5, 0] rfl)
set_option maxHeartbeats 4000000 in
set_option maxRecDepth 100000 in
theorem c_X2_appendIfFate {l : Launch} {g : cz_G} {b : Nat} {M : cz_M} {M9 : cz_M} {a : Nat} {a1 : Nat} {x2 : Int32} {x3 : Int32} (ka : cz_K b a 2) (ka1 : cz_K b a1 3) (h : f_X2_appendIfFate M a a1 x2 x3 = some M9) : cz_C l yX2_appendIfFate cX2_appendIfFate 6 none 1 21 g b [.ref a, .ref a1, .int x2, .int x3] M none M9 := by
  refine cz_start (by decide) (Nat.le_of_ble_eq_true rfl) (fun p e s m args below meth c X H ls hM hl => ?_)
  have X : cz_X p s m args meth c cX2_appendIfFate 6 RX2 g b none := X
  obtain ⟨hx, hb, -, ho, ht, -⟩ := id X
  have hRf : 1 ≤ ({ frames := 1, cells := 0, slots := 0, locals := 21 } : Room).frames := Nat.le_refl _
  have hRl : 21 ≤ ({ frames := 1, cells := 0, slots := 0, locals := 21 } : Room).locals := Nat.le_refl _
  have hl : lv_has ls 6 [(0, .ref a), (1, .ref a1), (2, .int x2), (3, .int x3)] := hl
  rw [f_X2_appendIfFate] at h
  refine lv_iconst (v := 0) hx hb dX2_appendIfFate_0 (by decide) ?_
  refine lv_istore (lv' := [(4, .int (0 : Int32)), (0, .ref a), (1, .ref a1), (2, .int x2), (3, .int x3)]) hx hb dX2_appendIfFate_1 hl (by decide) rfl (fun ls hl => ?_)
  refine w_X2_appendIfFate_L3 X hRf hRl ka ka1 _ (fun x20 M21 H locs ls h hM hl => ?_) _ _ _ _ _ _ h hM (lv_sub hl [1, 2, 3, 4, 0] rfl)
  exact cz_retv X hM h dX2_appendIfFate_61
theorem mv_X2_readRow : cz_MV yX2_readRow cX2_readRow 7 (some .int) RX2 1 := ⟨mi_X2_readRow, ms_X2_readRow, mc_X2_readRow, ini_X2, by decide +kernel⟩
set_option maxHeartbeats 4000000 in
set_option maxRecDepth 100000 in
theorem w_X2_readRow_L23 {p : Program} {l : Launch} {e : Env} {R : Room} {s : State} {m : MethodId} {args : Array Value} {below : List Frame} {meth : Method} {c : Code} {g : cz_G} {b : Nat} (X : cz_X p s m args meth c cX2_readRow 7 RX2 g b (some .int)) (hRf : 3 ≤ R.frames) (hRl : 69 ≤ R.locals) {r0 : Int32} {M9 : cz_M} {a0 : Nat} {a2 : Nat} {x3 : Int32} (ka0 : cz_K b a0 2) (ka2 : cz_K b a2 3)
    (K : Int32 → Int32 → cz_M → Option (Int32 × cz_M)) (hX : ∀ (x4 : Int32) (x5 : Int32) (M : cz_M) (H : Heap) (locs : List Loc) (ls : Array Slot), K x4 x5 M = some (r0, M9) → cz_WS g b M s H locs → lv_has ls 7 [(0, .ref a0), (2, .ref a2), (3, .int x3), (4, .int x4), (5, .int x5)] → W p l e R s m args below meth c H locs 0 0 (MQ below (cz_Q g b (some (.int r0)) M9) args s 0 0 (fun q => b ≤ q)) (F0 m 98 ls [])) :
    ∀ (n : Nat) (x4 : Int32) (x5 : Int32) (M : cz_M) (H : Heap) (locs : List Loc) (ls : Array Slot), cz_it3 (f_X2_readRow_L23 a0 a2 x3 K) n x4 x5 M = some (r0, M9) → cz_WS g b M s H locs → lv_has ls 7 [(0, .ref a0), (2, .ref a2), (3, .int x3), (4, .int x4), (5, .int x5)] → W p l e R s m args below meth c H locs 0 0 (MQ below (cz_Q g b (some (.int r0)) M9) args s 0 0 (fun q => b ≤ q)) (F0 m 23 ls []) := by
  obtain ⟨hx, hb, -, ho, ht, -⟩ := id X
  intro n
  induction n with
  | zero => intro x4 x5 M H locs ls h; cases (show none = some _ from h)
  | succ n ih =>
    intro x4 x5 M H locs ls h hM hl
    have h : f_X2_readRow_L23 a0 a2 x3 K (cz_it3 (f_X2_readRow_L23 a0 a2 x3 K) n) x4 x5 M = some (r0, M9) := h
    rw [f_X2_readRow_L23] at h
    refine lv_iload hx hb dX2_readRow_23 (lv_at hl 4 rfl) ?_
    refine lv_aload_n hx hb dX2_readRow_25 rfl (lv_at hl 1 rfl) ?_
    refine cz_getI X hM ff_X3_1 ka2 lk_X2_111 dX2_readRow_26 ?_
    refine lv_icmp_ge (tgt := 98) hx hb dX2_readRow_29 (by decide) (fun c6 => ?_) (fun c6 => ?_)
    · have h := cz_ite_t c6 h
      exact hX _ _ _ _ _ _ h hM (lv_sub hl [0, 1, 2, 3, 4] rfl)
    · have h := cz_ite_f c6 h
      refine lv_aload_n hx hb dX2_readRow_32 rfl (lv_at hl 0 rfl) ?_
      refine cz_getR X hM ff_X2_3 ka0 lk_X2_26 dX2_readRow_33 (fun hk7 => ?_)
      refine lv_aload_n hx hb dX2_readRow_36 rfl (lv_at hl 1 rfl) ?_
      refine cz_getR X hM ff_X3_0 ka2 lk_X2_114 dX2_readRow_37 (fun hk8 => ?_)
      refine lv_iload hx hb dX2_readRow_40 (lv_at hl 4 rfl) ?_
      refine cz_iald (n := 40) X hM h hk8 (by decide) dX2_readRow_42 (fun h => ?_)
      refine cz_aald1 X hM h hk7 dX2_readRow_43 (fun h hk9 => ?_)
      refine cz_nmr h hk9 (fun r10 h hk11 => ?_)
      refine lv_astore (lv' := [(6, .ref r10), (0, .ref a0), (2, .ref a2), (3, .int x3), (4, .int x4), (5, .int x5)]) hx hb dX2_readRow_44 hl (by decide) rfl (fun ls hl => ?_)
      refine lv_aload hx hb dX2_readRow_46 (lv_at hl 0 rfl) ?_
      refine cz_getI X hM ff_X1_10 hk11 lk_X2_126 dX2_readRow_48 ?_
      refine lv_if_ne (tgt := 67) hx hb dX2_readRow_51 (by decide) (fun c12 => ?_) (fun c12 => ?_)
      · have h := cz_ite_f c12 h
        refine lv_aload hx hb dX2_readRow_67 (lv_at hl 0 rfl) ?_
        refine cz_getI X hM ff_X1_10 hk11 lk_X2_126 dX2_readRow_69 ?_
        refine lv_iconst (v := 4) hx hb dX2_readRow_72 (by decide) ?_
        refine lv_icmp_eq (tgt := 85) hx hb dX2_readRow_73 (by decide) (fun c13 => ?_) (fun c13 => ?_)
        · have h := cz_ite_t c13 h
          refine lv_aload_n hx hb dX2_readRow_85 rfl (lv_at hl 1 rfl) ?_
          refine lv_aload hx hb dX2_readRow_86 (lv_at hl 0 rfl) ?_
          refine lv_iload_n hx hb dX2_readRow_88 rfl (lv_at hl 3 rfl) ?_
          obtain ⟨M14, hq, h⟩ := cz_bd_t h
          refine cz_runV (rest := []) (As := [.ref r10, .int x3]) (T := TX2) (N0 := 9) X hM hl.1 (c_X2_turnBack (l := l) (g := g) (b := b) ka0 hk11 hq) mv_X2_turnBack rfl (by decide) ka0 ml_X2_158 ⟨Nat.le_trans (Nat.le_of_ble_eq_true rfl) hRf, Nat.le_trans (Nat.le_of_ble_eq_true rfl) hRl⟩ rfl rfl (Nat.le_of_ble_eq_true rfl) dX2_readRow_89 (fun H locs hM => ?_)
          refine cz_nmL (v := x5 + 1) h (fun v15 e16 h => ?_)
          refine lv_iinc (v := v15) (lv' := [(5, .int v15), (6, .ref r10), (0, .ref a0), (2, .ref a2), (3, .int x3), (4, .int x4)]) hx hb dX2_readRow_92 hl (k := 5) rfl (by rw [e16]; rfl) (by decide) rfl (fun ls hl => ?_)
          refine lv_goto (tgt := 23) hx hb dX2_readRow_95 (by decide) ?_
          exact ih _ _ _ _ _ _ h hM (lv_sub hl [2, 3, 4, 5, 0] rfl)
        · have h := cz_ite_f c13 h
          refine lv_aload hx hb dX2_readRow_76 (lv_at hl 0 rfl) ?_
          refine cz_getI X hM ff_X1_10 hk11 lk_X2_126 dX2_readRow_78 ?_
          refine lv_iconst (v := 5) hx hb dX2_readRow_81 (by decide) ?_
          refine lv_icmp_ne (tgt := 92) hx hb dX2_readRow_82 (by decide) (fun c17 => ?_) (fun c17 => ?_)
          · have h := cz_ite_f c17 h
            refine cz_nmL (v := x5 + 1) h (fun v18 e19 h => ?_)
            refine lv_iinc (v := v18) (lv' := [(5, .int v18), (6, .ref r10), (0, .ref a0), (2, .ref a2), (3, .int x3), (4, .int x4)]) hx hb dX2_readRow_92 hl (k := 5) rfl (by rw [e19]; rfl) (by decide) rfl (fun ls hl => ?_)
            refine lv_goto (tgt := 23) hx hb dX2_readRow_95 (by decide) ?_
            exact ih _ _ _ _ _ _ h hM (lv_sub hl [2, 3, 4, 5, 0] rfl)
          · have h := cz_ite_t c17 h
            refine lv_aload_n hx hb dX2_readRow_85 rfl (lv_at hl 1 rfl) ?_
            refine lv_aload hx hb dX2_readRow_86 (lv_at hl 0 rfl) ?_
            refine lv_iload_n hx hb dX2_readRow_88 rfl (lv_at hl 3 rfl) ?_
            obtain ⟨M20, hq, h⟩ := cz_bd_t h
            refine cz_runV (rest := []) (As := [.ref r10, .int x3]) (T := TX2) (N0 := 9) X hM hl.1 (c_X2_turnBack (l := l) (g := g) (b := b) ka0 hk11 hq) mv_X2_turnBack rfl (by decide) ka0 ml_X2_158 ⟨Nat.le_trans (Nat.le_of_ble_eq_true rfl) hRf, Nat.le_trans (Nat.le_of_ble_eq_true rfl) hRl⟩ rfl rfl (Nat.le_of_ble_eq_true rfl) dX2_readRow_89 (fun H locs hM => ?_)
            refine cz_nmL (v := x5 + 1) h (fun v21 e22 h => ?_)
            refine lv_iinc (v := v21) (lv' := [(5, .int v21), (6, .ref r10), (0, .ref a0), (2, .ref a2), (3, .int x3), (4, .int x4)]) hx hb dX2_readRow_92 hl (k := 5) rfl (by rw [e22]; rfl) (by decide) rfl (fun ls hl => ?_)
            refine lv_goto (tgt := 23) hx hb dX2_readRow_95 (by decide) ?_
            exact ih _ _ _ _ _ _ h hM (lv_sub hl [2, 3, 4, 5, 0] rfl)
      · have h := cz_ite_t c12 h
        refine lv_aload_n hx hb dX2_readRow_54 rfl (lv_at hl 1 rfl) ?_
        refine lv_aload hx hb dX2_readRow_55 (lv_at hl 0 rfl) ?_
        refine lv_iload_n hx hb dX2_readRow_57 rfl (lv_at hl 3 rfl) ?_
        obtain ⟨M23, hq, h⟩ := cz_bd_t h
        refine cz_runV (rest := []) (As := [.ref r10, .int x3]) (T := TX2) (N0 := 9) X hM hl.1 (c_X2_letThrough (l := l) (g := g) (b := b) ka0 hk11 hq) mv_X2_letThrough rfl (by decide) ka0 ml_X2_154 ⟨Nat.le_trans (Nat.le_of_ble_eq_true rfl) hRf, Nat.le_trans (Nat.le_of_ble_eq_true rfl) hRl⟩ rfl rfl (Nat.le_of_ble_eq_true rfl) dX2_readRow_58 (fun H locs hM => ?_)
        refine cz_nmL (v := x4 + 1) h (fun v24 e25 h => ?_)
        refine lv_iinc (v := v24) (lv' := [(4, .int v24), (6, .ref r10), (0, .ref a0), (2, .ref a2), (3, .int x3), (5, .int x5)]) hx hb dX2_readRow_61 hl (k := 4) rfl (by rw [e25]; rfl) (by decide) rfl (fun ls hl => ?_)
        refine lv_goto (tgt := 92) hx hb dX2_readRow_64 (by decide) ?_
        refine cz_nmL (v := x5 + 1) h (fun v26 e27 h => ?_)
        refine lv_iinc (v := v26) (lv' := [(5, .int v26), (4, .int v24), (6, .ref r10), (0, .ref a0), (2, .ref a2), (3, .int x3)]) hx hb dX2_readRow_92 hl (k := 5) rfl (by rw [e27]; rfl) (by decide) rfl (fun ls hl => ?_)
        refine lv_goto (tgt := 23) hx hb dX2_readRow_95 (by decide) ?_
        exact ih _ _ _ _ _ _ h hM (lv_sub hl [3, 4, 5, 1, 0] rfl)
set_option maxHeartbeats 4000000 in
set_option maxRecDepth 100000 in
theorem c_X2_readRow {l : Launch} {g : cz_G} {b : Nat} {M : cz_M} {r0 : Int32} {M9 : cz_M} {a : Nat} {x1 : Int32} (ka : cz_K b a 2) (h : f_X2_readRow M a x1 = some (r0, M9)) : cz_C l yX2_readRow cX2_readRow 7 (some .int) 3 69 g b [.ref a, .int x1] M (some (.int r0)) M9 := by
  refine cz_start (by decide) (Nat.le_of_ble_eq_true rfl) (fun p e s m args below meth c X H ls hM hl => ?_)
  have X : cz_X p s m args meth c cX2_readRow 7 RX2 g b (some .int) := X
  obtain ⟨hx, hb, -, ho, ht, -⟩ := id X
  have hRf : 3 ≤ ({ frames := 3, cells := 0, slots := 0, locals := 69 } : Room).frames := Nat.le_refl _
  have hRl : 69 ≤ ({ frames := 3, cells := 0, slots := 0, locals := 69 } : Room).locals := Nat.le_refl _
  have hl : lv_has ls 7 [(0, .ref a), (1, .int x1)] := hl
  rw [f_X2_readRow] at h
  refine lv_aload_n hx hb dX2_readRow_0 rfl (lv_at hl 0 rfl) ?_
  refine cz_getR X hM ff_X2_4 ka lk_X2_32 dX2_readRow_1 (fun hk1 => ?_)
  refine lv_iload_n hx hb dX2_readRow_4 rfl (lv_at hl 1 rfl) ?_
  refine cz_aald2 X hM h hk1 dX2_readRow_5 (fun h hk2 => ?_)
  refine cz_nmr h hk2 (fun r3 h hk4 => ?_)
  refine lv_astore_n (lv' := [(2, .ref r3), (0, .ref a), (1, .int x1)]) hx hb dX2_readRow_6 rfl hl (by decide) rfl (fun ls hl => ?_)
  refine lv_aload_n hx hb dX2_readRow_7 rfl (lv_at hl 1 rfl) ?_
  refine lv_aload_n hx hb dX2_readRow_8 rfl (lv_at hl 1 rfl) ?_
  refine cz_getI X hM ff_X2_8 ka lk_X2_66 dX2_readRow_9 ?_
  refine lv_iload_n hx hb dX2_readRow_12 rfl (lv_at hl 2 rfl) ?_
  obtain ⟨v5, hq, h⟩ := cz_bd_t h
  refine cz_runV (rest := []) (As := [.int (M.1 a 8), .int x1]) (T := TX2) (N0 := 9) X hM hl.1 (c_X2_censorNumber (l := l) (g := g) (b := b) ka hq) mv_X2_censorNumber rfl (by decide) ka ml_X2_120 ⟨Nat.le_trans (Nat.le_of_ble_eq_true rfl) hRf, Nat.le_trans (Nat.le_of_ble_eq_true rfl) hRl⟩ rfl rfl (Nat.le_of_ble_eq_true rfl) dX2_readRow_13 (fun H locs hM => ?_)
  refine lv_istore_n (lv' := [(3, .int v5), (2, .ref r3), (0, .ref a), (1, .int x1)]) hx hb dX2_readRow_16 rfl hl (by decide) rfl (fun ls hl => ?_)
  refine lv_iconst (v := 0) hx hb dX2_readRow_17 (by decide) ?_
  refine lv_istore (lv' := [(4, .int (0 : Int32)), (3, .int v5), (2, .ref r3), (0, .ref a), (1, .int x1)]) hx hb dX2_readRow_18 hl (by decide) rfl (fun ls hl => ?_)
  refine lv_iconst (v := 0) hx hb dX2_readRow_20 (by decide) ?_
  refine lv_istore (lv' := [(5, .int (0 : Int32)), (4, .int (0 : Int32)), (3, .int v5), (2, .ref r3), (0, .ref a), (1, .int x1)]) hx hb dX2_readRow_21 hl (by decide) rfl (fun ls hl => ?_)
  refine w_X2_readRow_L23 X hRf hRl ka hk4 _ (fun x28 x29 M30 H locs ls h hM hl => ?_) _ _ _ _ _ _ _ h hM (lv_sub hl [4, 3, 2, 1, 0] rfl)
  refine lv_aload_n hx hb dX2_readRow_98 rfl (lv_at hl 0 rfl) ?_
  refine cz_getR X hM ff_X2_5 ka lk_X2_37 dX2_readRow_99 (fun hk31 => ?_)
  refine lv_iconst (v := 0) hx hb dX2_readRow_102 (by decide) ?_
  refine cz_putI X hM h ff_X3_1 hk31 lk_X2_111 dX2_readRow_103 (fun M32 H locs h hM => ?_)
  refine lv_aload_n hx hb dX2_readRow_106 rfl (lv_at hl 0 rfl) ?_
  refine lv_aload_n hx hb dX2_readRow_107 rfl (lv_at hl 1 rfl) ?_
  refine lv_iconst (v := 2) hx hb dX2_readRow_108 (by decide) ?_
  refine lv_iconst (v := 3) hx hb dX2_readRow_109 (by decide) ?_
  obtain ⟨M33, hq, h⟩ := cz_bd_t h
  refine cz_runV (rest := []) (As := [.ref r3, .int (2 : Int32), .int (3 : Int32)]) (T := TX2) (N0 := 9) X hM hl.1 (c_X2_appendIfFate (l := l) (g := g) (b := b) ka hk4 hq) mv_X2_appendIfFate rfl (by decide) ka ml_X2_161 ⟨Nat.le_trans (Nat.le_of_ble_eq_true rfl) hRf, Nat.le_trans (Nat.le_of_ble_eq_true rfl) hRl⟩ rfl rfl (Nat.le_of_ble_eq_true rfl) dX2_readRow_110 (fun H locs hM => ?_)
  refine lv_aload_n hx hb dX2_readRow_113 rfl (lv_at hl 0 rfl) ?_
  refine lv_aload_n hx hb dX2_readRow_114 rfl (lv_at hl 1 rfl) ?_
  refine lv_iconst (v := 4) hx hb dX2_readRow_115 (by decide) ?_
  refine lv_iconst (v := 4) hx hb dX2_readRow_116 (by decide) ?_
  obtain ⟨M34, hq, h⟩ := cz_bd_t h
  refine cz_runV (rest := []) (As := [.ref r3, .int (4 : Int32), .int (4 : Int32)]) (T := TX2) (N0 := 9) X hM hl.1 (c_X2_appendIfFate (l := l) (g := g) (b := b) ka hk4 hq) mv_X2_appendIfFate rfl (by decide) ka ml_X2_161 ⟨Nat.le_trans (Nat.le_of_ble_eq_true rfl) hRf, Nat.le_trans (Nat.le_of_ble_eq_true rfl) hRl⟩ rfl rfl (Nat.le_of_ble_eq_true rfl) dX2_readRow_117 (fun H locs hM => ?_)
  refine lv_aload_n hx hb dX2_readRow_120 rfl (lv_at hl 1 rfl) ?_
  refine lv_aload_n hx hb dX2_readRow_121 rfl (lv_at hl 0 rfl) ?_
  refine cz_getR X hM ff_X2_5 ka lk_X2_37 dX2_readRow_122 (fun hk35 => ?_)
  obtain ⟨M36, hq, h⟩ := cz_bd_t h
  refine cz_runV (rest := []) (As := [.ref (a + 6)]) (T := TX3) (N0 := 2) X hM hl.1 (c_X3_copyFrom (l := l) (g := g) (b := b) hk4 hk35 hq) mv_X3_copyFrom rfl (by decide) hk4 ml_X2_63 ⟨Nat.le_trans (Nat.le_of_ble_eq_true rfl) hRf, Nat.le_trans (Nat.le_of_ble_eq_true rfl) hRl⟩ rfl rfl (Nat.le_of_ble_eq_true rfl) dX2_readRow_125 (fun H locs hM => ?_)
  refine lv_iload hx hb dX2_readRow_128 (lv_at hl 3 rfl) ?_
  exact cz_reti X hM h rfl dX2_readRow_130
theorem mv_X2_passWeek : cz_MV yX2_passWeek cX2_passWeek 3 (some .int) RX2 0 := ⟨mi_X2_passWeek, ms_X2_passWeek, mc_X2_passWeek, ini_X2, by decide +kernel⟩
set_option maxHeartbeats 4000000 in
set_option maxRecDepth 100000 in
theorem w_X2_passWeek_L8 {p : Program} {l : Launch} {e : Env} {R : Room} {s : State} {m : MethodId} {args : Array Value} {below : List Frame} {meth : Method} {c : Code} {g : cz_G} {b : Nat} (X : cz_X p s m args meth c cX2_passWeek 3 RX2 g b (some .int)) (hRf : 4 ≤ R.frames) (hRl : 96 ≤ R.locals) {r0 : Int32} {M9 : cz_M} {a0 : Nat} (ka0 : cz_K b a0 2)
    (K : Int32 → Int32 → cz_M → Option (Int32 × cz_M)) (hX : ∀ (x1 : Int32) (x2 : Int32) (M : cz_M) (H : Heap) (locs : List Loc) (ls : Array Slot), K x1 x2 M = some (r0, M9) → cz_WS g b M s H locs → lv_has ls 3 [(0, .ref a0), (1, .int x1), (2, .int x2)] → W p l e R s m args below meth c H locs 0 0 (MQ below (cz_Q g b (some (.int r0)) M9) args s 0 0 (fun q => b ≤ q)) (F0 m 27 ls [])) :
    ∀ (n : Nat) (x1 : Int32) (x2 : Int32) (M : cz_M) (H : Heap) (locs : List Loc) (ls : Array Slot), cz_it3 (f_X2_passWeek_L8 a0 K) n x1 x2 M = some (r0, M9) → cz_WS g b M s H locs → lv_has ls 3 [(0, .ref a0), (1, .int x1), (2, .int x2)] → W p l e R s m args below meth c H locs 0 0 (MQ below (cz_Q g b (some (.int r0)) M9) args s 0 0 (fun q => b ≤ q)) (F0 m 8 ls []) := by
  obtain ⟨hx, hb, -, ho, ht, -⟩ := id X
  intro n
  induction n with
  | zero => intro x1 x2 M H locs ls h; cases (show none = some _ from h)
  | succ n ih =>
    intro x1 x2 M H locs ls h hM hl
    have h : f_X2_passWeek_L8 a0 K (cz_it3 (f_X2_passWeek_L8 a0 K) n) x1 x2 M = some (r0, M9) := h
    rw [f_X2_passWeek_L8] at h
    refine lv_iload_n hx hb dX2_passWeek_8 rfl (lv_at hl 2 rfl) ?_
    refine lv_iconst (v := 2) hx hb dX2_passWeek_9 (by decide) ?_
    refine lv_icmp_ge (tgt := 27) hx hb dX2_passWeek_10 (by decide) (fun c2 => ?_) (fun c2 => ?_)
    · have h := cz_ite_t c2 h
      exact hX _ _ _ _ _ _ h hM (lv_sub hl [0, 1, 2] rfl)
    · have h := cz_ite_f c2 h
      refine lv_iload_n hx hb dX2_passWeek_13 rfl (lv_at hl 1 rfl) ?_
      refine lv_aload_n hx hb dX2_passWeek_14 rfl (lv_at hl 0 rfl) ?_
      refine lv_iload_n hx hb dX2_passWeek_15 rfl (lv_at hl 2 rfl) ?_
      obtain ⟨v4, M3, hq, h⟩ := cz_b2_t h
      refine cz_runV (rest := [.int x1]) (As := [.int x2]) (T := TX2) (N0 := 9) X hM hl.1 (c_X2_readRow (l := l) (g := g) (b := b) ka0 hq) mv_X2_readRow rfl (by decide) ka0 ml_X2_151 ⟨Nat.le_trans (Nat.le_of_ble_eq_true rfl) hRf, Nat.le_trans (Nat.le_of_ble_eq_true rfl) hRl⟩ rfl rfl (Nat.le_of_ble_eq_true rfl) dX2_passWeek_16 (fun H locs hM => ?_)
      refine lv_iadd hx hb dX2_passWeek_19 ?_
      refine cz_nmi h (fun v5 h => ?_)
      refine lv_istore_n (lv' := [(1, .int v5), (0, .ref a0), (2, .int x2)]) hx hb dX2_passWeek_20 rfl hl (by decide) rfl (fun ls hl => ?_)
      refine cz_nmL (v := x2 + 1) h (fun v6 e7 h => ?_)
      refine lv_iinc (v := v6) (lv' := [(2, .int v6), (1, .int v5), (0, .ref a0)]) hx hb dX2_passWeek_21 hl (k := 2) rfl (by rw [e7]; rfl) (by decide) rfl (fun ls hl => ?_)
      refine lv_goto (tgt := 8) hx hb dX2_passWeek_24 (by decide) ?_
      exact ih _ _ _ _ _ _ h hM (lv_sub hl [2, 1, 0] rfl)
set_option maxHeartbeats 4000000 in
set_option maxRecDepth 100000 in
theorem c_X2_passWeek {l : Launch} {g : cz_G} {b : Nat} {M : cz_M} {r0 : Int32} {M9 : cz_M} {a : Nat} (ka : cz_K b a 2) (h : f_X2_passWeek M a = some (r0, M9)) : cz_C l yX2_passWeek cX2_passWeek 3 (some .int) 4 96 g b [.ref a] M (some (.int r0)) M9 := by
  refine cz_start (by decide) (Nat.le_of_ble_eq_true rfl) (fun p e s m args below meth c X H ls hM hl => ?_)
  have X : cz_X p s m args meth c cX2_passWeek 3 RX2 g b (some .int) := X
  obtain ⟨hx, hb, -, ho, ht, -⟩ := id X
  have hRf : 4 ≤ ({ frames := 4, cells := 0, slots := 0, locals := 96 } : Room).frames := Nat.le_refl _
  have hRl : 96 ≤ ({ frames := 4, cells := 0, slots := 0, locals := 96 } : Room).locals := Nat.le_refl _
  have hl : lv_has ls 3 [(0, .ref a)] := hl
  rw [f_X2_passWeek] at h
  refine lv_aload_n hx hb dX2_passWeek_0 rfl (lv_at hl 0 rfl) ?_
  obtain ⟨M1, hq, h⟩ := cz_bd_t h
  refine cz_runV (rest := []) (As := []) (T := TX2) (N0 := 9) X hM hl.1 (c_X2_judgeWeek (l := l) (g := g) (b := b) ka hq) mv_X2_judgeWeek rfl (by decide) ka ml_X2_148 ⟨Nat.le_trans (Nat.le_of_ble_eq_true rfl) hRf, Nat.le_trans (Nat.le_of_ble_eq_true rfl) hRl⟩ rfl rfl (Nat.le_of_ble_eq_true rfl) dX2_passWeek_1 (fun H locs hM => ?_)
  refine lv_iconst (v := 0) hx hb dX2_passWeek_4 (by decide) ?_
  refine lv_istore_n (lv' := [(1, .int (0 : Int32)), (0, .ref a)]) hx hb dX2_passWeek_5 rfl hl (by decide) rfl (fun ls hl => ?_)
  refine lv_iconst (v := 0) hx hb dX2_passWeek_6 (by decide) ?_
  refine lv_istore_n (lv' := [(2, .int (0 : Int32)), (1, .int (0 : Int32)), (0, .ref a)]) hx hb dX2_passWeek_7 rfl hl (by decide) rfl (fun ls hl => ?_)
  refine w_X2_passWeek_L8 X hRf hRl ka _ (fun x8 x9 M10 H locs ls h hM hl => ?_) _ _ _ _ _ _ _ h hM (lv_sub hl [2, 1, 0] rfl)
  refine lv_aload_n hx hb dX2_passWeek_27 rfl (lv_at hl 0 rfl) ?_
  refine lv_dup hx hb dX2_passWeek_28 rfl ?_
  refine cz_getI X hM ff_X2_8 ka lk_X2_66 dX2_passWeek_29 ?_
  refine lv_iconst (v := 1) hx hb dX2_passWeek_32 (by decide) ?_
  refine lv_iadd hx hb dX2_passWeek_33 ?_
  refine cz_putI X hM h ff_X2_8 ka lk_X2_66 dX2_passWeek_34 (fun M11 H locs h hM => ?_)
  refine lv_iload_n hx hb dX2_passWeek_37 rfl (lv_at hl 1 rfl) ?_
  exact cz_reti X hM h rfl dX2_passWeek_38
theorem mv_X2_passWeeks : cz_MV yX2_passWeeks cX2_passWeeks 4 (some .int) RX2 1 := ⟨mi_X2_passWeeks, ms_X2_passWeeks, mc_X2_passWeeks, ini_X2, by decide +kernel⟩
set_option maxHeartbeats 4000000 in
set_option maxRecDepth 100000 in
theorem w_X2_passWeeks_L4 {p : Program} {l : Launch} {e : Env} {R : Room} {s : State} {m : MethodId} {args : Array Value} {below : List Frame} {meth : Method} {c : Code} {g : cz_G} {b : Nat} (X : cz_X p s m args meth c cX2_passWeeks 4 RX2 g b (some .int)) (hRf : 5 ≤ R.frames) (hRl : 118 ≤ R.locals) {r0 : Int32} {M9 : cz_M} {a0 : Nat} {x1 : Int32} (ka0 : cz_K b a0 2)
    (K : Int32 → Int32 → cz_M → Option (Int32 × cz_M)) (hX : ∀ (x2 : Int32) (x3 : Int32) (M : cz_M) (H : Heap) (locs : List Loc) (ls : Array Slot), K x2 x3 M = some (r0, M9) → cz_WS g b M s H locs → lv_has ls 4 [(0, .ref a0), (1, .int x1), (2, .int x2), (3, .int x3)] → W p l e R s m args below meth c H locs 0 0 (MQ below (cz_Q g b (some (.int r0)) M9) args s 0 0 (fun q => b ≤ q)) (F0 m 22 ls [])) :
    ∀ (n : Nat) (x2 : Int32) (x3 : Int32) (M : cz_M) (H : Heap) (locs : List Loc) (ls : Array Slot), cz_it3 (f_X2_passWeeks_L4 a0 x1 K) n x2 x3 M = some (r0, M9) → cz_WS g b M s H locs → lv_has ls 4 [(0, .ref a0), (1, .int x1), (2, .int x2), (3, .int x3)] → W p l e R s m args below meth c H locs 0 0 (MQ below (cz_Q g b (some (.int r0)) M9) args s 0 0 (fun q => b ≤ q)) (F0 m 4 ls []) := by
  obtain ⟨hx, hb, -, ho, ht, -⟩ := id X
  intro n
  induction n with
  | zero => intro x2 x3 M H locs ls h; cases (show none = some _ from h)
  | succ n ih =>
    intro x2 x3 M H locs ls h hM hl
    have h : f_X2_passWeeks_L4 a0 x1 K (cz_it3 (f_X2_passWeeks_L4 a0 x1 K) n) x2 x3 M = some (r0, M9) := h
    rw [f_X2_passWeeks_L4] at h
    refine lv_iload_n hx hb dX2_passWeeks_4 rfl (lv_at hl 3 rfl) ?_
    refine lv_iload_n hx hb dX2_passWeeks_5 rfl (lv_at hl 1 rfl) ?_
    refine lv_icmp_ge (tgt := 22) hx hb dX2_passWeeks_6 (by decide) (fun c1 => ?_) (fun c1 => ?_)
    · have h := cz_ite_t c1 h
      exact hX _ _ _ _ _ _ h hM (lv_sub hl [0, 1, 2, 3] rfl)
    · have h := cz_ite_f c1 h
      refine lv_iload_n hx hb dX2_passWeeks_9 rfl (lv_at hl 2 rfl) ?_
      refine lv_aload_n hx hb dX2_passWeeks_10 rfl (lv_at hl 0 rfl) ?_
      obtain ⟨v3, M2, hq, h⟩ := cz_b2_t h
      refine cz_runV (rest := [.int x2]) (As := []) (T := TX2) (N0 := 9) X hM hl.1 (c_X2_passWeek (l := l) (g := g) (b := b) ka0 hq) mv_X2_passWeek rfl (by decide) ka0 ml_X2_145 ⟨Nat.le_trans (Nat.le_of_ble_eq_true rfl) hRf, Nat.le_trans (Nat.le_of_ble_eq_true rfl) hRl⟩ rfl rfl (Nat.le_of_ble_eq_true rfl) dX2_passWeeks_11 (fun H locs hM => ?_)
      refine lv_iadd hx hb dX2_passWeeks_14 ?_
      refine cz_nmi h (fun v4 h => ?_)
      refine lv_istore_n (lv' := [(2, .int v4), (0, .ref a0), (1, .int x1), (3, .int x3)]) hx hb dX2_passWeeks_15 rfl hl (by decide) rfl (fun ls hl => ?_)
      refine cz_nmL (v := x3 + 1) h (fun v5 e6 h => ?_)
      refine lv_iinc (v := v5) (lv' := [(3, .int v5), (2, .int v4), (0, .ref a0), (1, .int x1)]) hx hb dX2_passWeeks_16 hl (k := 3) rfl (by rw [e6]; rfl) (by decide) rfl (fun ls hl => ?_)
      refine lv_goto (tgt := 4) hx hb dX2_passWeeks_19 (by decide) ?_
      exact ih _ _ _ _ _ _ h hM (lv_sub hl [2, 3, 1, 0] rfl)
set_option maxHeartbeats 4000000 in
set_option maxRecDepth 100000 in
theorem c_X2_passWeeks {l : Launch} {g : cz_G} {b : Nat} {M : cz_M} {r0 : Int32} {M9 : cz_M} {a : Nat} {x1 : Int32} (ka : cz_K b a 2) (h : f_X2_passWeeks M a x1 = some (r0, M9)) : cz_C l yX2_passWeeks cX2_passWeeks 4 (some .int) 5 118 g b [.ref a, .int x1] M (some (.int r0)) M9 := by
  refine cz_start (by decide) (Nat.le_of_ble_eq_true rfl) (fun p e s m args below meth c X H ls hM hl => ?_)
  have X : cz_X p s m args meth c cX2_passWeeks 4 RX2 g b (some .int) := X
  obtain ⟨hx, hb, -, ho, ht, -⟩ := id X
  have hRf : 5 ≤ ({ frames := 5, cells := 0, slots := 0, locals := 118 } : Room).frames := Nat.le_refl _
  have hRl : 118 ≤ ({ frames := 5, cells := 0, slots := 0, locals := 118 } : Room).locals := Nat.le_refl _
  have hl : lv_has ls 4 [(0, .ref a), (1, .int x1)] := hl
  rw [f_X2_passWeeks] at h
  refine lv_iconst (v := 0) hx hb dX2_passWeeks_0 (by decide) ?_
  refine lv_istore_n (lv' := [(2, .int (0 : Int32)), (0, .ref a), (1, .int x1)]) hx hb dX2_passWeeks_1 rfl hl (by decide) rfl (fun ls hl => ?_)
  refine lv_iconst (v := 0) hx hb dX2_passWeeks_2 (by decide) ?_
  refine lv_istore_n (lv' := [(3, .int (0 : Int32)), (2, .int (0 : Int32)), (0, .ref a), (1, .int x1)]) hx hb dX2_passWeeks_3 rfl hl (by decide) rfl (fun ls hl => ?_)
  refine w_X2_passWeeks_L4 X hRf hRl ka _ (fun x7 x8 M9 H locs ls h hM hl => ?_) _ _ _ _ _ _ _ h hM (lv_sub hl [2, 3, 1, 0] rfl)
  refine lv_iload_n hx hb dX2_passWeeks_22 rfl (lv_at hl 2 rfl) ?_
  exact cz_reti X hM h rfl dX2_passWeeks_23
theorem mv_X3_placeOf : cz_MV yX3_placeOf cX3_placeOf 3 (some .int) RX3 1 := ⟨mi_X3_placeOf, ms_X3_placeOf, mc_X3_placeOf, ini_X3, by decide +kernel⟩
set_option maxHeartbeats 4000000 in
set_option maxRecDepth 100000 in
theorem w_X3_placeOf_L2 {p : Program} {l : Launch} {e : Env} {R : Room} {s : State} {m : MethodId} {args : Array Value} {below : List Frame} {meth : Method} {c : Code} {g : cz_G} {b : Nat} (X : cz_X p s m args meth c cX3_placeOf 3 RX3 g b (some .int)) (hRf : 0 ≤ R.frames) (hRl : 0 ≤ R.locals) {r0 : Int32} {a0 : Nat} {x1 : Int32} {M : cz_M} (ka0 : cz_K b a0 3)
    (K : Int32 → Option (Int32)) (hX : ∀ (x2 : Int32) (H : Heap) (locs : List Loc) (ls : Array Slot), K x2 = some r0 → cz_WS g b M s H locs → lv_has ls 3 [(0, .ref a0), (1, .int x1), (2, .int x2)] → W p l e R s m args below meth c H locs 0 0 (MQ below (cz_Q g b (some (.int r0)) M) args s 0 0 (fun q => b ≤ q)) (F0 m 28 ls [])) :
    ∀ (n : Nat) (x2 : Int32) (H : Heap) (locs : List Loc) (ls : Array Slot), cz_it1 (f_X3_placeOf_L2 a0 x1 M K) n x2 = some r0 → cz_WS g b M s H locs → lv_has ls 3 [(0, .ref a0), (1, .int x1), (2, .int x2)] → W p l e R s m args below meth c H locs 0 0 (MQ below (cz_Q g b (some (.int r0)) M) args s 0 0 (fun q => b ≤ q)) (F0 m 2 ls []) := by
  obtain ⟨hx, hb, -, ho, ht, -⟩ := id X
  intro n
  induction n with
  | zero => intro x2 H locs ls h; cases (show none = some _ from h)
  | succ n ih =>
    intro x2 H locs ls h hM hl
    have h : f_X3_placeOf_L2 a0 x1 M K (cz_it1 (f_X3_placeOf_L2 a0 x1 M K) n) x2 = some r0 := h
    rw [f_X3_placeOf_L2] at h
    refine lv_iload_n hx hb dX3_placeOf_2 rfl (lv_at hl 2 rfl) ?_
    refine lv_aload_n hx hb dX3_placeOf_3 rfl (lv_at hl 0 rfl) ?_
    refine cz_getI X hM ff_X3_1 ka0 lk_X3_15 dX3_placeOf_4 ?_
    refine lv_icmp_ge (tgt := 28) hx hb dX3_placeOf_7 (by decide) (fun c1 => ?_) (fun c1 => ?_)
    · have h := cz_ite_t c1 h
      exact hX _ _ _ _ h hM (lv_sub hl [0, 1, 2] rfl)
    · have h := cz_ite_f c1 h
      refine lv_aload_n hx hb dX3_placeOf_10 rfl (lv_at hl 0 rfl) ?_
      refine cz_getR X hM ff_X3_0 ka0 lk_X3_9 dX3_placeOf_11 (fun hk2 => ?_)
      refine lv_iload_n hx hb dX3_placeOf_14 rfl (lv_at hl 2 rfl) ?_
      refine cz_iald (n := 40) X hM h hk2 (by decide) dX3_placeOf_15 (fun h => ?_)
      refine lv_iload_n hx hb dX3_placeOf_16 rfl (lv_at hl 1 rfl) ?_
      refine lv_icmp_ne (tgt := 22) hx hb dX3_placeOf_17 (by decide) (fun c3 => ?_) (fun c3 => ?_)
      · have h := cz_ite_f c3 h
        refine cz_nmL (v := x2 + 1) h (fun v4 e5 h => ?_)
        refine lv_iinc (v := v4) (lv' := [(2, .int v4), (0, .ref a0), (1, .int x1)]) hx hb dX3_placeOf_22 hl (k := 2) rfl (by rw [e5]; rfl) (by decide) rfl (fun ls hl => ?_)
        refine lv_goto (tgt := 2) hx hb dX3_placeOf_25 (by decide) ?_
        exact ih _ _ _ _ h hM (lv_sub hl [1, 2, 0] rfl)
      · have h := cz_ite_t c3 h
        refine lv_iload_n hx hb dX3_placeOf_20 rfl (lv_at hl 2 rfl) ?_
        exact cz_retp X hM h rfl dX3_placeOf_21
set_option maxHeartbeats 4000000 in
set_option maxRecDepth 100000 in
theorem c_X3_placeOf {l : Launch} {g : cz_G} {b : Nat} {M : cz_M} {r0 : Int32} {a : Nat} {x1 : Int32} (ka : cz_K b a 3) (h : f_X3_placeOf M a x1 = some r0) : cz_C l yX3_placeOf cX3_placeOf 3 (some .int) 0 0 g b [.ref a, .int x1] M (some (.int r0)) M := by
  refine cz_start (by decide) (Nat.le_of_ble_eq_true rfl) (fun p e s m args below meth c X H ls hM hl => ?_)
  have X : cz_X p s m args meth c cX3_placeOf 3 RX3 g b (some .int) := X
  obtain ⟨hx, hb, -, ho, ht, -⟩ := id X
  have hRf : 0 ≤ ({ frames := 0, cells := 0, slots := 0, locals := 0 } : Room).frames := Nat.le_refl _
  have hRl : 0 ≤ ({ frames := 0, cells := 0, slots := 0, locals := 0 } : Room).locals := Nat.le_refl _
  have hl : lv_has ls 3 [(0, .ref a), (1, .int x1)] := hl
  rw [f_X3_placeOf] at h
  refine lv_iconst (v := 0) hx hb dX3_placeOf_0 (by decide) ?_
  refine lv_istore_n (lv' := [(2, .int (0 : Int32)), (0, .ref a), (1, .int x1)]) hx hb dX3_placeOf_1 rfl hl (by decide) rfl (fun ls hl => ?_)
  refine w_X3_placeOf_L2 X hRf hRl ka _ (fun x6 H locs ls h hM hl => ?_) _ _ _ _ _ h hM (lv_sub hl [1, 2, 0] rfl)
  refine lv_bipush (v := -6) hx hb dX3_placeOf_28 (by decide) ?_
  exact cz_retp X hM h rfl dX3_placeOf_30
theorem mv_X4_remember : cz_MV yX4_remember cX4_remember 3 none RX4 0 := ⟨mi_X4_remember, ms_X4_remember, mc_X4_remember, ini_X4, by decide +kernel⟩
set_option maxHeartbeats 4000000 in
set_option maxRecDepth 100000 in
theorem w_X4_remember_L17 {p : Program} {l : Launch} {e : Env} {R : Room} {s : State} {m : MethodId} {args : Array Value} {below : List Frame} {meth : Method} {c : Code} {g : cz_G} {b : Nat} (X : cz_X p s m args meth c cX4_remember 3 RX4 g b none) (hRf : 3 ≤ R.frames) (hRl : 91 ≤ R.locals) {M9 : cz_M} {a0 : Nat} {a1 : Nat} (ka0 : cz_K b a0 4) (ka1 : cz_K b a1 2)
    (K : Int32 → cz_M → Option (cz_M)) (hX : ∀ (x2 : Int32) (M : cz_M) (H : Heap) (locs : List Loc) (ls : Array Slot), K x2 M = some M9 → cz_WS g b M s H locs → lv_has ls 3 [(0, .ref a0), (1, .ref a1), (2, .int x2)] → W p l e R s m args below meth c H locs 0 0 (MQ below (cz_Q g b none M9) args s 0 0 (fun q => b ≤ q)) (F0 m 42 ls [])) :
    ∀ (n : Nat) (x2 : Int32) (M : cz_M) (H : Heap) (locs : List Loc) (ls : Array Slot), cz_it2 (f_X4_remember_L17 a0 a1 K) n x2 M = some M9 → cz_WS g b M s H locs → lv_has ls 3 [(0, .ref a0), (1, .ref a1), (2, .int x2)] → W p l e R s m args below meth c H locs 0 0 (MQ below (cz_Q g b none M9) args s 0 0 (fun q => b ≤ q)) (F0 m 17 ls []) := by
  obtain ⟨hx, hb, -, ho, ht, -⟩ := id X
  intro n
  induction n with
  | zero => intro x2 M H locs ls h; cases (show none = some _ from h)
  | succ n ih =>
    intro x2 M H locs ls h hM hl
    have h : f_X4_remember_L17 a0 a1 K (cz_it2 (f_X4_remember_L17 a0 a1 K) n) x2 M = some M9 := h
    rw [f_X4_remember_L17] at h
    refine lv_iload_n hx hb dX4_remember_17 rfl (lv_at hl 2 rfl) ?_
    refine lv_iconst (v := 4) hx hb dX4_remember_18 (by decide) ?_
    refine lv_icmp_ge (tgt := 42) hx hb dX4_remember_19 (by decide) (fun c11 => ?_) (fun c11 => ?_)
    · have h := cz_ite_t c11 h
      exact hX _ _ _ _ _ h hM (lv_sub hl [0, 1, 2] rfl)
    · have h := cz_ite_f c11 h
      refine lv_aload_n hx hb dX4_remember_22 rfl (lv_at hl 0 rfl) ?_
      refine cz_getR X hM ff_X4_2 ka0 lk_X4_19 dX4_remember_23 (fun hk12 => ?_)
      refine lv_iload_n hx hb dX4_remember_26 rfl (lv_at hl 2 rfl) ?_
      refine lv_iconst (v := 1) hx hb dX4_remember_27 (by decide) ?_
      refine lv_isub hx hb dX4_remember_28 ?_
      refine lv_aload_n hx hb dX4_remember_29 rfl (lv_at hl 0 rfl) ?_
      refine cz_getR X hM ff_X4_2 ka0 lk_X4_19 dX4_remember_30 (fun hk13 => ?_)
      refine lv_iload_n hx hb dX4_remember_33 rfl (lv_at hl 2 rfl) ?_
      refine cz_aald3 X hM h hk13 dX4_remember_34 (fun h hk14 => ?_)
      refine cz_aast X hM h hk12 hk14 dX4_remember_35 (fun M15 H locs h hM => ?_)
      refine cz_nmL (v := x2 + 1) h (fun v16 e17 h => ?_)
      refine lv_iinc (v := v16) (lv' := [(2, .int v16), (0, .ref a0), (1, .ref a1)]) hx hb dX4_remember_36 hl (k := 2) rfl (by rw [e17]; rfl) (by decide) rfl (fun ls hl => ?_)
      refine lv_goto (tgt := 17) hx hb dX4_remember_39 (by decide) ?_
      exact ih _ _ _ _ _ h hM (lv_sub hl [1, 2, 0] rfl)
set_option maxHeartbeats 4000000 in
set_option maxRecDepth 100000 in
theorem c_X4_remember {l : Launch} {g : cz_G} {b : Nat} {M : cz_M} {M9 : cz_M} {a : Nat} (ka : cz_K b a 4) (h : f_X4_remember M a = some M9) : cz_C l yX4_remember cX4_remember 3 none 3 91 g b [.ref a] M none M9 := by
  refine cz_start (by decide) (Nat.le_of_ble_eq_true rfl) (fun p e s m args below meth c X H ls hM hl => ?_)
  have X : cz_X p s m args meth c cX4_remember 3 RX4 g b none := X
  obtain ⟨hx, hb, -, ho, ht, -⟩ := id X
  have hRf : 3 ≤ ({ frames := 3, cells := 0, slots := 0, locals := 91 } : Room).frames := Nat.le_refl _
  have hRl : 91 ≤ ({ frames := 3, cells := 0, slots := 0, locals := 91 } : Room).locals := Nat.le_refl _
  have hl : lv_has ls 3 [(0, .ref a)] := hl
  rw [f_X4_remember] at h
  refine lv_aload_n hx hb dX4_remember_0 rfl (lv_at hl 0 rfl) ?_
  refine cz_getI X hM ff_X4_6 ka lk_X4_191 dX4_remember_1 ?_
  refine lv_iconst (v := 4) hx hb dX4_remember_4 (by decide) ?_
  refine lv_icmp_ne (tgt := 59) hx hb dX4_remember_5 (by decide) (fun c1 => ?_) (fun c1 => ?_)
  · have h := cz_ite_f c1 h
    refine lv_aload_n hx hb dX4_remember_59 rfl (lv_at hl 0 rfl) ?_
    refine cz_getR X hM ff_X4_2 ka lk_X4_19 dX4_remember_60 (fun hk2 => ?_)
    refine lv_aload_n hx hb dX4_remember_63 rfl (lv_at hl 0 rfl) ?_
    refine cz_getI X hM ff_X4_6 ka lk_X4_191 dX4_remember_64 ?_
    refine cz_aald3 X hM h hk2 dX4_remember_67 (fun h hk3 => ?_)
    refine lv_aload_n hx hb dX4_remember_68 rfl (lv_at hl 0 rfl) ?_
    refine cz_getR X hM ff_X4_0 ka lk_X4_12 dX4_remember_69 (fun hk4 => ?_)
    obtain ⟨M5, hq, h⟩ := cz_bd_t h
    refine cz_runV (rest := []) (As := [.ref (a + 1)]) (T := TX2) (N0 := 9) X hM hl.1 (c_X2_copyFrom (l := l) (g := g) (b := b) hk3 hk4 hq) mv_X2_copyFrom rfl (by decide) hk3 ml_X4_194 ⟨Nat.le_trans (Nat.le_of_ble_eq_true rfl) hRf, Nat.le_trans (Nat.le_of_ble_eq_true rfl) hRl⟩ rfl rfl (Nat.le_of_ble_eq_true rfl) dX4_remember_72 (fun H locs hM => ?_)
    refine lv_aload_n hx hb dX4_remember_75 rfl (lv_at hl 0 rfl) ?_
    refine lv_dup hx hb dX4_remember_76 rfl ?_
    refine cz_getI X hM ff_X4_6 ka lk_X4_191 dX4_remember_77 ?_
    refine lv_iconst (v := 1) hx hb dX4_remember_80 (by decide) ?_
    refine lv_iadd hx hb dX4_remember_81 ?_
    refine cz_putI X hM h ff_X4_6 ka lk_X4_191 dX4_remember_82 (fun M6 H locs h hM => ?_)
    exact cz_retv X hM h dX4_remember_85
  · have h := cz_ite_t c1 h
    refine lv_aload_n hx hb dX4_remember_8 rfl (lv_at hl 0 rfl) ?_
    refine cz_getR X hM ff_X4_2 ka lk_X4_19 dX4_remember_9 (fun hk7 => ?_)
    refine lv_iconst (v := 0) hx hb dX4_remember_12 (by decide) ?_
    refine cz_aald3 X hM h hk7 dX4_remember_13 (fun h hk8 => ?_)
    refine cz_nmr h hk8 (fun r9 h hk10 => ?_)
    refine lv_astore_n (lv' := [(1, .ref r9), (0, .ref a)]) hx hb dX4_remember_14 rfl hl (by decide) rfl (fun ls hl => ?_)
    refine lv_iconst (v := 1) hx hb dX4_remember_15 (by decide) ?_
    refine lv_istore_n (lv' := [(2, .int (1 : Int32)), (1, .ref r9), (0, .ref a)]) hx hb dX4_remember_16 rfl hl (by decide) rfl (fun ls hl => ?_)
    refine w_X4_remember_L17 X hRf hRl ka hk10 _ (fun x18 M19 H locs ls h hM hl => ?_) _ _ _ _ _ _ h hM (lv_sub hl [2, 1, 0] rfl)
    refine lv_aload_n hx hb dX4_remember_42 rfl (lv_at hl 0 rfl) ?_
    refine cz_getR X hM ff_X4_2 ka lk_X4_19 dX4_remember_43 (fun hk20 => ?_)
    refine lv_iconst (v := 3) hx hb dX4_remember_46 (by decide) ?_
    refine lv_aload_n hx hb dX4_remember_47 rfl (lv_at hl 1 rfl) ?_
    refine cz_aast X hM h hk20 hk10 dX4_remember_48 (fun M21 H locs h hM => ?_)
    refine lv_aload_n hx hb dX4_remember_49 rfl (lv_at hl 0 rfl) ?_
    refine lv_dup hx hb dX4_remember_50 rfl ?_
    refine cz_getI X hM ff_X4_6 ka lk_X4_191 dX4_remember_51 ?_
    refine lv_iconst (v := 1) hx hb dX4_remember_54 (by decide) ?_
    refine lv_isub hx hb dX4_remember_55 ?_
    refine cz_putI X hM h ff_X4_6 ka lk_X4_191 dX4_remember_56 (fun M22 H locs h hM => ?_)
    refine lv_aload_n hx hb dX4_remember_59 rfl (lv_at hl 0 rfl) ?_
    refine cz_getR X hM ff_X4_2 ka lk_X4_19 dX4_remember_60 (fun hk23 => ?_)
    refine lv_aload_n hx hb dX4_remember_63 rfl (lv_at hl 0 rfl) ?_
    refine cz_getI X hM ff_X4_6 ka lk_X4_191 dX4_remember_64 ?_
    refine cz_aald3 X hM h hk23 dX4_remember_67 (fun h hk24 => ?_)
    refine lv_aload_n hx hb dX4_remember_68 rfl (lv_at hl 0 rfl) ?_
    refine cz_getR X hM ff_X4_0 ka lk_X4_12 dX4_remember_69 (fun hk25 => ?_)
    obtain ⟨M26, hq, h⟩ := cz_bd_t h
    refine cz_runV (rest := []) (As := [.ref (a + 1)]) (T := TX2) (N0 := 9) X hM hl.1 (c_X2_copyFrom (l := l) (g := g) (b := b) hk24 hk25 hq) mv_X2_copyFrom rfl (by decide) hk24 ml_X4_194 ⟨Nat.le_trans (Nat.le_of_ble_eq_true rfl) hRf, Nat.le_trans (Nat.le_of_ble_eq_true rfl) hRl⟩ rfl rfl (Nat.le_of_ble_eq_true rfl) dX4_remember_72 (fun H locs hM => ?_)
    refine lv_aload_n hx hb dX4_remember_75 rfl (lv_at hl 0 rfl) ?_
    refine lv_dup hx hb dX4_remember_76 rfl ?_
    refine cz_getI X hM ff_X4_6 ka lk_X4_191 dX4_remember_77 ?_
    refine lv_iconst (v := 1) hx hb dX4_remember_80 (by decide) ?_
    refine lv_iadd hx hb dX4_remember_81 ?_
    refine cz_putI X hM h ff_X4_6 ka lk_X4_191 dX4_remember_82 (fun M27 H locs h hM => ?_)
    exact cz_retv X hM h dX4_remember_85
theorem mv_X4_set : cz_MV yX4_set cX4_set 4 (some .int) RX4 2 := ⟨mi_X4_set, ms_X4_set, mc_X4_set, ini_X4, by decide +kernel⟩
set_option maxHeartbeats 4000000 in
set_option maxRecDepth 100000 in
theorem c_X4_set {l : Launch} {g : cz_G} {b : Nat} {M : cz_M} {r0 : Int32} {M9 : cz_M} {a : Nat} {x1 : Int32} {x2 : Int32} (ka : cz_K b a 4) (h : f_X4_set M a x1 x2 = some (r0, M9)) : cz_C l yX4_set cX4_set 4 (some .int) 4 113 g b [.ref a, .int x1, .int x2] M (some (.int r0)) M9 := by
  refine cz_start (by decide) (Nat.le_of_ble_eq_true rfl) (fun p e s m args below meth c X H ls hM hl => ?_)
  have X : cz_X p s m args meth c cX4_set 4 RX4 g b (some .int) := X
  obtain ⟨hx, hb, -, ho, ht, -⟩ := id X
  have hRf : 4 ≤ ({ frames := 4, cells := 0, slots := 0, locals := 113 } : Room).frames := Nat.le_refl _
  have hRl : 113 ≤ ({ frames := 4, cells := 0, slots := 0, locals := 113 } : Room).locals := Nat.le_refl _
  have hl : lv_has ls 4 [(0, .ref a), (1, .int x1), (2, .int x2)] := hl
  rw [f_X4_set] at h
  refine lv_iload_n hx hb dX4_set_0 rfl (lv_at hl 1 rfl) ?_
  refine lv_if_lt (tgt := 9) hx hb dX4_set_1 (by decide) (fun c1 => ?_) (fun c1 => ?_)
  · have h := cz_ite_t c1 h
    refine lv_bipush (v := -2) hx hb dX4_set_9 (by decide) ?_
    exact cz_reti X hM h rfl dX4_set_11
  · have h := cz_ite_f c1 h
    refine lv_iload_n hx hb dX4_set_4 rfl (lv_at hl 1 rfl) ?_
    refine lv_iconst (v := 3) hx hb dX4_set_5 (by decide) ?_
    refine lv_icmp_lt (tgt := 12) hx hb dX4_set_6 (by decide) (fun c2 => ?_) (fun c2 => ?_)
    · have h := cz_ite_t c2 h
      refine lv_iload_n hx hb dX4_set_12 rfl (lv_at hl 2 rfl) ?_
      refine cz_stL X hM lk_X4_34 dX4_set_13 (fun t3 hT4 => ?_)
      refine lv_iload_n hx hb dX4_set_16 rfl (lv_at hl 1 rfl) ?_
      refine cz_stld (f := cz_tL) X hM hT4 h dX4_set_17 (fun h => ?_)
      refine lv_icmp_lt (tgt := 30) hx hb dX4_set_18 (by decide) (fun c5 => ?_) (fun c5 => ?_)
      · have h := cz_ite_t c5 h
        refine lv_bipush (v := -2) hx hb dX4_set_30 (by decide) ?_
        exact cz_reti X hM h rfl dX4_set_32
      · have h := cz_ite_f c5 h
        refine lv_iload_n hx hb dX4_set_21 rfl (lv_at hl 2 rfl) ?_
        refine cz_stM X hM lk_X4_38 dX4_set_22 (fun t6 hT7 => ?_)
        refine lv_iload_n hx hb dX4_set_25 rfl (lv_at hl 1 rfl) ?_
        refine cz_stld (f := cz_tM) X hM hT7 h dX4_set_26 (fun h => ?_)
        refine lv_icmp_le (tgt := 33) hx hb dX4_set_27 (by decide) (fun c8 => ?_) (fun c8 => ?_)
        · have h := cz_ite_t c8 h
          refine lv_aload_n hx hb dX4_set_33 rfl (lv_at hl 0 rfl) ?_
          obtain ⟨M9, hq, h⟩ := cz_bd_t h
          refine cz_runV (rest := []) (As := []) (T := TX4) (N0 := 8) X hM hl.1 (c_X4_remember (l := l) (g := g) (b := b) ka hq) mv_X4_remember rfl (by decide) ka ml_X4_41 ⟨Nat.le_trans (Nat.le_of_ble_eq_true rfl) hRf, Nat.le_trans (Nat.le_of_ble_eq_true rfl) hRl⟩ rfl rfl (Nat.le_of_ble_eq_true rfl) dX4_set_34 (fun H locs hM => ?_)
          refine lv_aload_n hx hb dX4_set_37 rfl (lv_at hl 0 rfl) ?_
          refine cz_getR X hM ff_X4_0 ka lk_X4_12 dX4_set_38 (fun hk10 => ?_)
          refine cz_getR X hM ff_X2_0 hk10 lk_X4_44 dX4_set_41 (fun hk11 => ?_)
          refine lv_iload_n hx hb dX4_set_44 rfl (lv_at hl 1 rfl) ?_
          refine cz_iald (n := 3) X hM h hk11 (by decide) dX4_set_45 (fun h => ?_)
          refine cz_nmi h (fun v12 h => ?_)
          refine lv_istore_n (lv' := [(3, .int v12), (0, .ref a), (1, .int x1), (2, .int x2)]) hx hb dX4_set_46 rfl hl (by decide) rfl (fun ls hl => ?_)
          refine lv_aload_n hx hb dX4_set_47 rfl (lv_at hl 1 rfl) ?_
          refine cz_getR X hM ff_X4_0 ka lk_X4_12 dX4_set_48 (fun hk13 => ?_)
          refine cz_getR X hM ff_X2_0 hk13 lk_X4_44 dX4_set_51 (fun hk14 => ?_)
          refine lv_iload_n hx hb dX4_set_54 rfl (lv_at hl 2 rfl) ?_
          refine lv_iload_n hx hb dX4_set_55 rfl (lv_at hl 3 rfl) ?_
          refine cz_iast (n := 3) X hM h hk14 (by decide) dX4_set_56 (fun M15 H locs h hM => ?_)
          refine lv_iload_n hx hb dX4_set_57 rfl (lv_at hl 0 rfl) ?_
          exact cz_reti X hM h rfl dX4_set_58
        · have h := cz_ite_f c8 h
          refine lv_bipush (v := -2) hx hb dX4_set_30 (by decide) ?_
          exact cz_reti X hM h rfl dX4_set_32
    · have h := cz_ite_f c2 h
      refine lv_bipush (v := -2) hx hb dX4_set_9 (by decide) ?_
      exact cz_reti X hM h rfl dX4_set_11
theorem mv_X4_strike : cz_MV yX4_strike cX4_strike 4 (some .int) RX4 2 := ⟨mi_X4_strike, ms_X4_strike, mc_X4_strike, ini_X4, by decide +kernel⟩
set_option maxHeartbeats 4000000 in
set_option maxRecDepth 100000 in
theorem c_X4_strike {l : Launch} {g : cz_G} {b : Nat} {M : cz_M} {r0 : Int32} {M9 : cz_M} {a : Nat} {x1 : Int32} {x2 : Int32} (ka : cz_K b a 4) (h : f_X4_strike M a x1 x2 = some (r0, M9)) : cz_C l yX4_strike cX4_strike 4 (some .int) 4 113 g b [.ref a, .int x1, .int x2] M (some (.int r0)) M9 := by
  refine cz_start (by decide) (Nat.le_of_ble_eq_true rfl) (fun p e s m args below meth c X H ls hM hl => ?_)
  have X : cz_X p s m args meth c cX4_strike 4 RX4 g b (some .int) := X
  obtain ⟨hx, hb, -, ho, ht, -⟩ := id X
  have hRf : 4 ≤ ({ frames := 4, cells := 0, slots := 0, locals := 113 } : Room).frames := Nat.le_refl _
  have hRl : 113 ≤ ({ frames := 4, cells := 0, slots := 0, locals := 113 } : Room).locals := Nat.le_refl _
  have hl : lv_has ls 4 [(0, .ref a), (1, .int x1), (2, .int x2)] := hl
  rw [f_X4_strike] at h
  refine lv_iload_n hx hb dX4_strike_0 rfl (lv_at hl 1 rfl) ?_
  refine lv_if_lt (tgt := 19) hx hb dX4_strike_1 (by decide) (fun c1 => ?_) (fun c1 => ?_)
  · have h := cz_ite_t c1 h
    refine lv_iconst (v := -1) hx hb dX4_strike_19 (by decide) ?_
    exact cz_reti X hM h rfl dX4_strike_20
  · have h := cz_ite_f c1 h
    refine lv_iload_n hx hb dX4_strike_4 rfl (lv_at hl 1 rfl) ?_
    refine lv_iconst (v := 4) hx hb dX4_strike_5 (by decide) ?_
    refine lv_icmp_ge (tgt := 19) hx hb dX4_strike_6 (by decide) (fun c2 => ?_) (fun c2 => ?_)
    · have h := cz_ite_t c2 h
      refine lv_iconst (v := -1) hx hb dX4_strike_19 (by decide) ?_
      exact cz_reti X hM h rfl dX4_strike_20
    · have h := cz_ite_f c2 h
      refine lv_iload_n hx hb dX4_strike_9 rfl (lv_at hl 2 rfl) ?_
      refine lv_if_lt (tgt := 19) hx hb dX4_strike_10 (by decide) (fun c3 => ?_) (fun c3 => ?_)
      · have h := cz_ite_t c3 h
        refine lv_iconst (v := -1) hx hb dX4_strike_19 (by decide) ?_
        exact cz_reti X hM h rfl dX4_strike_20
      · have h := cz_ite_f c3 h
        refine lv_iload_n hx hb dX4_strike_13 rfl (lv_at hl 2 rfl) ?_
        refine lv_bipush (v := 26) hx hb dX4_strike_14 (by decide) ?_
        refine lv_icmp_lt (tgt := 21) hx hb dX4_strike_16 (by decide) (fun c4 => ?_) (fun c4 => ?_)
        · have h := cz_ite_t c4 h
          refine lv_aload_n hx hb dX4_strike_21 rfl (lv_at hl 0 rfl) ?_
          obtain ⟨M5, hq, h⟩ := cz_bd_t h
          refine cz_runV (rest := []) (As := []) (T := TX4) (N0 := 8) X hM hl.1 (c_X4_remember (l := l) (g := g) (b := b) ka hq) mv_X4_remember rfl (by decide) ka ml_X4_41 ⟨Nat.le_trans (Nat.le_of_ble_eq_true rfl) hRf, Nat.le_trans (Nat.le_of_ble_eq_true rfl) hRl⟩ rfl rfl (Nat.le_of_ble_eq_true rfl) dX4_strike_22 (fun H locs hM => ?_)
          refine lv_aload_n hx hb dX4_strike_25 rfl (lv_at hl 0 rfl) ?_
          refine cz_getR X hM ff_X4_0 ka lk_X4_12 dX4_strike_26 (fun hk6 => ?_)
          refine cz_getR X hM ff_X2_1 hk6 lk_X4_47 dX4_strike_29 (fun hk7 => ?_)
          refine lv_iload_n hx hb dX4_strike_32 rfl (lv_at hl 1 rfl) ?_
          refine cz_aald0 X hM h hk7 dX4_strike_33 (fun h hk8 => ?_)
          refine cz_nmr h hk8 (fun r9 h hk10 => ?_)
          refine lv_astore_n (lv' := [(3, .ref r9), (0, .ref a), (1, .int x1), (2, .int x2)]) hx hb dX4_strike_34 rfl hl (by decide) rfl (fun ls hl => ?_)
          refine lv_aload_n hx hb dX4_strike_35 rfl (lv_at hl 0 rfl) ?_
          refine lv_aload_n hx hb dX4_strike_36 rfl (lv_at hl 0 rfl) ?_
          refine cz_getI X hM ff_X0_0 hk10 lk_X4_51 dX4_strike_37 ?_
          refine lv_iconst (v := 1) hx hb dX4_strike_40 (by decide) ?_
          refine lv_iload_n hx hb dX4_strike_41 rfl (lv_at hl 3 rfl) ?_
          refine lv_ishl hx hb dX4_strike_42 ?_
          refine lv_ixor hx hb dX4_strike_43 ?_
          refine cz_putI X hM h ff_X0_0 hk10 lk_X4_51 dX4_strike_44 (fun M11 H locs h hM => ?_)
          refine lv_aload_n hx hb dX4_strike_47 rfl (lv_at hl 0 rfl) ?_
          refine cz_getI X hM ff_X0_0 hk10 lk_X4_51 dX4_strike_48 ?_
          obtain ⟨v12, hq, h⟩ := cz_bd_t h
          refine cz_runS (rest := []) (As := [.int (M11.1 r9 0)]) X hM hl.1 (c_J6_bitCount_0f7a4 (l := l) (g := g) (b := b)  hq) mv_J6_bitCount_0f7a4 ml_X4_57 ⟨Nat.le_trans (Nat.le_of_ble_eq_true rfl) hRf, Nat.le_trans (Nat.le_of_ble_eq_true rfl) hRl⟩ rfl rfl (Nat.le_of_ble_eq_true rfl) dX4_strike_51 (fun H locs hM => ?_)
          exact cz_reti X hM h rfl dX4_strike_54
        · have h := cz_ite_f c4 h
          refine lv_iconst (v := -1) hx hb dX4_strike_19 (by decide) ?_
          exact cz_reti X hM h rfl dX4_strike_20
theorem mv_X4_trade : cz_MV yX4_trade cX4_trade 3 (some .int) RX4 2 := ⟨mi_X4_trade, ms_X4_trade, mc_X4_trade, ini_X4, by decide +kernel⟩
set_option maxHeartbeats 4000000 in
set_option maxRecDepth 100000 in
theorem c_X4_trade {l : Launch} {g : cz_G} {b : Nat} {M : cz_M} {r0 : Int32} {M9 : cz_M} {a : Nat} {x1 : Int32} {x2 : Int32} (ka : cz_K b a 4) (h : f_X4_trade M a x1 x2 = some (r0, M9)) : cz_C l yX4_trade cX4_trade 3 (some .int) 4 113 g b [.ref a, .int x1, .int x2] M (some (.int r0)) M9 := by
  refine cz_start (by decide) (Nat.le_of_ble_eq_true rfl) (fun p e s m args below meth c X H ls hM hl => ?_)
  have X : cz_X p s m args meth c cX4_trade 3 RX4 g b (some .int) := X
  obtain ⟨hx, hb, -, ho, ht, -⟩ := id X
  have hRf : 4 ≤ ({ frames := 4, cells := 0, slots := 0, locals := 113 } : Room).frames := Nat.le_refl _
  have hRl : 113 ≤ ({ frames := 4, cells := 0, slots := 0, locals := 113 } : Room).locals := Nat.le_refl _
  have hl : lv_has ls 3 [(0, .ref a), (1, .int x1), (2, .int x2)] := hl
  rw [f_X4_trade] at h
  refine lv_iload_n hx hb dX4_trade_0 rfl (lv_at hl 1 rfl) ?_
  refine lv_if_lt (tgt := 20) hx hb dX4_trade_1 (by decide) (fun c1 => ?_) (fun c1 => ?_)
  · have h := cz_ite_t c1 h
    refine lv_iconst (v := -1) hx hb dX4_trade_20 (by decide) ?_
    exact cz_reti X hM h rfl dX4_trade_21
  · have h := cz_ite_f c1 h
    refine lv_iload_n hx hb dX4_trade_4 rfl (lv_at hl 1 rfl) ?_
    refine lv_bipush (v := 8) hx hb dX4_trade_5 (by decide) ?_
    refine lv_icmp_ge (tgt := 20) hx hb dX4_trade_7 (by decide) (fun c2 => ?_) (fun c2 => ?_)
    · have h := cz_ite_t c2 h
      refine lv_iconst (v := -1) hx hb dX4_trade_20 (by decide) ?_
      exact cz_reti X hM h rfl dX4_trade_21
    · have h := cz_ite_f c2 h
      refine lv_iload_n hx hb dX4_trade_10 rfl (lv_at hl 2 rfl) ?_
      refine lv_if_lt (tgt := 20) hx hb dX4_trade_11 (by decide) (fun c3 => ?_) (fun c3 => ?_)
      · have h := cz_ite_t c3 h
        refine lv_iconst (v := -1) hx hb dX4_trade_20 (by decide) ?_
        exact cz_reti X hM h rfl dX4_trade_21
      · have h := cz_ite_f c3 h
        refine lv_iload_n hx hb dX4_trade_14 rfl (lv_at hl 2 rfl) ?_
        refine lv_bipush (v := 8) hx hb dX4_trade_15 (by decide) ?_
        refine lv_icmp_lt (tgt := 22) hx hb dX4_trade_17 (by decide) (fun c4 => ?_) (fun c4 => ?_)
        · have h := cz_ite_t c4 h
          refine lv_aload_n hx hb dX4_trade_22 rfl (lv_at hl 0 rfl) ?_
          refine cz_getR X hM ff_X4_0 ka lk_X4_12 dX4_trade_23 (fun hk5 => ?_)
          refine cz_getR X hM ff_X2_2 hk5 lk_X4_63 dX4_trade_26 (fun hk6 => ?_)
          refine lv_iload_n hx hb dX4_trade_29 rfl (lv_at hl 1 rfl) ?_
          refine cz_iald (n := 8) X hM h hk6 (by decide) dX4_trade_30 (fun h => ?_)
          refine lv_aload_n hx hb dX4_trade_31 rfl (lv_at hl 0 rfl) ?_
          refine cz_getR X hM ff_X4_0 ka lk_X4_12 dX4_trade_32 (fun hk7 => ?_)
          refine cz_getR X hM ff_X2_2 hk7 lk_X4_63 dX4_trade_35 (fun hk8 => ?_)
          refine lv_iload_n hx hb dX4_trade_38 rfl (lv_at hl 2 rfl) ?_
          refine cz_iald (n := 8) X hM h hk8 (by decide) dX4_trade_39 (fun h => ?_)
          refine lv_icmp_ne (tgt := 46) hx hb dX4_trade_40 (by decide) (fun c9 => ?_) (fun c9 => ?_)
          · have h := cz_ite_f c9 h
            refine lv_aload_n hx hb dX4_trade_46 rfl (lv_at hl 0 rfl) ?_
            obtain ⟨M10, hq, h⟩ := cz_bd_t h
            refine cz_runV (rest := []) (As := []) (T := TX4) (N0 := 8) X hM hl.1 (c_X4_remember (l := l) (g := g) (b := b) ka hq) mv_X4_remember rfl (by decide) ka ml_X4_41 ⟨Nat.le_trans (Nat.le_of_ble_eq_true rfl) hRf, Nat.le_trans (Nat.le_of_ble_eq_true rfl) hRl⟩ rfl rfl (Nat.le_of_ble_eq_true rfl) dX4_trade_47 (fun H locs hM => ?_)
            refine lv_aload_n hx hb dX4_trade_50 rfl (lv_at hl 0 rfl) ?_
            refine cz_getR X hM ff_X4_0 ka lk_X4_12 dX4_trade_51 (fun hk11 => ?_)
            refine lv_iload_n hx hb dX4_trade_54 rfl (lv_at hl 1 rfl) ?_
            refine lv_iload_n hx hb dX4_trade_55 rfl (lv_at hl 2 rfl) ?_
            obtain ⟨M12, hq, h⟩ := cz_bd_t h
            refine cz_runV (rest := []) (As := [.int x1, .int x2]) (T := TX2) (N0 := 9) X hM hl.1 (c_X2_tradeShifts (l := l) (g := g) (b := b) hk11 hq) mv_X2_tradeShifts rfl (by decide) hk11 ml_X4_66 ⟨Nat.le_trans (Nat.le_of_ble_eq_true rfl) hRf, Nat.le_trans (Nat.le_of_ble_eq_true rfl) hRl⟩ rfl rfl (Nat.le_of_ble_eq_true rfl) dX4_trade_56 (fun H locs hM => ?_)
            refine lv_aload_n hx hb dX4_trade_59 rfl (lv_at hl 0 rfl) ?_
            refine cz_getR X hM ff_X4_0 ka lk_X4_12 dX4_trade_60 (fun hk13 => ?_)
            refine cz_getR X hM ff_X2_2 hk13 lk_X4_63 dX4_trade_63 (fun hk14 => ?_)
            refine lv_iload_n hx hb dX4_trade_66 rfl (lv_at hl 1 rfl) ?_
            refine cz_iald (n := 8) X hM h hk14 (by decide) dX4_trade_67 (fun h => ?_)
            exact cz_reti X hM h rfl dX4_trade_68
          · have h := cz_ite_t c9 h
            refine lv_bipush (v := -5) hx hb dX4_trade_43 (by decide) ?_
            exact cz_reti X hM h rfl dX4_trade_45
        · have h := cz_ite_f c4 h
          refine lv_iconst (v := -1) hx hb dX4_trade_20 (by decide) ?_
          exact cz_reti X hM h rfl dX4_trade_21
theorem mv_X4_isWord : cz_MS yX4_isWord cX4_isWord 1 (some .boolean) 1 := ⟨mt_X4_isWord, mc_X4_isWord, ini_X4, by decide +kernel⟩
set_option maxHeartbeats 4000000 in
set_option maxRecDepth 100000 in
theorem c_X4_isWord {l : Launch} {g : cz_G} {b : Nat} {M : cz_M} {r0 : Int32} {x0 : Int32}  (h : f_X4_isWord x0 = some r0) : cz_C l yX4_isWord cX4_isWord 1 (some .boolean) 0 0 g b [.int x0] M (some (.int r0)) M := by
  refine cz_start (by decide) (Nat.le_of_ble_eq_true rfl) (fun p e s m args below meth c X H ls hM hl => ?_)
  have X : cz_X p s m args meth c cX4_isWord 1 RX4 g b (some .boolean) := X
  obtain ⟨hx, hb, -, ho, ht, -⟩ := id X
  have hRf : 0 ≤ ({ frames := 0, cells := 0, slots := 0, locals := 0 } : Room).frames := Nat.le_refl _
  have hRl : 0 ≤ ({ frames := 0, cells := 0, slots := 0, locals := 0 } : Room).locals := Nat.le_refl _
  have hl : lv_has ls 1 [(0, .int x0)] := hl
  rw [f_X4_isWord] at h
  refine lv_iload_n hx hb dX4_isWord_0 rfl (lv_at hl 0 rfl) ?_
  refine lv_bipush (v := 97) hx hb dX4_isWord_1 (by decide) ?_
  refine lv_icmp_lt (tgt := 16) hx hb dX4_isWord_3 (by decide) (fun c1 => ?_) (fun c1 => ?_)
  · have h := cz_ite_t c1 h
    refine lv_iconst (v := 0) hx hb dX4_isWord_16 (by decide) ?_
    exact cz_retp X hM h rfl dX4_isWord_17
  · have h := cz_ite_f c1 h
    refine lv_iload_n hx hb dX4_isWord_6 rfl (lv_at hl 0 rfl) ?_
    refine lv_bipush (v := 122) hx hb dX4_isWord_7 (by decide) ?_
    refine lv_icmp_gt (tgt := 16) hx hb dX4_isWord_9 (by decide) (fun c2 => ?_) (fun c2 => ?_)
    · have h := cz_ite_t c2 h
      refine lv_iconst (v := 0) hx hb dX4_isWord_16 (by decide) ?_
      exact cz_retp X hM h rfl dX4_isWord_17
    · have h := cz_ite_f c2 h
      refine lv_iconst (v := 1) hx hb dX4_isWord_12 (by decide) ?_
      refine lv_goto (tgt := 17) hx hb dX4_isWord_13 (by decide) ?_
      exact cz_retp X hM h rfl dX4_isWord_17
theorem mv_X4_stageBehind : cz_MS yX4_stageBehind cX4_stageBehind 2 (some .int) 2 := ⟨mt_X4_stageBehind, mc_X4_stageBehind, ini_X4, by decide +kernel⟩
set_option maxHeartbeats 4000000 in
set_option maxRecDepth 100000 in
theorem c_X4_stageBehind {l : Launch} {g : cz_G} {b : Nat} {M : cz_M} {r0 : Int32} {x0 : Int32} {x1 : Int32}  (h : f_X4_stageBehind x0 x1 = some r0) : cz_C l yX4_stageBehind cX4_stageBehind 2 (some .int) 1 20 g b [.int x0, .int x1] M (some (.int r0)) M := by
  refine cz_start (by decide) (Nat.le_of_ble_eq_true rfl) (fun p e s m args below meth c X H ls hM hl => ?_)
  have X : cz_X p s m args meth c cX4_stageBehind 2 RX4 g b (some .int) := X
  obtain ⟨hx, hb, -, ho, ht, -⟩ := id X
  have hRf : 1 ≤ ({ frames := 1, cells := 0, slots := 0, locals := 20 } : Room).frames := Nat.le_refl _
  have hRl : 20 ≤ ({ frames := 1, cells := 0, slots := 0, locals := 20 } : Room).locals := Nat.le_refl _
  have hl : lv_has ls 2 [(0, .int x0), (1, .int x1)] := hl
  rw [f_X4_stageBehind] at h
  refine lv_iload_n hx hb dX4_stageBehind_0 rfl (lv_at hl 0 rfl) ?_
  refine lv_if_ne (tgt := 22) hx hb dX4_stageBehind_1 (by decide) (fun c1 => ?_) (fun c1 => ?_)
  · have h := cz_ite_f c1 h
    refine lv_iload_n hx hb dX4_stageBehind_22 rfl (lv_at hl 0 rfl) ?_
    refine lv_iconst (v := 1) hx hb dX4_stageBehind_23 (by decide) ?_
    refine lv_icmp_ne (tgt := 45) hx hb dX4_stageBehind_24 (by decide) (fun c2 => ?_) (fun c2 => ?_)
    · have h := cz_ite_f c2 h
      refine lv_iload_n hx hb dX4_stageBehind_45 rfl (lv_at hl 1 rfl) ?_
      obtain ⟨v3, hq, h⟩ := cz_bd_t h
      refine cz_runS (rest := []) (As := [.int x1]) X hM hl.1 (c_X4_isWord (l := l) (g := g) (b := b)  hq) mv_X4_isWord ml_X4_217 ⟨Nat.le_trans (Nat.le_of_ble_eq_true rfl) hRf, Nat.le_trans (Nat.le_of_ble_eq_true rfl) hRl⟩ rfl rfl (Nat.le_of_ble_eq_true rfl) dX4_stageBehind_46 (fun H locs hM => ?_)
      refine lv_if_eq (tgt := 66) hx hb dX4_stageBehind_49 (by decide) (fun c4 => ?_) (fun c4 => ?_)
      · have h := cz_ite_t c4 h
        refine lv_iload_n hx hb dX4_stageBehind_66 rfl (lv_at hl 1 rfl) ?_
        refine lv_bipush (v := 44) hx hb dX4_stageBehind_67 (by decide) ?_
        refine lv_icmp_ne (tgt := 81) hx hb dX4_stageBehind_69 (by decide) (fun c5 => ?_) (fun c5 => ?_)
        · have h := cz_ite_f c5 h
          refine lv_iconst (v := -1) hx hb dX4_stageBehind_81 (by decide) ?_
          exact cz_retp X hM h rfl dX4_stageBehind_82
        · have h := cz_ite_t c5 h
          refine lv_iload_n hx hb dX4_stageBehind_72 rfl (lv_at hl 0 rfl) ?_
          refine lv_iconst (v := 2) hx hb dX4_stageBehind_73 (by decide) ?_
          refine lv_icmp_le (tgt := 81) hx hb dX4_stageBehind_74 (by decide) (fun c6 => ?_) (fun c6 => ?_)
          · have h := cz_ite_t c6 h
            refine lv_iconst (v := -1) hx hb dX4_stageBehind_81 (by decide) ?_
            exact cz_retp X hM h rfl dX4_stageBehind_82
          · have h := cz_ite_f c6 h
            refine lv_iconst (v := 0) hx hb dX4_stageBehind_77 (by decide) ?_
            refine lv_goto (tgt := 82) hx hb dX4_stageBehind_78 (by decide) ?_
            exact cz_retp X hM h rfl dX4_stageBehind_82
      · have h := cz_ite_f c4 h
        refine lv_iload_n hx hb dX4_stageBehind_52 rfl (lv_at hl 0 rfl) ?_
        refine lv_bipush (v := 10) hx hb dX4_stageBehind_53 (by decide) ?_
        refine lv_icmp_ge (tgt := 64) hx hb dX4_stageBehind_55 (by decide) (fun c7 => ?_) (fun c7 => ?_)
        · have h := cz_ite_t c7 h
          refine lv_iconst (v := -1) hx hb dX4_stageBehind_64 (by decide) ?_
          exact cz_retp X hM h rfl dX4_stageBehind_65
        · have h := cz_ite_f c7 h
          refine lv_iload_n hx hb dX4_stageBehind_58 rfl (lv_at hl 0 rfl) ?_
          refine lv_iconst (v := 1) hx hb dX4_stageBehind_59 (by decide) ?_
          refine lv_iadd hx hb dX4_stageBehind_60 ?_
          refine lv_goto (tgt := 65) hx hb dX4_stageBehind_61 (by decide) ?_
          exact cz_retp X hM h rfl dX4_stageBehind_65
    · have h := cz_ite_t c2 h
      refine lv_iload_n hx hb dX4_stageBehind_27 rfl (lv_at hl 1 rfl) ?_
      refine lv_bipush (v := 62) hx hb dX4_stageBehind_28 (by decide) ?_
      refine lv_icmp_eq (tgt := 39) hx hb dX4_stageBehind_30 (by decide) (fun c8 => ?_) (fun c8 => ?_)
      · have h := cz_ite_t c8 h
        refine lv_iconst (v := 2) hx hb dX4_stageBehind_39 (by decide) ?_
        refine lv_goto (tgt := 44) hx hb dX4_stageBehind_40 (by decide) ?_
        exact cz_retp X hM h rfl dX4_stageBehind_44
      · have h := cz_ite_f c8 h
        refine lv_iload_n hx hb dX4_stageBehind_33 rfl (lv_at hl 1 rfl) ?_
        refine lv_bipush (v := 60) hx hb dX4_stageBehind_34 (by decide) ?_
        refine lv_icmp_ne (tgt := 43) hx hb dX4_stageBehind_36 (by decide) (fun c9 => ?_) (fun c9 => ?_)
        · have h := cz_ite_f c9 h
          refine lv_iconst (v := -1) hx hb dX4_stageBehind_43 (by decide) ?_
          exact cz_retp X hM h rfl dX4_stageBehind_44
        · have h := cz_ite_t c9 h
          refine lv_iconst (v := 2) hx hb dX4_stageBehind_39 (by decide) ?_
          refine lv_goto (tgt := 44) hx hb dX4_stageBehind_40 (by decide) ?_
          exact cz_retp X hM h rfl dX4_stageBehind_44
  · have h := cz_ite_t c1 h
    refine lv_iload_n hx hb dX4_stageBehind_4 rfl (lv_at hl 1 rfl) ?_
    refine lv_bipush (v := 48) hx hb dX4_stageBehind_5 (by decide) ?_
    refine lv_icmp_lt (tgt := 20) hx hb dX4_stageBehind_7 (by decide) (fun c10 => ?_) (fun c10 => ?_)
    · have h := cz_ite_t c10 h
      refine lv_iconst (v := -1) hx hb dX4_stageBehind_20 (by decide) ?_
      exact cz_retp X hM h rfl dX4_stageBehind_21
    · have h := cz_ite_f c10 h
      refine lv_iload_n hx hb dX4_stageBehind_10 rfl (lv_at hl 1 rfl) ?_
      refine lv_bipush (v := 53) hx hb dX4_stageBehind_11 (by decide) ?_
      refine lv_icmp_ge (tgt := 20) hx hb dX4_stageBehind_13 (by decide) (fun c11 => ?_) (fun c11 => ?_)
      · have h := cz_ite_t c11 h
        refine lv_iconst (v := -1) hx hb dX4_stageBehind_20 (by decide) ?_
        exact cz_retp X hM h rfl dX4_stageBehind_21
      · have h := cz_ite_f c11 h
        refine lv_iconst (v := 1) hx hb dX4_stageBehind_16 (by decide) ?_
        refine lv_goto (tgt := 21) hx hb dX4_stageBehind_17 (by decide) ?_
        exact cz_retp X hM h rfl dX4_stageBehind_21
theorem mv_X4_faultOfPad : cz_MV yX4_faultOfPad cX4_faultOfPad 3 (some .int) RX4 0 := ⟨mi_X4_faultOfPad, ms_X4_faultOfPad, mc_X4_faultOfPad, ini_X4, by decide +kernel⟩
set_option maxHeartbeats 4000000 in
set_option maxRecDepth 100000 in
theorem w_X4_faultOfPad_L4 {p : Program} {l : Launch} {e : Env} {R : Room} {s : State} {m : MethodId} {args : Array Value} {below : List Frame} {meth : Method} {c : Code} {g : cz_G} {b : Nat} (X : cz_X p s m args meth c cX4_faultOfPad 3 RX4 g b (some .int)) (hRf : 2 ≤ R.frames) (hRl : 41 ≤ R.locals) {r0 : Int32} {a0 : Nat} {M : cz_M} (ka0 : cz_K b a0 4)
    (K : Int32 → Int32 → Option (Int32)) (hX : ∀ (x1 : Int32) (x2 : Int32) (H : Heap) (locs : List Loc) (ls : Array Slot), K x1 x2 = some r0 → cz_WS g b M s H locs → lv_has ls 3 [(0, .ref a0), (1, .int x1), (2, .int x2)] → W p l e R s m args below meth c H locs 0 0 (MQ below (cz_Q g b (some (.int r0)) M) args s 0 0 (fun q => b ≤ q)) (F0 m 36 ls [])) :
    ∀ (n : Nat) (x1 : Int32) (x2 : Int32) (H : Heap) (locs : List Loc) (ls : Array Slot), cz_it2 (f_X4_faultOfPad_L4 a0 M K) n x1 x2 = some r0 → cz_WS g b M s H locs → lv_has ls 3 [(0, .ref a0), (1, .int x1), (2, .int x2)] → W p l e R s m args below meth c H locs 0 0 (MQ below (cz_Q g b (some (.int r0)) M) args s 0 0 (fun q => b ≤ q)) (F0 m 4 ls []) := by
  obtain ⟨hx, hb, -, ho, ht, -⟩ := id X
  intro n
  induction n with
  | zero => intro x1 x2 H locs ls h; cases (show none = some _ from h)
  | succ n ih =>
    intro x1 x2 H locs ls h hM hl
    have h : f_X4_faultOfPad_L4 a0 M K (cz_it2 (f_X4_faultOfPad_L4 a0 M K) n) x1 x2 = some r0 := h
    rw [f_X4_faultOfPad_L4] at h
    refine lv_iload_n hx hb dX4_faultOfPad_4 rfl (lv_at hl 2 rfl) ?_
    refine lv_aload_n hx hb dX4_faultOfPad_5 rfl (lv_at hl 0 rfl) ?_
    refine cz_getI X hM ff_X4_7 ka0 lk_X4_83 dX4_faultOfPad_6 ?_
    refine lv_icmp_ge (tgt := 36) hx hb dX4_faultOfPad_9 (by decide) (fun c1 => ?_) (fun c1 => ?_)
    · have h := cz_ite_t c1 h
      exact hX _ _ _ _ _ h hM (lv_sub hl [0, 1, 2] rfl)
    · have h := cz_ite_f c1 h
      refine lv_iload_n hx hb dX4_faultOfPad_12 rfl (lv_at hl 1 rfl) ?_
      refine lv_aload_n hx hb dX4_faultOfPad_13 rfl (lv_at hl 0 rfl) ?_
      refine cz_getR X hM ff_X4_5 ka0 lk_X4_30 dX4_faultOfPad_14 (fun hk2 => ?_)
      refine lv_iload_n hx hb dX4_faultOfPad_17 rfl (lv_at hl 2 rfl) ?_
      refine cz_cald X hM h hk2 dX4_faultOfPad_18 (fun h => ?_)
      obtain ⟨v3, hq, h⟩ := cz_bd_t h
      refine cz_runS (rest := []) (As := [.int x1, .int (M.1 (a0 + 118) (Int32.toNatClampNeg x2))]) X hM hl.1 (c_X4_stageBehind (l := l) (g := g) (b := b)  hq) mv_X4_stageBehind ml_X4_213 ⟨Nat.le_trans (Nat.le_of_ble_eq_true rfl) hRf, Nat.le_trans (Nat.le_of_ble_eq_true rfl) hRl⟩ rfl rfl (Nat.le_of_ble_eq_true rfl) dX4_faultOfPad_19 (fun H locs hM => ?_)
      refine lv_istore_n (lv' := [(1, .int v3), (0, .ref a0), (2, .int x2)]) hx hb dX4_faultOfPad_22 rfl hl (by decide) rfl (fun ls hl => ?_)
      refine lv_iload_n hx hb dX4_faultOfPad_23 rfl (lv_at hl 0 rfl) ?_
      refine lv_iconst (v := -1) hx hb dX4_faultOfPad_24 (by decide) ?_
      refine lv_icmp_ne (tgt := 30) hx hb dX4_faultOfPad_25 (by decide) (fun c4 => ?_) (fun c4 => ?_)
      · have h := cz_ite_f c4 h
        refine cz_nmL (v := x2 + 1) h (fun v5 e6 h => ?_)
        refine lv_iinc (v := v5) (lv' := [(2, .int v5), (1, .int v3), (0, .ref a0)]) hx hb dX4_faultOfPad_30 hl (k := 2) rfl (by rw [e6]; rfl) (by decide) rfl (fun ls hl => ?_)
        refine lv_goto (tgt := 4) hx hb dX4_faultOfPad_33 (by decide) ?_
        exact ih _ _ _ _ _ h hM (lv_sub hl [2, 1, 0] rfl)
      · have h := cz_ite_t c4 h
        refine lv_iload_n hx hb dX4_faultOfPad_28 rfl (lv_at hl 2 rfl) ?_
        exact cz_retp X hM h rfl dX4_faultOfPad_29
set_option maxHeartbeats 4000000 in
set_option maxRecDepth 100000 in
theorem c_X4_faultOfPad {l : Launch} {g : cz_G} {b : Nat} {M : cz_M} {r0 : Int32} {a : Nat} (ka : cz_K b a 4) (h : f_X4_faultOfPad M a = some r0) : cz_C l yX4_faultOfPad cX4_faultOfPad 3 (some .int) 2 41 g b [.ref a] M (some (.int r0)) M := by
  refine cz_start (by decide) (Nat.le_of_ble_eq_true rfl) (fun p e s m args below meth c X H ls hM hl => ?_)
  have X : cz_X p s m args meth c cX4_faultOfPad 3 RX4 g b (some .int) := X
  obtain ⟨hx, hb, -, ho, ht, -⟩ := id X
  have hRf : 2 ≤ ({ frames := 2, cells := 0, slots := 0, locals := 41 } : Room).frames := Nat.le_refl _
  have hRl : 41 ≤ ({ frames := 2, cells := 0, slots := 0, locals := 41 } : Room).locals := Nat.le_refl _
  have hl : lv_has ls 3 [(0, .ref a)] := hl
  rw [f_X4_faultOfPad] at h
  refine lv_iconst (v := 0) hx hb dX4_faultOfPad_0 (by decide) ?_
  refine lv_istore_n (lv' := [(1, .int (0 : Int32)), (0, .ref a)]) hx hb dX4_faultOfPad_1 rfl hl (by decide) rfl (fun ls hl => ?_)
  refine lv_iconst (v := 0) hx hb dX4_faultOfPad_2 (by decide) ?_
  refine lv_istore_n (lv' := [(2, .int (0 : Int32)), (1, .int (0 : Int32)), (0, .ref a)]) hx hb dX4_faultOfPad_3 rfl hl (by decide) rfl (fun ls hl => ?_)
  refine w_X4_faultOfPad_L4 X hRf hRl ka _ (fun x7 x8 H locs ls h hM hl => ?_) _ _ _ _ _ _ h hM (lv_sub hl [2, 1, 0] rfl)
  refine lv_iload_n hx hb dX4_faultOfPad_36 rfl (lv_at hl 1 rfl) ?_
  refine lv_iconst (v := 2) hx hb dX4_faultOfPad_37 (by decide) ?_
  refine lv_icmp_le (tgt := 46) hx hb dX4_faultOfPad_38 (by decide) (fun c9 => ?_) (fun c9 => ?_)
  · have h := cz_ite_t c9 h
    refine lv_aload_n hx hb dX4_faultOfPad_46 rfl (lv_at hl 0 rfl) ?_
    refine cz_getI X hM ff_X4_7 ka lk_X4_83 dX4_faultOfPad_47 ?_
    exact cz_retp X hM h rfl dX4_faultOfPad_50
  · have h := cz_ite_f c9 h
    refine lv_bipush (v := -6) hx hb dX4_faultOfPad_41 (by decide) ?_
    refine lv_goto (tgt := 50) hx hb dX4_faultOfPad_43 (by decide) ?_
    exact cz_retp X hM h rfl dX4_faultOfPad_50
theorem mv_X4_lettersOfPad : cz_MV yX4_lettersOfPad cX4_lettersOfPad 3 (some .int) RX4 0 := ⟨mi_X4_lettersOfPad, ms_X4_lettersOfPad, mc_X4_lettersOfPad, ini_X4, by decide +kernel⟩
set_option maxHeartbeats 4000000 in
set_option maxRecDepth 100000 in
theorem w_X4_lettersOfPad_L4 {p : Program} {l : Launch} {e : Env} {R : Room} {s : State} {m : MethodId} {args : Array Value} {below : List Frame} {meth : Method} {c : Code} {g : cz_G} {b : Nat} (X : cz_X p s m args meth c cX4_lettersOfPad 3 RX4 g b (some .int)) (hRf : 0 ≤ R.frames) (hRl : 0 ≤ R.locals) {r0 : Int32} {a0 : Nat} {M : cz_M} (ka0 : cz_K b a0 4)
    (K : Int32 → Int32 → Option (Int32)) (hX : ∀ (x1 : Int32) (x2 : Int32) (H : Heap) (locs : List Loc) (ls : Array Slot), K x1 x2 = some r0 → cz_WS g b M s H locs → lv_has ls 3 [(0, .ref a0), (1, .int x1), (2, .int x2)] → W p l e R s m args below meth c H locs 0 0 (MQ below (cz_Q g b (some (.int r0)) M) args s 0 0 (fun q => b ≤ q)) (F0 m 32 ls [])) :
    ∀ (n : Nat) (x1 : Int32) (x2 : Int32) (H : Heap) (locs : List Loc) (ls : Array Slot), cz_it2 (f_X4_lettersOfPad_L4 a0 M K) n x1 x2 = some r0 → cz_WS g b M s H locs → lv_has ls 3 [(0, .ref a0), (1, .int x1), (2, .int x2)] → W p l e R s m args below meth c H locs 0 0 (MQ below (cz_Q g b (some (.int r0)) M) args s 0 0 (fun q => b ≤ q)) (F0 m 4 ls []) := by
  obtain ⟨hx, hb, -, ho, ht, -⟩ := id X
  intro n
  induction n with
  | zero => intro x1 x2 H locs ls h; cases (show none = some _ from h)
  | succ n ih =>
    intro x1 x2 H locs ls h hM hl
    have h : f_X4_lettersOfPad_L4 a0 M K (cz_it2 (f_X4_lettersOfPad_L4 a0 M K) n) x1 x2 = some r0 := h
    rw [f_X4_lettersOfPad_L4] at h
    refine lv_iload_n hx hb dX4_lettersOfPad_4 rfl (lv_at hl 2 rfl) ?_
    refine lv_aload_n hx hb dX4_lettersOfPad_5 rfl (lv_at hl 0 rfl) ?_
    refine cz_getI X hM ff_X4_7 ka0 lk_X4_83 dX4_lettersOfPad_6 ?_
    refine lv_icmp_ge (tgt := 32) hx hb dX4_lettersOfPad_9 (by decide) (fun c1 => ?_) (fun c1 => ?_)
    · have h := cz_ite_t c1 h
      exact hX _ _ _ _ _ h hM (lv_sub hl [0, 1, 2] rfl)
    · have h := cz_ite_f c1 h
      refine lv_aload_n hx hb dX4_lettersOfPad_12 rfl (lv_at hl 0 rfl) ?_
      refine cz_getR X hM ff_X4_5 ka0 lk_X4_30 dX4_lettersOfPad_13 (fun hk2 => ?_)
      refine lv_iload_n hx hb dX4_lettersOfPad_16 rfl (lv_at hl 2 rfl) ?_
      refine cz_cald X hM h hk2 dX4_lettersOfPad_17 (fun h => ?_)
      refine lv_bipush (v := 44) hx hb dX4_lettersOfPad_18 (by decide) ?_
      refine lv_icmp_ne (tgt := 26) hx hb dX4_lettersOfPad_20 (by decide) (fun c3 => ?_) (fun c3 => ?_)
      · have h := cz_ite_f c3 h
        refine cz_nmL (v := x2 + 1) h (fun v4 e5 h => ?_)
        refine lv_iinc (v := v4) (lv' := [(2, .int v4), (0, .ref a0), (1, .int x1)]) hx hb dX4_lettersOfPad_26 hl (k := 2) rfl (by rw [e5]; rfl) (by decide) rfl (fun ls hl => ?_)
        refine lv_goto (tgt := 4) hx hb dX4_lettersOfPad_29 (by decide) ?_
        exact ih _ _ _ _ _ h hM (lv_sub hl [1, 2, 0] rfl)
      · have h := cz_ite_t c3 h
        refine cz_nmL (v := x1 + 1) h (fun v6 e7 h => ?_)
        refine lv_iinc (v := v6) (lv' := [(1, .int v6), (0, .ref a0), (2, .int x2)]) hx hb dX4_lettersOfPad_23 hl (k := 1) rfl (by rw [e7]; rfl) (by decide) rfl (fun ls hl => ?_)
        refine cz_nmL (v := x2 + 1) h (fun v8 e9 h => ?_)
        refine lv_iinc (v := v8) (lv' := [(2, .int v8), (1, .int v6), (0, .ref a0)]) hx hb dX4_lettersOfPad_26 hl (k := 2) rfl (by rw [e9]; rfl) (by decide) rfl (fun ls hl => ?_)
        refine lv_goto (tgt := 4) hx hb dX4_lettersOfPad_29 (by decide) ?_
        exact ih _ _ _ _ _ h hM (lv_sub hl [2, 1, 0] rfl)
set_option maxHeartbeats 4000000 in
set_option maxRecDepth 100000 in
theorem c_X4_lettersOfPad {l : Launch} {g : cz_G} {b : Nat} {M : cz_M} {r0 : Int32} {a : Nat} (ka : cz_K b a 4) (h : f_X4_lettersOfPad M a = some r0) : cz_C l yX4_lettersOfPad cX4_lettersOfPad 3 (some .int) 0 0 g b [.ref a] M (some (.int r0)) M := by
  refine cz_start (by decide) (Nat.le_of_ble_eq_true rfl) (fun p e s m args below meth c X H ls hM hl => ?_)
  have X : cz_X p s m args meth c cX4_lettersOfPad 3 RX4 g b (some .int) := X
  obtain ⟨hx, hb, -, ho, ht, -⟩ := id X
  have hRf : 0 ≤ ({ frames := 0, cells := 0, slots := 0, locals := 0 } : Room).frames := Nat.le_refl _
  have hRl : 0 ≤ ({ frames := 0, cells := 0, slots := 0, locals := 0 } : Room).locals := Nat.le_refl _
  have hl : lv_has ls 3 [(0, .ref a)] := hl
  rw [f_X4_lettersOfPad] at h
  refine lv_iconst (v := 1) hx hb dX4_lettersOfPad_0 (by decide) ?_
  refine lv_istore_n (lv' := [(1, .int (1 : Int32)), (0, .ref a)]) hx hb dX4_lettersOfPad_1 rfl hl (by decide) rfl (fun ls hl => ?_)
  refine lv_iconst (v := 0) hx hb dX4_lettersOfPad_2 (by decide) ?_
  refine lv_istore_n (lv' := [(2, .int (0 : Int32)), (1, .int (1 : Int32)), (0, .ref a)]) hx hb dX4_lettersOfPad_3 rfl hl (by decide) rfl (fun ls hl => ?_)
  refine w_X4_lettersOfPad_L4 X hRf hRl ka _ (fun x10 x11 H locs ls h hM hl => ?_) _ _ _ _ _ _ h hM (lv_sub hl [2, 1, 0] rfl)
  refine lv_iload_n hx hb dX4_lettersOfPad_32 rfl (lv_at hl 1 rfl) ?_
  exact cz_retp X hM h rfl dX4_lettersOfPad_33
theorem mv_X4_writeLettersOfPad : cz_MV yX4_writeLettersOfPad cX4_writeLettersOfPad 4 none RX4 0 := ⟨mi_X4_writeLettersOfPad, ms_X4_writeLettersOfPad, mc_X4_writeLettersOfPad, ini_X4, by decide +kernel⟩
set_option maxHeartbeats 4000000 in
set_option maxRecDepth 100000 in
theorem w_X4_writeLettersOfPad_L4 {p : Program} {l : Launch} {e : Env} {R : Room} {s : State} {m : MethodId} {args : Array Value} {below : List Frame} {meth : Method} {c : Code} {g : cz_G} {b : Nat} (X : cz_X p s m args meth c cX4_writeLettersOfPad 4 RX4 g b none) (hRf : 2 ≤ R.frames) (hRl : 44 ≤ R.locals) {M9 : cz_M} {a0 : Nat} (ka0 : cz_K b a0 4) (hbase : b = a0)
    (K : Option Nat → Int32 → cz_M → Option (cz_M)) (hX : ∀ (x1 : Option Nat) (x2 : Int32) (M : cz_M) (H : Heap) (locs : List Loc) (ls : Array Slot), K x1 x2 M = some M9 → cz_WS g b M s H locs → lv_has ls 4 [(0, .ref a0), (1, va_rf x1), (2, .int x2)] → W p l e R s m args below meth c H locs 0 0 (MQ below (cz_Q g b none M9) args s 0 0 (fun q => b ≤ q)) (F0 m 96 ls [])) :
    ∀ (n : Nat) (x1 : Option Nat) (x2 : Int32) (M : cz_M) (H : Heap) (locs : List Loc) (ls : Array Slot), cz_it3 (f_X4_writeLettersOfPad_L4 a0 K) n x1 x2 M = some M9 → cz_WS g b M s H locs → lv_has ls 4 [(0, .ref a0), (1, va_rf x1), (2, .int x2)] → W p l e R s m args below meth c H locs 0 0 (MQ below (cz_Q g b none M9) args s 0 0 (fun q => b ≤ q)) (F0 m 4 ls []) := by
  obtain ⟨hx, hb, -, ho, ht, -⟩ := id X
  intro n
  induction n with
  | zero => intro x1 x2 M H locs ls h; cases (show none = some _ from h)
  | succ n ih =>
    intro x1 x2 M H locs ls h hM hl
    have h : f_X4_writeLettersOfPad_L4 a0 K (cz_it3 (f_X4_writeLettersOfPad_L4 a0 K) n) x1 x2 M = some M9 := h
    rw [f_X4_writeLettersOfPad_L4] at h
    refine lv_iload_n hx hb dX4_writeLettersOfPad_4 rfl (lv_at hl 2 rfl) ?_
    refine lv_aload_n hx hb dX4_writeLettersOfPad_5 rfl (lv_at hl 0 rfl) ?_
    refine cz_getI X hM ff_X4_7 ka0 lk_X4_83 dX4_writeLettersOfPad_6 ?_
    refine lv_icmp_ge (tgt := 96) hx hb dX4_writeLettersOfPad_9 (by decide) (fun c1 => ?_) (fun c1 => ?_)
    · have h := cz_ite_t c1 h
      exact hX _ _ _ _ _ _ h hM (lv_sub hl [0, 1, 2] rfl)
    · have h := cz_ite_f c1 h
      refine lv_aload_n hx hb dX4_writeLettersOfPad_12 rfl (lv_at hl 0 rfl) ?_
      refine cz_getR X hM ff_X4_5 ka0 lk_X4_30 dX4_writeLettersOfPad_13 (fun hk2 => ?_)
      refine lv_iload_n hx hb dX4_writeLettersOfPad_16 rfl (lv_at hl 2 rfl) ?_
      refine cz_cald X hM h hk2 dX4_writeLettersOfPad_17 (fun h => ?_)
      refine cz_nmi h (fun v3 h => ?_)
      refine lv_istore_n (lv' := [(3, .int v3), (0, .ref a0), (1, va_rf x1), (2, .int x2)]) hx hb dX4_writeLettersOfPad_18 rfl hl (by decide) (by cases x1 <;> rfl) (fun ls hl => ?_)
      refine lv_iload_n hx hb dX4_writeLettersOfPad_19 rfl (lv_at hl 0 rfl) ?_
      obtain ⟨v4, hq, h⟩ := cz_bd_t h
      refine cz_runS (rest := []) (As := [.int v3]) X hM hl.1 (c_X4_isWord (l := l) (g := g) (b := b)  hq) mv_X4_isWord ml_X4_217 ⟨Nat.le_trans (Nat.le_of_ble_eq_true rfl) hRf, Nat.le_trans (Nat.le_of_ble_eq_true rfl) hRl⟩ rfl rfl (Nat.le_of_ble_eq_true rfl) dX4_writeLettersOfPad_20 (fun H locs hM => ?_)
      refine lv_if_eq (tgt := 38) hx hb dX4_writeLettersOfPad_23 (by decide) (fun c5 => ?_) (fun c5 => ?_)
      · have h := cz_ite_t c5 h
        refine lv_iload_n hx hb dX4_writeLettersOfPad_38 rfl (lv_at hl 0 rfl) ?_
        refine lv_bipush (v := 62) hx hb dX4_writeLettersOfPad_39 (by decide) ?_
        refine lv_icmp_ne (tgt := 55) hx hb dX4_writeLettersOfPad_41 (by decide) (fun c6 => ?_) (fun c6 => ?_)
        · have h := cz_ite_f c6 h
          refine lv_iload_n hx hb dX4_writeLettersOfPad_55 rfl (lv_at hl 0 rfl) ?_
          refine lv_bipush (v := 60) hx hb dX4_writeLettersOfPad_56 (by decide) ?_
          refine lv_icmp_ne (tgt := 72) hx hb dX4_writeLettersOfPad_58 (by decide) (fun c7 => ?_) (fun c7 => ?_)
          · have h := cz_ite_f c7 h
            refine lv_iload_n hx hb dX4_writeLettersOfPad_72 rfl (lv_at hl 0 rfl) ?_
            refine lv_bipush (v := 44) hx hb dX4_writeLettersOfPad_73 (by decide) ?_
            refine lv_icmp_eq (tgt := 90) hx hb dX4_writeLettersOfPad_75 (by decide) (fun c8 => ?_) (fun c8 => ?_)
            · have h := cz_ite_t c8 h
              refine cz_nmL (v := x2 + 1) h (fun v9 e10 h => ?_)
              refine lv_iinc (v := v9) (lv' := [(2, .int v9), (3, .int v3), (0, .ref a0), (1, va_rf x1)]) hx hb dX4_writeLettersOfPad_90 hl (k := 3) rfl (by rw [e10]; rfl) (by decide) (by cases x1 <;> rfl) (fun ls hl => ?_)
              refine lv_goto (tgt := 4) hx hb dX4_writeLettersOfPad_93 (by decide) ?_
              exact ih _ _ _ _ _ _ h hM (lv_sub hl [2, 3, 0] rfl)
            · have h := cz_ite_f c8 h
              refine lv_aload_n hx hb dX4_writeLettersOfPad_78 rfl (lv_at hl 1 rfl) ?_
              refine cz_getR X hM ff_X4_0 ka0 lk_X4_12 dX4_writeLettersOfPad_79 (fun hk11 => ?_)
              refine lv_iload_n hx hb dX4_writeLettersOfPad_82 rfl (lv_at hl 0 rfl) ?_
              refine lv_bipush (v := 48) hx hb dX4_writeLettersOfPad_83 (by decide) ?_
              refine lv_isub hx hb dX4_writeLettersOfPad_85 ?_
              obtain ⟨q13, M12, hq, h⟩ := cz_b2_t h
              refine cz_runV (rest := []) (As := [.int (v3 - (48 : Int32))]) (T := TX2) (N0 := 9) X hM hl.1 (c_X2_beginLetter (l := l) (g := g) (b := b) hk11 hq) mv_X2_beginLetter rfl (by decide) hk11 ml_X4_227 ⟨Nat.le_trans (Nat.le_of_ble_eq_true rfl) hRf, Nat.le_trans (Nat.le_of_ble_eq_true rfl) hRl⟩ rfl rfl (Nat.le_of_ble_eq_true rfl) dX4_writeLettersOfPad_86 (fun H locs hM => ?_)
              refine cz_astq (lv' := [(1, va_rf q13), (3, .int v3), (0, .ref a0), (2, .int x2)]) hx hb dX4_writeLettersOfPad_89 rfl hl (by decide) (by cases q13 <;> rfl) (fun ls hl => ?_)
              refine cz_nmL (v := x2 + 1) h (fun v14 e15 h => ?_)
              refine lv_iinc (v := v14) (lv' := [(2, .int v14), (1, va_rf q13), (3, .int v3), (0, .ref a0)]) hx hb dX4_writeLettersOfPad_90 hl (k := 3) rfl (by rw [e15]; rfl) (by decide) (by cases q13 <;> rfl) (fun ls hl => ?_)
              refine lv_goto (tgt := 4) hx hb dX4_writeLettersOfPad_93 (by decide) ?_
              exact ih _ _ _ _ _ _ h hM (lv_sub hl [3, 1, 0] rfl)
          · have h := cz_ite_t c7 h
            refine lv_aload_n hx hb dX4_writeLettersOfPad_61 rfl (lv_at hl 1 rfl) ?_
            refine cz_getR X hM ff_X4_0 ka0 lk_X4_12 dX4_writeLettersOfPad_62 (fun hk16 => ?_)
            refine lv_iconst (v := 1) hx hb dX4_writeLettersOfPad_65 (by decide) ?_
            obtain ⟨M17, hq, h⟩ := cz_bd_t h
            refine cz_runV (rest := []) (As := [.int (1 : Int32)]) (T := TX2) (N0 := 9) X hM hl.1 (c_X2_sendNewest (l := l) (g := g) (b := b) hk16 hq) mv_X2_sendNewest rfl (by decide) hk16 ml_X4_224 ⟨Nat.le_trans (Nat.le_of_ble_eq_true rfl) hRf, Nat.le_trans (Nat.le_of_ble_eq_true rfl) hRl⟩ rfl rfl (Nat.le_of_ble_eq_true rfl) dX4_writeLettersOfPad_66 (fun H locs hM => ?_)
            refine lv_goto (tgt := 90) hx hb dX4_writeLettersOfPad_69 (by decide) ?_
            refine cz_nmL (v := x2 + 1) h (fun v18 e19 h => ?_)
            refine lv_iinc (v := v18) (lv' := [(2, .int v18), (3, .int v3), (0, .ref a0), (1, va_rf x1)]) hx hb dX4_writeLettersOfPad_90 hl (k := 3) rfl (by rw [e19]; rfl) (by decide) (by cases x1 <;> rfl) (fun ls hl => ?_)
            refine lv_goto (tgt := 4) hx hb dX4_writeLettersOfPad_93 (by decide) ?_
            exact ih _ _ _ _ _ _ h hM (lv_sub hl [2, 3, 0] rfl)
        · have h := cz_ite_t c6 h
          refine lv_aload_n hx hb dX4_writeLettersOfPad_44 rfl (lv_at hl 1 rfl) ?_
          refine cz_getR X hM ff_X4_0 ka0 lk_X4_12 dX4_writeLettersOfPad_45 (fun hk20 => ?_)
          refine lv_iconst (v := 0) hx hb dX4_writeLettersOfPad_48 (by decide) ?_
          obtain ⟨M21, hq, h⟩ := cz_bd_t h
          refine cz_runV (rest := []) (As := [.int (0 : Int32)]) (T := TX2) (N0 := 9) X hM hl.1 (c_X2_sendNewest (l := l) (g := g) (b := b) hk20 hq) mv_X2_sendNewest rfl (by decide) hk20 ml_X4_224 ⟨Nat.le_trans (Nat.le_of_ble_eq_true rfl) hRf, Nat.le_trans (Nat.le_of_ble_eq_true rfl) hRl⟩ rfl rfl (Nat.le_of_ble_eq_true rfl) dX4_writeLettersOfPad_49 (fun H locs hM => ?_)
          refine lv_goto (tgt := 90) hx hb dX4_writeLettersOfPad_52 (by decide) ?_
          refine cz_nmL (v := x2 + 1) h (fun v22 e23 h => ?_)
          refine lv_iinc (v := v22) (lv' := [(2, .int v22), (3, .int v3), (0, .ref a0), (1, va_rf x1)]) hx hb dX4_writeLettersOfPad_90 hl (k := 3) rfl (by rw [e23]; rfl) (by decide) (by cases x1 <;> rfl) (fun ls hl => ?_)
          refine lv_goto (tgt := 4) hx hb dX4_writeLettersOfPad_93 (by decide) ?_
          exact ih _ _ _ _ _ _ h hM (lv_sub hl [2, 3, 0] rfl)
      · have h := cz_ite_f c5 h
        rcases x1 with _ | q24
        · have h : _ = some M9 := h
          refine lv_aload_nN hx hb dX4_writeLettersOfPad_26 rfl (lv_at hl 2 rfl) ?_
          refine lv_ifnullN (tgt := 90) hx hb dX4_writeLettersOfPad_27 (by decide) ?_
          refine cz_nmL (v := x2 + 1) h (fun v26 e27 h => ?_)
          refine lv_iinc (v := v26) (lv' := [(2, .int v26), (3, .int v3), (0, .ref a0), (1, .null)]) hx hb dX4_writeLettersOfPad_90 hl (k := 3) rfl (by rw [e27]; rfl) (by decide) rfl (fun ls hl => ?_)
          refine lv_goto (tgt := 4) hx hb dX4_writeLettersOfPad_93 (by decide) ?_
          exact ih _ _ _ _ _ _ h hM (lv_sub hl [2, 3, 0] rfl)
        · have h : cz_gd (cz_kb a0 q24 1) _ = some M9 := h
          obtain ⟨hkb, h⟩ := cz_gd_t h
          have hk25 := cz_kb_t hbase hkb
          refine lv_aload_n hx hb dX4_writeLettersOfPad_26 rfl (lv_at hl 2 rfl) ?_
          refine lv_ifnull hx hb dX4_writeLettersOfPad_27 ?_
          refine lv_aload_n hx hb dX4_writeLettersOfPad_30 rfl (lv_at hl 2 rfl) ?_
          refine lv_iload_n hx hb dX4_writeLettersOfPad_31 rfl (lv_at hl 0 rfl) ?_
          obtain ⟨M28, hq, h⟩ := cz_bd_t h
          refine cz_runV (rest := []) (As := [.int v3]) (T := TX1) (N0 := 11) X hM hl.1 (c_X1_addWord (l := l) (g := g) (b := b) hk25 hq) mv_X1_addWord rfl (by decide) hk25 ml_X4_221 ⟨Nat.le_trans (Nat.le_of_ble_eq_true rfl) hRf, Nat.le_trans (Nat.le_of_ble_eq_true rfl) hRl⟩ rfl rfl (Nat.le_of_ble_eq_true rfl) dX4_writeLettersOfPad_32 (fun H locs hM => ?_)
          refine lv_goto (tgt := 90) hx hb dX4_writeLettersOfPad_35 (by decide) ?_
          refine cz_nmL (v := x2 + 1) h (fun v29 e30 h => ?_)
          refine lv_iinc (v := v29) (lv' := [(2, .int v29), (3, .int v3), (0, .ref a0), (1, .ref q24)]) hx hb dX4_writeLettersOfPad_90 hl (k := 3) rfl (by rw [e30]; rfl) (by decide) rfl (fun ls hl => ?_)
          refine lv_goto (tgt := 4) hx hb dX4_writeLettersOfPad_93 (by decide) ?_
          exact ih _ _ _ _ _ _ h hM (lv_sub hl [2, 3, 0] rfl)
end
section
set_option maxHeartbeats 4000000 in
set_option maxRecDepth 100000 in
theorem c_X4_writeLettersOfPad {l : Launch} {g : cz_G} {b : Nat} {M : cz_M} {M9 : cz_M} {a : Nat} (ka : cz_K b a 4) (h : f_X4_writeLettersOfPad M a = some M9) : cz_C l yX4_writeLettersOfPad cX4_writeLettersOfPad 4 none 2 44 g b [.ref a] M none M9 := by
  refine cz_start (by decide) (Nat.le_of_ble_eq_true rfl) (fun p e s m args below meth c X H ls hM hl => ?_)
  have X : cz_X p s m args meth c cX4_writeLettersOfPad 4 RX4 g b none := X
  obtain ⟨hx, hb, -, ho, ht, -⟩ := id X
  have hRf : 2 ≤ ({ frames := 2, cells := 0, slots := 0, locals := 44 } : Room).frames := Nat.le_refl _
  have hRl : 44 ≤ ({ frames := 2, cells := 0, slots := 0, locals := 44 } : Room).locals := Nat.le_refl _
  have hbase : b = a := cz_base ka
  have hl : lv_has ls 4 [(0, .ref a)] := hl
  rw [f_X4_writeLettersOfPad] at h
  refine lv_null hx hb dX4_writeLettersOfPad_0 ?_
  refine lv_astore_nN (lv' := [(1, .null), (0, .ref a)]) hx hb dX4_writeLettersOfPad_1 rfl hl (by decide) rfl (fun ls hl => ?_)
  refine lv_iconst (v := 0) hx hb dX4_writeLettersOfPad_2 (by decide) ?_
  refine lv_istore_n (lv' := [(2, .int (0 : Int32)), (1, .null), (0, .ref a)]) hx hb dX4_writeLettersOfPad_3 rfl hl (by decide) rfl (fun ls hl => ?_)
  refine w_X4_writeLettersOfPad_L4 X hRf hRl ka hbase _ (fun x31 x32 M33 H locs ls h hM hl => ?_) _ _ _ _ _ _ _ h hM (lv_sub hl [2, 1, 0] rfl)
  exact cz_retv X hM h dX4_writeLettersOfPad_96
theorem mv_X4_read : cz_MV yX4_read cX4_read 1 (some .int) RX4 0 := ⟨mi_X4_read, ms_X4_read, mc_X4_read, ini_X4, by decide +kernel⟩
set_option maxHeartbeats 4000000 in
set_option maxRecDepth 100000 in
theorem c_X4_read {l : Launch} {g : cz_G} {b : Nat} {M : cz_M} {r0 : Int32} {M9 : cz_M} {a : Nat} (ka : cz_K b a 4) (h : f_X4_read M a = some (r0, M9)) : cz_C l yX4_read cX4_read 1 (some .int) 4 113 g b [.ref a] M (some (.int r0)) M9 := by
  refine cz_start (by decide) (Nat.le_of_ble_eq_true rfl) (fun p e s m args below meth c X H ls hM hl => ?_)
  have X : cz_X p s m args meth c cX4_read 1 RX4 g b (some .int) := X
  obtain ⟨hx, hb, -, ho, ht, -⟩ := id X
  have hRf : 4 ≤ ({ frames := 4, cells := 0, slots := 0, locals := 113 } : Room).frames := Nat.le_refl _
  have hRl : 113 ≤ ({ frames := 4, cells := 0, slots := 0, locals := 113 } : Room).locals := Nat.le_refl _
  have hl : lv_has ls 1 [(0, .ref a)] := hl
  rw [f_X4_read] at h
  refine lv_aload_n hx hb dX4_read_0 rfl (lv_at hl 0 rfl) ?_
  obtain ⟨v1, hq, h⟩ := cz_bd_t h
  refine cz_runV (rest := []) (As := []) (T := TX4) (N0 := 8) X hM hl.1 (c_X4_faultOfPad (l := l) (g := g) (b := b) ka hq) mv_X4_faultOfPad rfl (by decide) ka ml_X4_70 ⟨Nat.le_trans (Nat.le_of_ble_eq_true rfl) hRf, Nat.le_trans (Nat.le_of_ble_eq_true rfl) hRl⟩ rfl rfl (Nat.le_of_ble_eq_true rfl) dX4_read_1 (fun H locs hM => ?_)
  refine lv_bipush (v := -6) hx hb dX4_read_4 (by decide) ?_
  refine lv_icmp_eq (tgt := 12) hx hb dX4_read_6 (by decide) (fun c2 => ?_) (fun c2 => ?_)
  · have h := cz_ite_t c2 h
    refine lv_aload_n hx hb dX4_read_12 rfl (lv_at hl 0 rfl) ?_
    refine cz_getR X hM ff_X4_0 ka lk_X4_12 dX4_read_13 (fun hk3 => ?_)
    refine cz_getI X hM ff_X2_7 hk3 lk_X4_74 dX4_read_16 ?_
    refine lv_aload_n hx hb dX4_read_19 rfl (lv_at hl 0 rfl) ?_
    obtain ⟨v4, hq, h⟩ := cz_bd_t h
    refine cz_runV (rest := [.int (M.1 (a + 1) 7)]) (As := []) (T := TX4) (N0 := 8) X hM hl.1 (c_X4_lettersOfPad (l := l) (g := g) (b := b) ka hq) mv_X4_lettersOfPad rfl (by decide) ka ml_X4_77 ⟨Nat.le_trans (Nat.le_of_ble_eq_true rfl) hRf, Nat.le_trans (Nat.le_of_ble_eq_true rfl) hRl⟩ rfl rfl (Nat.le_of_ble_eq_true rfl) dX4_read_20 (fun H locs hM => ?_)
    refine lv_iadd hx hb dX4_read_23 ?_
    refine lv_bipush (v := 40) hx hb dX4_read_24 (by decide) ?_
    refine lv_icmp_le (tgt := 32) hx hb dX4_read_26 (by decide) (fun c5 => ?_) (fun c5 => ?_)
    · have h := cz_ite_t c5 h
      refine lv_aload_n hx hb dX4_read_32 rfl (lv_at hl 0 rfl) ?_
      obtain ⟨M6, hq, h⟩ := cz_bd_t h
      refine cz_runV (rest := []) (As := []) (T := TX4) (N0 := 8) X hM hl.1 (c_X4_remember (l := l) (g := g) (b := b) ka hq) mv_X4_remember rfl (by decide) ka ml_X4_41 ⟨Nat.le_trans (Nat.le_of_ble_eq_true rfl) hRf, Nat.le_trans (Nat.le_of_ble_eq_true rfl) hRl⟩ rfl rfl (Nat.le_of_ble_eq_true rfl) dX4_read_33 (fun H locs hM => ?_)
      refine lv_aload_n hx hb dX4_read_36 rfl (lv_at hl 0 rfl) ?_
      obtain ⟨M7, hq, h⟩ := cz_bd_t h
      refine cz_runV (rest := []) (As := []) (T := TX4) (N0 := 8) X hM hl.1 (c_X4_writeLettersOfPad (l := l) (g := g) (b := b) ka hq) mv_X4_writeLettersOfPad rfl (by decide) ka ml_X4_80 ⟨Nat.le_trans (Nat.le_of_ble_eq_true rfl) hRf, Nat.le_trans (Nat.le_of_ble_eq_true rfl) hRl⟩ rfl rfl (Nat.le_of_ble_eq_true rfl) dX4_read_37 (fun H locs hM => ?_)
      refine lv_aload_n hx hb dX4_read_40 rfl (lv_at hl 0 rfl) ?_
      refine lv_iconst (v := 0) hx hb dX4_read_41 (by decide) ?_
      refine cz_putI X hM h ff_X4_7 ka lk_X4_83 dX4_read_42 (fun M8 H locs h hM => ?_)
      refine lv_aload_n hx hb dX4_read_45 rfl (lv_at hl 0 rfl) ?_
      refine cz_getR X hM ff_X4_0 ka lk_X4_12 dX4_read_46 (fun hk9 => ?_)
      refine cz_getI X hM ff_X2_7 hk9 lk_X4_74 dX4_read_49 ?_
      exact cz_reti X hM h rfl dX4_read_52
    · have h := cz_ite_f c5 h
      refine lv_bipush (v := -4) hx hb dX4_read_29 (by decide) ?_
      exact cz_reti X hM h rfl dX4_read_31
  · have h := cz_ite_f c2 h
    refine lv_bipush (v := -3) hx hb dX4_read_9 (by decide) ?_
    exact cz_reti X hM h rfl dX4_read_11
theorem mv_X4_burn : cz_MV yX4_burn cX4_burn 2 (some .int) RX4 1 := ⟨mi_X4_burn, ms_X4_burn, mc_X4_burn, ini_X4, by decide +kernel⟩
set_option maxHeartbeats 4000000 in
set_option maxRecDepth 100000 in
theorem c_X4_burn {l : Launch} {g : cz_G} {b : Nat} {M : cz_M} {r0 : Int32} {M9 : cz_M} {a : Nat} {x1 : Int32} (ka : cz_K b a 4) (h : f_X4_burn M a x1 = some (r0, M9)) : cz_C l yX4_burn cX4_burn 2 (some .int) 4 113 g b [.ref a, .int x1] M (some (.int r0)) M9 := by
  refine cz_start (by decide) (Nat.le_of_ble_eq_true rfl) (fun p e s m args below meth c X H ls hM hl => ?_)
  have X : cz_X p s m args meth c cX4_burn 2 RX4 g b (some .int) := X
  obtain ⟨hx, hb, -, ho, ht, -⟩ := id X
  have hRf : 4 ≤ ({ frames := 4, cells := 0, slots := 0, locals := 113 } : Room).frames := Nat.le_refl _
  have hRl : 113 ≤ ({ frames := 4, cells := 0, slots := 0, locals := 113 } : Room).locals := Nat.le_refl _
  have hl : lv_has ls 2 [(0, .ref a), (1, .int x1)] := hl
  rw [f_X4_burn] at h
  refine lv_aload_n hx hb dX4_burn_0 rfl (lv_at hl 0 rfl) ?_
  refine cz_getR X hM ff_X4_0 ka lk_X4_12 dX4_burn_1 (fun hk1 => ?_)
  refine lv_iload_n hx hb dX4_burn_4 rfl (lv_at hl 1 rfl) ?_
  obtain ⟨v2, hq, h⟩ := cz_bd_t h
  refine cz_runV (rest := []) (As := [.int x1]) (T := TX2) (N0 := 9) X hM hl.1 (c_X2_hasLetter (l := l) (g := g) (b := b) hk1 hq) mv_X2_hasLetter rfl (by decide) hk1 ml_X4_86 ⟨Nat.le_trans (Nat.le_of_ble_eq_true rfl) hRf, Nat.le_trans (Nat.le_of_ble_eq_true rfl) hRl⟩ rfl rfl (Nat.le_of_ble_eq_true rfl) dX4_burn_5 (fun H locs hM => ?_)
  refine lv_if_ne (tgt := 13) hx hb dX4_burn_8 (by decide) (fun c3 => ?_) (fun c3 => ?_)
  · have h := cz_ite_f c3 h
    refine lv_aload_n hx hb dX4_burn_13 rfl (lv_at hl 0 rfl) ?_
    refine cz_getR X hM ff_X4_0 ka lk_X4_12 dX4_burn_14 (fun hk4 => ?_)
    refine cz_getR X hM ff_X2_3 hk4 lk_X4_90 dX4_burn_17 (fun hk5 => ?_)
    refine lv_iload_n hx hb dX4_burn_20 rfl (lv_at hl 1 rfl) ?_
    refine cz_aald1 X hM h hk5 dX4_burn_21 (fun h hk6 => ?_)
    refine cz_getI X hM ff_X1_5 hk6 lk_X4_94 dX4_burn_22 ?_
    refine lv_if_eq (tgt := 31) hx hb dX4_burn_25 (by decide) (fun c7 => ?_) (fun c7 => ?_)
    · have h := cz_ite_t c7 h
      refine lv_aload_n hx hb dX4_burn_31 rfl (lv_at hl 0 rfl) ?_
      obtain ⟨M8, hq, h⟩ := cz_bd_t h
      refine cz_runV (rest := []) (As := []) (T := TX4) (N0 := 8) X hM hl.1 (c_X4_remember (l := l) (g := g) (b := b) ka hq) mv_X4_remember rfl (by decide) ka ml_X4_41 ⟨Nat.le_trans (Nat.le_of_ble_eq_true rfl) hRf, Nat.le_trans (Nat.le_of_ble_eq_true rfl) hRl⟩ rfl rfl (Nat.le_of_ble_eq_true rfl) dX4_burn_32 (fun H locs hM => ?_)
      refine lv_aload_n hx hb dX4_burn_35 rfl (lv_at hl 0 rfl) ?_
      refine cz_getR X hM ff_X4_0 ka lk_X4_12 dX4_burn_36 (fun hk9 => ?_)
      refine lv_iload_n hx hb dX4_burn_39 rfl (lv_at hl 1 rfl) ?_
      obtain ⟨M10, hq, h⟩ := cz_bd_t h
      refine cz_runV (rest := []) (As := [.int x1]) (T := TX2) (N0 := 9) X hM hl.1 (c_X2_burnWaiting (l := l) (g := g) (b := b) hk9 hq) mv_X2_burnWaiting rfl (by decide) hk9 ml_X4_99 ⟨Nat.le_trans (Nat.le_of_ble_eq_true rfl) hRf, Nat.le_trans (Nat.le_of_ble_eq_true rfl) hRl⟩ rfl rfl (Nat.le_of_ble_eq_true rfl) dX4_burn_40 (fun H locs hM => ?_)
      refine lv_aload_n hx hb dX4_burn_43 rfl (lv_at hl 0 rfl) ?_
      refine cz_getR X hM ff_X4_0 ka lk_X4_12 dX4_burn_44 (fun hk11 => ?_)
      refine cz_getI X hM ff_X2_8 hk11 lk_X4_103 dX4_burn_47 ?_
      refine lv_aload_n hx hb dX4_burn_50 rfl (lv_at hl 0 rfl) ?_
      refine cz_getR X hM ff_X4_0 ka lk_X4_12 dX4_burn_51 (fun hk12 => ?_)
      refine cz_getR X hM ff_X2_3 hk12 lk_X4_90 dX4_burn_54 (fun hk13 => ?_)
      refine lv_iload_n hx hb dX4_burn_57 rfl (lv_at hl 1 rfl) ?_
      refine cz_aald1 X hM h hk13 dX4_burn_58 (fun h hk14 => ?_)
      refine cz_getI X hM ff_X1_4 hk14 lk_X4_106 dX4_burn_59 ?_
      refine lv_isub hx hb dX4_burn_62 ?_
      exact cz_reti X hM h rfl dX4_burn_63
    · have h := cz_ite_f c7 h
      refine lv_bipush (v := -5) hx hb dX4_burn_28 (by decide) ?_
      exact cz_reti X hM h rfl dX4_burn_30
  · have h := cz_ite_t c3 h
    refine lv_iconst (v := -1) hx hb dX4_burn_11 (by decide) ?_
    exact cz_reti X hM h rfl dX4_burn_12
theorem mv_X4_pass : cz_MV yX4_pass cX4_pass 2 (some .int) RX4 1 := ⟨mi_X4_pass, ms_X4_pass, mc_X4_pass, ini_X4, by decide +kernel⟩
set_option maxHeartbeats 4000000 in
set_option maxRecDepth 100000 in
theorem c_X4_pass {l : Launch} {g : cz_G} {b : Nat} {M : cz_M} {r0 : Int32} {M9 : cz_M} {a : Nat} {x1 : Int32} (ka : cz_K b a 4) (h : f_X4_pass M a x1 = some (r0, M9)) : cz_C l yX4_pass cX4_pass 2 (some .int) 6 141 g b [.ref a, .int x1] M (some (.int r0)) M9 := by
  refine cz_start (by decide) (Nat.le_of_ble_eq_true rfl) (fun p e s m args below meth c X H ls hM hl => ?_)
  have X : cz_X p s m args meth c cX4_pass 2 RX4 g b (some .int) := X
  obtain ⟨hx, hb, -, ho, ht, -⟩ := id X
  have hRf : 6 ≤ ({ frames := 6, cells := 0, slots := 0, locals := 141 } : Room).frames := Nat.le_refl _
  have hRl : 141 ≤ ({ frames := 6, cells := 0, slots := 0, locals := 141 } : Room).locals := Nat.le_refl _
  have hl : lv_has ls 2 [(0, .ref a), (1, .int x1)] := hl
  rw [f_X4_pass] at h
  refine lv_iload_n hx hb dX4_pass_0 rfl (lv_at hl 1 rfl) ?_
  refine lv_iconst (v := 1) hx hb dX4_pass_1 (by decide) ?_
  refine lv_icmp_lt (tgt := 11) hx hb dX4_pass_2 (by decide) (fun c1 => ?_) (fun c1 => ?_)
  · have h := cz_ite_t c1 h
    refine lv_bipush (v := -2) hx hb dX4_pass_11 (by decide) ?_
    exact cz_reti X hM h rfl dX4_pass_13
  · have h := cz_ite_f c1 h
    refine lv_iload_n hx hb dX4_pass_5 rfl (lv_at hl 1 rfl) ?_
    refine lv_bipush (v := 52) hx hb dX4_pass_6 (by decide) ?_
    refine lv_icmp_le (tgt := 14) hx hb dX4_pass_8 (by decide) (fun c2 => ?_) (fun c2 => ?_)
    · have h := cz_ite_t c2 h
      refine lv_aload_n hx hb dX4_pass_14 rfl (lv_at hl 0 rfl) ?_
      refine cz_getR X hM ff_X4_0 ka lk_X4_12 dX4_pass_15 (fun hk3 => ?_)
      refine cz_getI X hM ff_X2_8 hk3 lk_X4_103 dX4_pass_18 ?_
      refine lv_iload_n hx hb dX4_pass_21 rfl (lv_at hl 1 rfl) ?_
      refine lv_iadd hx hb dX4_pass_22 ?_
      refine lv_sipush (v := 9999) hx hb dX4_pass_23 (by decide) ?_
      refine lv_icmp_le (tgt := 32) hx hb dX4_pass_26 (by decide) (fun c4 => ?_) (fun c4 => ?_)
      · have h := cz_ite_t c4 h
        refine lv_aload_n hx hb dX4_pass_32 rfl (lv_at hl 0 rfl) ?_
        obtain ⟨M5, hq, h⟩ := cz_bd_t h
        refine cz_runV (rest := []) (As := []) (T := TX4) (N0 := 8) X hM hl.1 (c_X4_remember (l := l) (g := g) (b := b) ka hq) mv_X4_remember rfl (by decide) ka ml_X4_41 ⟨Nat.le_trans (Nat.le_of_ble_eq_true rfl) hRf, Nat.le_trans (Nat.le_of_ble_eq_true rfl) hRl⟩ rfl rfl (Nat.le_of_ble_eq_true rfl) dX4_pass_33 (fun H locs hM => ?_)
        refine lv_aload_n hx hb dX4_pass_36 rfl (lv_at hl 0 rfl) ?_
        refine cz_getR X hM ff_X4_0 ka lk_X4_12 dX4_pass_37 (fun hk6 => ?_)
        refine lv_iload_n hx hb dX4_pass_40 rfl (lv_at hl 1 rfl) ?_
        obtain ⟨v8, M7, hq, h⟩ := cz_b2_t h
        refine cz_runV (rest := []) (As := [.int x1]) (T := TX2) (N0 := 9) X hM hl.1 (c_X2_passWeeks (l := l) (g := g) (b := b) hk6 hq) mv_X2_passWeeks rfl (by decide) hk6 ml_X4_109 ⟨Nat.le_trans (Nat.le_of_ble_eq_true rfl) hRf, Nat.le_trans (Nat.le_of_ble_eq_true rfl) hRl⟩ rfl rfl (Nat.le_of_ble_eq_true rfl) dX4_pass_41 (fun H locs hM => ?_)
        exact cz_reti X hM h rfl dX4_pass_44
      · have h := cz_ite_f c4 h
        refine lv_bipush (v := -4) hx hb dX4_pass_29 (by decide) ?_
        exact cz_reti X hM h rfl dX4_pass_31
    · have h := cz_ite_f c2 h
      refine lv_bipush (v := -2) hx hb dX4_pass_11 (by decide) ?_
      exact cz_reti X hM h rfl dX4_pass_13
theorem mv_X4_letter : cz_MV yX4_letter cX4_letter 4 (some .int) RX4 2 := ⟨mi_X4_letter, ms_X4_letter, mc_X4_letter, ini_X4, by decide +kernel⟩
set_option maxHeartbeats 4000000 in
set_option maxRecDepth 100000 in
theorem c_X4_letter {l : Launch} {g : cz_G} {b : Nat} {M : cz_M} {r0 : Int32} {a : Nat} {x1 : Int32} {x2 : Int32} (ka : cz_K b a 4) (h : f_X4_letter M a x1 x2 = some r0) : cz_C l yX4_letter cX4_letter 4 (some .int) 2 40 g b [.ref a, .int x1, .int x2] M (some (.int r0)) M := by
  refine cz_start (by decide) (Nat.le_of_ble_eq_true rfl) (fun p e s m args below meth c X H ls hM hl => ?_)
  have X : cz_X p s m args meth c cX4_letter 4 RX4 g b (some .int) := X
  obtain ⟨hx, hb, -, ho, ht, -⟩ := id X
  have hRf : 2 ≤ ({ frames := 2, cells := 0, slots := 0, locals := 40 } : Room).frames := Nat.le_refl _
  have hRl : 40 ≤ ({ frames := 2, cells := 0, slots := 0, locals := 40 } : Room).locals := Nat.le_refl _
  have hl : lv_has ls 4 [(0, .ref a), (1, .int x1), (2, .int x2)] := hl
  rw [f_X4_letter] at h
  refine lv_aload_n hx hb dX4_letter_0 rfl (lv_at hl 0 rfl) ?_
  refine cz_getR X hM ff_X4_0 ka lk_X4_12 dX4_letter_1 (fun hk1 => ?_)
  refine lv_iload_n hx hb dX4_letter_4 rfl (lv_at hl 1 rfl) ?_
  obtain ⟨v2, hq, h⟩ := cz_bd_t h
  refine cz_runV (rest := []) (As := [.int x1]) (T := TX2) (N0 := 9) X hM hl.1 (c_X2_hasLetter (l := l) (g := g) (b := b) hk1 hq) mv_X2_hasLetter rfl (by decide) hk1 ml_X4_86 ⟨Nat.le_trans (Nat.le_of_ble_eq_true rfl) hRf, Nat.le_trans (Nat.le_of_ble_eq_true rfl) hRl⟩ rfl rfl (Nat.le_of_ble_eq_true rfl) dX4_letter_5 (fun H locs hM => ?_)
  refine lv_if_ne (tgt := 13) hx hb dX4_letter_8 (by decide) (fun c3 => ?_) (fun c3 => ?_)
  · have h := cz_ite_f c3 h
    refine lv_aload_n hx hb dX4_letter_13 rfl (lv_at hl 0 rfl) ?_
    refine cz_getR X hM ff_X4_0 ka lk_X4_12 dX4_letter_14 (fun hk4 => ?_)
    refine cz_getR X hM ff_X2_3 hk4 lk_X4_90 dX4_letter_17 (fun hk5 => ?_)
    refine lv_iload_n hx hb dX4_letter_20 rfl (lv_at hl 1 rfl) ?_
    refine cz_aald1 X hM h hk5 dX4_letter_21 (fun h hk6 => ?_)
    refine cz_nmr h hk6 (fun r7 h hk8 => ?_)
    refine lv_astore_n (lv' := [(3, .ref r7), (0, .ref a), (1, .int x1), (2, .int x2)]) hx hb dX4_letter_22 rfl hl (by decide) rfl (fun ls hl => ?_)
    refine lv_iload_n hx hb dX4_letter_23 rfl (lv_at hl 3 rfl) ?_
    by_cases c9 : x2 = (0 : Int32)
    · have h := cz_ite_t c9 h
      refine lv_tableIn (off := 60) (tgt := 84) hx hb dX4_letter_24 (by rw [c9]; decide) (by rw [c9]; decide) (by rw [c9]; rfl) (by decide) ?_
      refine lv_aload_n hx hb dX4_letter_84 rfl (lv_at hl 0 rfl) ?_
      refine cz_getI X hM ff_X1_0 hk8 lk_X4_112 dX4_letter_85 ?_
      exact cz_retp X hM h rfl dX4_letter_88
    have h := cz_ite_f c9 h
    by_cases c10 : x2 = (1 : Int32)
    · have h := cz_ite_t c10 h
      refine lv_tableIn (off := 65) (tgt := 89) hx hb dX4_letter_24 (by rw [c10]; decide) (by rw [c10]; decide) (by rw [c10]; rfl) (by decide) ?_
      refine lv_aload_n hx hb dX4_letter_89 rfl (lv_at hl 0 rfl) ?_
      refine cz_getI X hM ff_X1_1 hk8 lk_X4_115 dX4_letter_90 ?_
      exact cz_retp X hM h rfl dX4_letter_93
    have h := cz_ite_f c10 h
    by_cases c11 : x2 = (2 : Int32)
    · have h := cz_ite_t c11 h
      refine lv_tableIn (off := 70) (tgt := 94) hx hb dX4_letter_24 (by rw [c11]; decide) (by rw [c11]; decide) (by rw [c11]; rfl) (by decide) ?_
      refine lv_aload_n hx hb dX4_letter_94 rfl (lv_at hl 0 rfl) ?_
      refine cz_getI X hM ff_X1_5 hk8 lk_X4_94 dX4_letter_95 ?_
      exact cz_retp X hM h rfl dX4_letter_98
    have h := cz_ite_f c11 h
    by_cases c12 : x2 = (3 : Int32)
    · have h := cz_ite_t c12 h
      refine lv_tableIn (off := 75) (tgt := 99) hx hb dX4_letter_24 (by rw [c12]; decide) (by rw [c12]; decide) (by rw [c12]; rfl) (by decide) ?_
      refine lv_aload_n hx hb dX4_letter_99 rfl (lv_at hl 1 rfl) ?_
      refine cz_getR X hM ff_X4_0 ka lk_X4_12 dX4_letter_100 (fun hk13 => ?_)
      refine cz_getR X hM ff_X2_4 hk13 lk_X4_118 dX4_letter_103 (fun hk14 => ?_)
      refine lv_aload_n hx hb dX4_letter_106 rfl (lv_at hl 0 rfl) ?_
      refine cz_getI X hM ff_X1_1 hk8 lk_X4_115 dX4_letter_107 ?_
      refine cz_aald2 X hM h hk14 dX4_letter_110 (fun h hk15 => ?_)
      refine lv_iload_n hx hb dX4_letter_111 rfl (lv_at hl 2 rfl) ?_
      obtain ⟨v16, hq, h⟩ := cz_bd_t h
      refine cz_runV (rest := []) (As := [.int x1]) (T := TX3) (N0 := 2) X hM hl.1 (c_X3_placeOf (l := l) (g := g) (b := b) hk15 hq) mv_X3_placeOf rfl (by decide) hk15 ml_X4_122 ⟨Nat.le_trans (Nat.le_of_ble_eq_true rfl) hRf, Nat.le_trans (Nat.le_of_ble_eq_true rfl) hRl⟩ rfl rfl (Nat.le_of_ble_eq_true rfl) dX4_letter_112 (fun H locs hM => ?_)
      exact cz_retp X hM h rfl dX4_letter_115
    have h := cz_ite_f c12 h
    by_cases c17 : x2 = (4 : Int32)
    · have h := cz_ite_t c17 h
      refine lv_tableIn (off := 92) (tgt := 116) hx hb dX4_letter_24 (by rw [c17]; decide) (by rw [c17]; decide) (by rw [c17]; rfl) (by decide) ?_
      refine lv_aload_n hx hb dX4_letter_116 rfl (lv_at hl 0 rfl) ?_
      refine cz_getI X hM ff_X1_4 hk8 lk_X4_106 dX4_letter_117 ?_
      exact cz_retp X hM h rfl dX4_letter_120
    have h := cz_ite_f c17 h
    by_cases c18 : x2 = (5 : Int32)
    · have h := cz_ite_t c18 h
      refine lv_tableIn (off := 97) (tgt := 121) hx hb dX4_letter_24 (by rw [c18]; decide) (by rw [c18]; decide) (by rw [c18]; rfl) (by decide) ?_
      refine lv_aload_n hx hb dX4_letter_121 rfl (lv_at hl 0 rfl) ?_
      refine cz_getI X hM ff_X1_5 hk8 lk_X4_94 dX4_letter_122 ?_
      refine lv_iconst (v := 1) hx hb dX4_letter_125 (by decide) ?_
      refine lv_icmp_ne (tgt := 136) hx hb dX4_letter_126 (by decide) (fun c19 => ?_) (fun c19 => ?_)
      · have h := cz_ite_f c19 h
        refine lv_bipush (v := -6) hx hb dX4_letter_136 (by decide) ?_
        exact cz_retp X hM h rfl dX4_letter_138
      · have h := cz_ite_t c19 h
        refine lv_aload_n hx hb dX4_letter_129 rfl (lv_at hl 0 rfl) ?_
        refine cz_getI X hM ff_X1_6 hk8 lk_X4_127 dX4_letter_130 ?_
        refine lv_goto (tgt := 138) hx hb dX4_letter_133 (by decide) ?_
        exact cz_retp X hM h rfl dX4_letter_138
    have h := cz_ite_f c18 h
    by_cases c20 : x2 = (6 : Int32)
    · have h := cz_ite_t c20 h
      refine lv_tableIn (off := 115) (tgt := 139) hx hb dX4_letter_24 (by rw [c20]; decide) (by rw [c20]; decide) (by rw [c20]; rfl) (by decide) ?_
      refine lv_aload_n hx hb dX4_letter_139 rfl (lv_at hl 0 rfl) ?_
      obtain ⟨v21, hq, h⟩ := cz_bd_t h
      refine cz_runV (rest := []) (As := []) (T := TX1) (N0 := 11) X hM hl.1 (c_X1_struckCount (l := l) (g := g) (b := b) hk8 hq) mv_X1_struckCount rfl (by decide) hk8 ml_X4_130 ⟨Nat.le_trans (Nat.le_of_ble_eq_true rfl) hRf, Nat.le_trans (Nat.le_of_ble_eq_true rfl) hRl⟩ rfl rfl (Nat.le_of_ble_eq_true rfl) dX4_letter_140 (fun H locs hM => ?_)
      exact cz_retp X hM h rfl dX4_letter_143
    have h := cz_ite_f c20 h
    by_cases c22 : x2 = (7 : Int32)
    · have h := cz_ite_t c22 h
      refine lv_tableIn (off := 120) (tgt := 144) hx hb dX4_letter_24 (by rw [c22]; decide) (by rw [c22]; decide) (by rw [c22]; rfl) (by decide) ?_
      refine lv_aload_n hx hb dX4_letter_144 rfl (lv_at hl 0 rfl) ?_
      refine cz_getI X hM ff_X1_7 hk8 lk_X4_133 dX4_letter_145 ?_
      exact cz_retp X hM h rfl dX4_letter_148
    have h := cz_ite_f c22 h
    by_cases c23 : x2 = (8 : Int32)
    · have h := cz_ite_t c23 h
      refine lv_tableIn (off := 125) (tgt := 149) hx hb dX4_letter_24 (by rw [c23]; decide) (by rw [c23]; decide) (by rw [c23]; rfl) (by decide) ?_
      refine lv_aload_n hx hb dX4_letter_149 rfl (lv_at hl 0 rfl) ?_
      refine cz_getI X hM ff_X1_9 hk8 lk_X4_136 dX4_letter_150 ?_
      exact cz_retp X hM h rfl dX4_letter_153
    have h := cz_ite_f c23 h
    by_cases c24 : x2 = (9 : Int32)
    · have h := cz_ite_t c24 h
      refine lv_tableIn (off := 130) (tgt := 154) hx hb dX4_letter_24 (by rw [c24]; decide) (by rw [c24]; decide) (by rw [c24]; rfl) (by decide) ?_
      refine lv_aload_n hx hb dX4_letter_154 rfl (lv_at hl 1 rfl) ?_
      refine cz_getR X hM ff_X4_0 ka lk_X4_12 dX4_letter_155 (fun hk25 => ?_)
      refine lv_iload_n hx hb dX4_letter_158 rfl (lv_at hl 2 rfl) ?_
      obtain ⟨v26, hq, h⟩ := cz_bd_t h
      refine cz_runV (rest := []) (As := [.int x1]) (T := TX2) (N0 := 9) X hM hl.1 (c_X2_aheadOf (l := l) (g := g) (b := b) hk25 hq) mv_X2_aheadOf rfl (by decide) hk25 ml_X4_139 ⟨Nat.le_trans (Nat.le_of_ble_eq_true rfl) hRf, Nat.le_trans (Nat.le_of_ble_eq_true rfl) hRl⟩ rfl rfl (Nat.le_of_ble_eq_true rfl) dX4_letter_159 (fun H locs hM => ?_)
      exact cz_retp X hM h rfl dX4_letter_162
    have h := cz_ite_f c24 h
    by_cases c27 : x2 = (10 : Int32)
    · have h := cz_ite_t c27 h
      refine lv_tableIn (off := 139) (tgt := 163) hx hb dX4_letter_24 (by rw [c27]; decide) (by rw [c27]; decide) (by rw [c27]; rfl) (by decide) ?_
      refine lv_aload_n hx hb dX4_letter_163 rfl (lv_at hl 0 rfl) ?_
      refine cz_getI X hM ff_X1_3 hk8 lk_X4_142 dX4_letter_164 ?_
      exact cz_retp X hM h rfl dX4_letter_167
    have h := cz_ite_f c27 h
    refine lv_tableOut (tgt := 168) hx hb dX4_letter_24 (by
      have e0 := lv_neT c9 (show ((0 : Int32)).toInt = 0 from rfl)
      have e1 := lv_neT c10 (show ((1 : Int32)).toInt = 1 from rfl)
      have e2 := lv_neT c11 (show ((2 : Int32)).toInt = 2 from rfl)
      have e3 := lv_neT c12 (show ((3 : Int32)).toInt = 3 from rfl)
      have e4 := lv_neT c17 (show ((4 : Int32)).toInt = 4 from rfl)
      have e5 := lv_neT c18 (show ((5 : Int32)).toInt = 5 from rfl)
      have e6 := lv_neT c20 (show ((6 : Int32)).toInt = 6 from rfl)
      have e7 := lv_neT c22 (show ((7 : Int32)).toInt = 7 from rfl)
      have e8 := lv_neT c23 (show ((8 : Int32)).toInt = 8 from rfl)
      have e9 := lv_neT c24 (show ((9 : Int32)).toInt = 9 from rfl)
      have e10 := lv_neT c27 (show ((10 : Int32)).toInt = 10 from rfl)
      clear h; omega) (by decide) ?_
    refine lv_bipush (v := -2) hx hb dX4_letter_168 (by decide) ?_
    exact cz_retp X hM h rfl dX4_letter_170
  · have h := cz_ite_t c3 h
    refine lv_iconst (v := -1) hx hb dX4_letter_11 (by decide) ?_
    exact cz_retp X hM h rfl dX4_letter_12
theorem mv_X4_word : cz_MV yX4_word cX4_word 4 (some .int) RX4 2 := ⟨mi_X4_word, ms_X4_word, mc_X4_word, ini_X4, by decide +kernel⟩
set_option maxHeartbeats 4000000 in
set_option maxRecDepth 100000 in
theorem c_X4_word {l : Launch} {g : cz_G} {b : Nat} {M : cz_M} {r0 : Int32} {a : Nat} {x1 : Int32} {x2 : Int32} (ka : cz_K b a 4) (h : f_X4_word M a x1 x2 = some r0) : cz_C l yX4_word cX4_word 4 (some .int) 1 21 g b [.ref a, .int x1, .int x2] M (some (.int r0)) M := by
  refine cz_start (by decide) (Nat.le_of_ble_eq_true rfl) (fun p e s m args below meth c X H ls hM hl => ?_)
  have X : cz_X p s m args meth c cX4_word 4 RX4 g b (some .int) := X
  obtain ⟨hx, hb, -, ho, ht, -⟩ := id X
  have hRf : 1 ≤ ({ frames := 1, cells := 0, slots := 0, locals := 21 } : Room).frames := Nat.le_refl _
  have hRl : 21 ≤ ({ frames := 1, cells := 0, slots := 0, locals := 21 } : Room).locals := Nat.le_refl _
  have hl : lv_has ls 4 [(0, .ref a), (1, .int x1), (2, .int x2)] := hl
  rw [f_X4_word] at h
  refine lv_aload_n hx hb dX4_word_0 rfl (lv_at hl 0 rfl) ?_
  refine cz_getR X hM ff_X4_0 ka lk_X4_12 dX4_word_1 (fun hk1 => ?_)
  refine lv_iload_n hx hb dX4_word_4 rfl (lv_at hl 1 rfl) ?_
  obtain ⟨v2, hq, h⟩ := cz_bd_t h
  refine cz_runV (rest := []) (As := [.int x1]) (T := TX2) (N0 := 9) X hM hl.1 (c_X2_hasLetter (l := l) (g := g) (b := b) hk1 hq) mv_X2_hasLetter rfl (by decide) hk1 ml_X4_86 ⟨Nat.le_trans (Nat.le_of_ble_eq_true rfl) hRf, Nat.le_trans (Nat.le_of_ble_eq_true rfl) hRl⟩ rfl rfl (Nat.le_of_ble_eq_true rfl) dX4_word_5 (fun H locs hM => ?_)
  refine lv_if_ne (tgt := 13) hx hb dX4_word_8 (by decide) (fun c3 => ?_) (fun c3 => ?_)
  · have h := cz_ite_f c3 h
    refine lv_aload_n hx hb dX4_word_13 rfl (lv_at hl 0 rfl) ?_
    refine cz_getR X hM ff_X4_0 ka lk_X4_12 dX4_word_14 (fun hk4 => ?_)
    refine cz_getR X hM ff_X2_3 hk4 lk_X4_90 dX4_word_17 (fun hk5 => ?_)
    refine lv_iload_n hx hb dX4_word_20 rfl (lv_at hl 1 rfl) ?_
    refine cz_aald1 X hM h hk5 dX4_word_21 (fun h hk6 => ?_)
    refine cz_nmr h hk6 (fun r7 h hk8 => ?_)
    refine lv_astore_n (lv' := [(3, .ref r7), (0, .ref a), (1, .int x1), (2, .int x2)]) hx hb dX4_word_22 rfl hl (by decide) rfl (fun ls hl => ?_)
    refine lv_iload_n hx hb dX4_word_23 rfl (lv_at hl 3 rfl) ?_
    refine lv_if_lt (tgt := 35) hx hb dX4_word_24 (by decide) (fun c9 => ?_) (fun c9 => ?_)
    · have h := cz_ite_t c9 h
      refine lv_iconst (v := -1) hx hb dX4_word_35 (by decide) ?_
      exact cz_retp X hM h rfl dX4_word_36
    · have h := cz_ite_f c9 h
      refine lv_iload_n hx hb dX4_word_27 rfl (lv_at hl 3 rfl) ?_
      refine lv_aload_n hx hb dX4_word_28 rfl (lv_at hl 0 rfl) ?_
      refine cz_getI X hM ff_X1_3 hk8 lk_X4_142 dX4_word_29 ?_
      refine lv_icmp_lt (tgt := 37) hx hb dX4_word_32 (by decide) (fun c10 => ?_) (fun c10 => ?_)
      · have h := cz_ite_t c10 h
        refine lv_aload_n hx hb dX4_word_37 rfl (lv_at hl 0 rfl) ?_
        refine lv_iload_n hx hb dX4_word_38 rfl (lv_at hl 3 rfl) ?_
        obtain ⟨v11, hq, h⟩ := cz_bd_t h
        refine cz_runV (rest := []) (As := [.int x2]) (T := TX1) (N0 := 11) X hM hl.1 (c_X1_isStruckAt (l := l) (g := g) (b := b) hk8 hq) mv_X1_isStruckAt rfl (by decide) hk8 ml_X4_145 ⟨Nat.le_trans (Nat.le_of_ble_eq_true rfl) hRf, Nat.le_trans (Nat.le_of_ble_eq_true rfl) hRl⟩ rfl rfl (Nat.le_of_ble_eq_true rfl) dX4_word_39 (fun H locs hM => ?_)
        refine lv_if_eq (tgt := 50) hx hb dX4_word_42 (by decide) (fun c12 => ?_) (fun c12 => ?_)
        · have h := cz_ite_t c12 h
          refine lv_aload_n hx hb dX4_word_50 rfl (lv_at hl 0 rfl) ?_
          refine lv_iload_n hx hb dX4_word_51 rfl (lv_at hl 3 rfl) ?_
          obtain ⟨v13, hq, h⟩ := cz_bd_t h
          refine cz_runV (rest := []) (As := [.int x2]) (T := TX1) (N0 := 11) X hM hl.1 (c_X1_codeAt (l := l) (g := g) (b := b) hk8 hq) mv_X1_codeAt rfl (by decide) hk8 ml_X4_148 ⟨Nat.le_trans (Nat.le_of_ble_eq_true rfl) hRf, Nat.le_trans (Nat.le_of_ble_eq_true rfl) hRl⟩ rfl rfl (Nat.le_of_ble_eq_true rfl) dX4_word_52 (fun H locs hM => ?_)
          exact cz_retp X hM h rfl dX4_word_55
        · have h := cz_ite_f c12 h
          refine lv_bipush (v := 42) hx hb dX4_word_45 (by decide) ?_
          refine lv_goto (tgt := 55) hx hb dX4_word_47 (by decide) ?_
          exact cz_retp X hM h rfl dX4_word_55
      · have h := cz_ite_f c10 h
        refine lv_iconst (v := -1) hx hb dX4_word_35 (by decide) ?_
        exact cz_retp X hM h rfl dX4_word_36
  · have h := cz_ite_t c3 h
    refine lv_iconst (v := -1) hx hb dX4_word_11 (by decide) ?_
    exact cz_retp X hM h rfl dX4_word_12
theorem mv_X4_why : cz_MV yX4_why cX4_why 3 (some .int) RX4 1 := ⟨mi_X4_why, ms_X4_why, mc_X4_why, ini_X4, by decide +kernel⟩
set_option maxHeartbeats 4000000 in
set_option maxRecDepth 100000 in
theorem c_X4_why {l : Launch} {g : cz_G} {b : Nat} {M : cz_M} {r0 : Int32} {M9 : cz_M} {a : Nat} {x1 : Int32} (ka : cz_K b a 4) (h : f_X4_why M a x1 = some (r0, M9)) : cz_C l yX4_why cX4_why 3 (some .int) 4 96 g b [.ref a, .int x1] M (some (.int r0)) M9 := by
  refine cz_start (by decide) (Nat.le_of_ble_eq_true rfl) (fun p e s m args below meth c X H ls hM hl => ?_)
  have X : cz_X p s m args meth c cX4_why 3 RX4 g b (some .int) := X
  obtain ⟨hx, hb, -, ho, ht, -⟩ := id X
  have hRf : 4 ≤ ({ frames := 4, cells := 0, slots := 0, locals := 96 } : Room).frames := Nat.le_refl _
  have hRl : 96 ≤ ({ frames := 4, cells := 0, slots := 0, locals := 96 } : Room).locals := Nat.le_refl _
  have hl : lv_has ls 3 [(0, .ref a), (1, .int x1)] := hl
  rw [f_X4_why] at h
  refine lv_aload_n hx hb dX4_why_0 rfl (lv_at hl 0 rfl) ?_
  refine cz_getR X hM ff_X4_0 ka lk_X4_12 dX4_why_1 (fun hk1 => ?_)
  refine lv_iload_n hx hb dX4_why_4 rfl (lv_at hl 1 rfl) ?_
  obtain ⟨v2, hq, h⟩ := cz_bd_t h
  refine cz_runV (rest := []) (As := [.int x1]) (T := TX2) (N0 := 9) X hM hl.1 (c_X2_hasLetter (l := l) (g := g) (b := b) hk1 hq) mv_X2_hasLetter rfl (by decide) hk1 ml_X4_86 ⟨Nat.le_trans (Nat.le_of_ble_eq_true rfl) hRf, Nat.le_trans (Nat.le_of_ble_eq_true rfl) hRl⟩ rfl rfl (Nat.le_of_ble_eq_true rfl) dX4_why_5 (fun H locs hM => ?_)
  refine lv_if_ne (tgt := 13) hx hb dX4_why_8 (by decide) (fun c3 => ?_) (fun c3 => ?_)
  · have h := cz_ite_f c3 h
    refine lv_aload_n hx hb dX4_why_13 rfl (lv_at hl 0 rfl) ?_
    refine cz_getR X hM ff_X4_0 ka lk_X4_12 dX4_why_14 (fun hk4 => ?_)
    refine cz_getR X hM ff_X2_3 hk4 lk_X4_90 dX4_why_17 (fun hk5 => ?_)
    refine lv_iload_n hx hb dX4_why_20 rfl (lv_at hl 1 rfl) ?_
    refine cz_aald1 X hM h hk5 dX4_why_21 (fun h hk6 => ?_)
    refine cz_nmr h hk6 (fun r7 h hk8 => ?_)
    refine lv_astore_n (lv' := [(2, .ref r7), (0, .ref a), (1, .int x1)]) hx hb dX4_why_22 rfl hl (by decide) rfl (fun ls hl => ?_)
    refine lv_aload_n hx hb dX4_why_23 rfl (lv_at hl 0 rfl) ?_
    refine cz_getI X hM ff_X1_5 hk8 lk_X4_94 dX4_why_24 ?_
    refine lv_if_eq (tgt := 32) hx hb dX4_why_27 (by decide) (fun c9 => ?_) (fun c9 => ?_)
    · have h := cz_ite_t c9 h
      refine lv_aload_n hx hb dX4_why_32 rfl (lv_at hl 1 rfl) ?_
      refine cz_getR X hM ff_X4_0 ka lk_X4_12 dX4_why_33 (fun hk10 => ?_)
      obtain ⟨M11, hq, h⟩ := cz_bd_t h
      refine cz_runV (rest := []) (As := []) (T := TX2) (N0 := 9) X hM hl.1 (c_X2_judgeWeek (l := l) (g := g) (b := b) hk10 hq) mv_X2_judgeWeek rfl (by decide) hk10 ml_X4_151 ⟨Nat.le_trans (Nat.le_of_ble_eq_true rfl) hRf, Nat.le_trans (Nat.le_of_ble_eq_true rfl) hRl⟩ rfl rfl (Nat.le_of_ble_eq_true rfl) dX4_why_36 (fun H locs hM => ?_)
      refine lv_aload_n hx hb dX4_why_39 rfl (lv_at hl 0 rfl) ?_
      refine cz_getI X hM ff_X1_10 hk8 lk_X4_154 dX4_why_40 ?_
      exact cz_reti X hM h rfl dX4_why_43
    · have h := cz_ite_f c9 h
      refine lv_iconst (v := 1) hx hb dX4_why_30 (by decide) ?_
      exact cz_reti X hM h rfl dX4_why_31
  · have h := cz_ite_t c3 h
    refine lv_iconst (v := -1) hx hb dX4_why_11 (by decide) ?_
    exact cz_reti X hM h rfl dX4_why_12
theorem mv_X4_censor : cz_MV yX4_censor cX4_censor 4 (some .int) RX4 2 := ⟨mi_X4_censor, ms_X4_censor, mc_X4_censor, ini_X4, by decide +kernel⟩
set_option maxHeartbeats 4000000 in
set_option maxRecDepth 100000 in
theorem c_X4_censor {l : Launch} {g : cz_G} {b : Nat} {M : cz_M} {r0 : Int32} {a : Nat} {x1 : Int32} {x2 : Int32} (ka : cz_K b a 4) (h : f_X4_censor M a x1 x2 = some r0) : cz_C l yX4_censor cX4_censor 4 (some .int) 1 23 g b [.ref a, .int x1, .int x2] M (some (.int r0)) M := by
  refine cz_start (by decide) (Nat.le_of_ble_eq_true rfl) (fun p e s m args below meth c X H ls hM hl => ?_)
  have X : cz_X p s m args meth c cX4_censor 4 RX4 g b (some .int) := X
  obtain ⟨hx, hb, -, ho, ht, -⟩ := id X
  have hRf : 1 ≤ ({ frames := 1, cells := 0, slots := 0, locals := 23 } : Room).frames := Nat.le_refl _
  have hRl : 23 ≤ ({ frames := 1, cells := 0, slots := 0, locals := 23 } : Room).locals := Nat.le_refl _
  have hl : lv_has ls 4 [(0, .ref a), (1, .int x1), (2, .int x2)] := hl
  rw [f_X4_censor] at h
  refine lv_iload_n hx hb dX4_censor_0 rfl (lv_at hl 1 rfl) ?_
  refine lv_if_lt (tgt := 9) hx hb dX4_censor_1 (by decide) (fun c1 => ?_) (fun c1 => ?_)
  · have h := cz_ite_t c1 h
    refine lv_iconst (v := -1) hx hb dX4_censor_9 (by decide) ?_
    exact cz_retp X hM h rfl dX4_censor_10
  · have h := cz_ite_f c1 h
    refine lv_iload_n hx hb dX4_censor_4 rfl (lv_at hl 1 rfl) ?_
    refine lv_iconst (v := 4) hx hb dX4_censor_5 (by decide) ?_
    refine lv_icmp_lt (tgt := 11) hx hb dX4_censor_6 (by decide) (fun c2 => ?_) (fun c2 => ?_)
    · have h := cz_ite_t c2 h
      refine lv_aload_n hx hb dX4_censor_11 rfl (lv_at hl 0 rfl) ?_
      refine cz_getR X hM ff_X4_0 ka lk_X4_12 dX4_censor_12 (fun hk3 => ?_)
      refine cz_getR X hM ff_X2_1 hk3 lk_X4_47 dX4_censor_15 (fun hk4 => ?_)
      refine lv_iload_n hx hb dX4_censor_18 rfl (lv_at hl 1 rfl) ?_
      refine cz_aald0 X hM h hk4 dX4_censor_19 (fun h hk5 => ?_)
      refine cz_nmr h hk5 (fun r6 h hk7 => ?_)
      refine lv_astore_n (lv' := [(3, .ref r6), (0, .ref a), (1, .int x1), (2, .int x2)]) hx hb dX4_censor_20 rfl hl (by decide) rfl (fun ls hl => ?_)
      refine lv_iload_n hx hb dX4_censor_21 rfl (lv_at hl 3 rfl) ?_
      by_cases c8 : x2 = (0 : Int32)
      · have h := cz_ite_t c8 h
        refine lv_tableIn (off := 34) (tgt := 56) hx hb dX4_censor_22 (by rw [c8]; decide) (by rw [c8]; decide) (by rw [c8]; rfl) (by decide) ?_
        refine lv_aload_n hx hb dX4_censor_56 rfl (lv_at hl 0 rfl) ?_
        refine cz_getI X hM ff_X0_0 hk7 lk_X4_51 dX4_censor_57 ?_
        exact cz_retp X hM h rfl dX4_censor_60
      have h := cz_ite_f c8 h
      by_cases c9 : x2 = (1 : Int32)
      · have h := cz_ite_t c9 h
        refine lv_tableIn (off := 39) (tgt := 61) hx hb dX4_censor_22 (by rw [c9]; decide) (by rw [c9]; decide) (by rw [c9]; rfl) (by decide) ?_
        refine lv_aload_n hx hb dX4_censor_61 rfl (lv_at hl 1 rfl) ?_
        refine cz_getR X hM ff_X4_0 ka lk_X4_12 dX4_censor_62 (fun hk10 => ?_)
        refine lv_iload_n hx hb dX4_censor_65 rfl (lv_at hl 2 rfl) ?_
        obtain ⟨v11, hq, h⟩ := cz_bd_t h
        refine cz_runV (rest := []) (As := [.int x1]) (T := TX2) (N0 := 9) X hM hl.1 (c_X2_shiftsOf (l := l) (g := g) (b := b) hk10 hq) mv_X2_shiftsOf rfl (by decide) hk10 ml_X4_157 ⟨Nat.le_trans (Nat.le_of_ble_eq_true rfl) hRf, Nat.le_trans (Nat.le_of_ble_eq_true rfl) hRl⟩ rfl rfl (Nat.le_of_ble_eq_true rfl) dX4_censor_66 (fun H locs hM => ?_)
        exact cz_retp X hM h rfl dX4_censor_69
      have h := cz_ite_f c9 h
      by_cases c12 : x2 = (2 : Int32)
      · have h := cz_ite_t c12 h
        refine lv_tableIn (off := 48) (tgt := 70) hx hb dX4_censor_22 (by rw [c12]; decide) (by rw [c12]; decide) (by rw [c12]; rfl) (by decide) ?_
        refine lv_aload_n hx hb dX4_censor_70 rfl (lv_at hl 0 rfl) ?_
        refine cz_getI X hM ff_X0_1 hk7 lk_X4_160 dX4_censor_71 ?_
        exact cz_retp X hM h rfl dX4_censor_74
      have h := cz_ite_f c12 h
      by_cases c13 : x2 = (3 : Int32)
      · have h := cz_ite_t c13 h
        refine lv_tableIn (off := 53) (tgt := 75) hx hb dX4_censor_22 (by rw [c13]; decide) (by rw [c13]; decide) (by rw [c13]; rfl) (by decide) ?_
        refine lv_aload_n hx hb dX4_censor_75 rfl (lv_at hl 0 rfl) ?_
        refine cz_getI X hM ff_X0_2 hk7 lk_X4_163 dX4_censor_76 ?_
        exact cz_retp X hM h rfl dX4_censor_79
      have h := cz_ite_f c13 h
      by_cases c14 : x2 = (4 : Int32)
      · have h := cz_ite_t c14 h
        refine lv_tableIn (off := 58) (tgt := 80) hx hb dX4_censor_22 (by rw [c14]; decide) (by rw [c14]; decide) (by rw [c14]; rfl) (by decide) ?_
        refine lv_aload_n hx hb dX4_censor_80 rfl (lv_at hl 0 rfl) ?_
        refine cz_getI X hM ff_X0_3 hk7 lk_X4_166 dX4_censor_81 ?_
        exact cz_retp X hM h rfl dX4_censor_84
      have h := cz_ite_f c14 h
      refine lv_tableOut (tgt := 85) hx hb dX4_censor_22 (by
        have e0 := lv_neT c8 (show ((0 : Int32)).toInt = 0 from rfl)
        have e1 := lv_neT c9 (show ((1 : Int32)).toInt = 1 from rfl)
        have e2 := lv_neT c12 (show ((2 : Int32)).toInt = 2 from rfl)
        have e3 := lv_neT c13 (show ((3 : Int32)).toInt = 3 from rfl)
        have e4 := lv_neT c14 (show ((4 : Int32)).toInt = 4 from rfl)
        clear h; omega) (by decide) ?_
      refine lv_bipush (v := -2) hx hb dX4_censor_85 (by decide) ?_
      exact cz_retp X hM h rfl dX4_censor_87
    · have h := cz_ite_f c2 h
      refine lv_iconst (v := -1) hx hb dX4_censor_9 (by decide) ?_
      exact cz_retp X hM h rfl dX4_censor_10
theorem mv_X4_onShift : cz_MV yX4_onShift cX4_onShift 3 (some .int) RX4 2 := ⟨mi_X4_onShift, ms_X4_onShift, mc_X4_onShift, ini_X4, by decide +kernel⟩
set_option maxHeartbeats 4000000 in
set_option maxRecDepth 100000 in
theorem c_X4_onShift {l : Launch} {g : cz_G} {b : Nat} {M : cz_M} {r0 : Int32} {a : Nat} {x1 : Int32} {x2 : Int32} (ka : cz_K b a 4) (h : f_X4_onShift M a x1 x2 = some r0) : cz_C l yX4_onShift cX4_onShift 3 (some .int) 1 22 g b [.ref a, .int x1, .int x2] M (some (.int r0)) M := by
  refine cz_start (by decide) (Nat.le_of_ble_eq_true rfl) (fun p e s m args below meth c X H ls hM hl => ?_)
  have X : cz_X p s m args meth c cX4_onShift 3 RX4 g b (some .int) := X
  obtain ⟨hx, hb, -, ho, ht, -⟩ := id X
  have hRf : 1 ≤ ({ frames := 1, cells := 0, slots := 0, locals := 22 } : Room).frames := Nat.le_refl _
  have hRl : 22 ≤ ({ frames := 1, cells := 0, slots := 0, locals := 22 } : Room).locals := Nat.le_refl _
  have hl : lv_has ls 3 [(0, .ref a), (1, .int x1), (2, .int x2)] := hl
  rw [f_X4_onShift] at h
  refine lv_iload_n hx hb dX4_onShift_0 rfl (lv_at hl 2 rfl) ?_
  refine lv_if_lt (tgt := 9) hx hb dX4_onShift_1 (by decide) (fun c1 => ?_) (fun c1 => ?_)
  · have h := cz_ite_t c1 h
    refine lv_iconst (v := -1) hx hb dX4_onShift_9 (by decide) ?_
    exact cz_retp X hM h rfl dX4_onShift_10
  · have h := cz_ite_f c1 h
    refine lv_iload_n hx hb dX4_onShift_4 rfl (lv_at hl 2 rfl) ?_
    refine lv_iconst (v := 2) hx hb dX4_onShift_5 (by decide) ?_
    refine lv_icmp_lt (tgt := 11) hx hb dX4_onShift_6 (by decide) (fun c2 => ?_) (fun c2 => ?_)
    · have h := cz_ite_t c2 h
      refine lv_iload_n hx hb dX4_onShift_11 rfl (lv_at hl 1 rfl) ?_
      refine lv_if_lt (tgt := 22) hx hb dX4_onShift_12 (by decide) (fun c3 => ?_) (fun c3 => ?_)
      · have h := cz_ite_t c3 h
        refine lv_bipush (v := -2) hx hb dX4_onShift_22 (by decide) ?_
        exact cz_retp X hM h rfl dX4_onShift_24
      · have h := cz_ite_f c3 h
        refine lv_iload_n hx hb dX4_onShift_15 rfl (lv_at hl 1 rfl) ?_
        refine lv_sipush (v := 9999) hx hb dX4_onShift_16 (by decide) ?_
        refine lv_icmp_le (tgt := 25) hx hb dX4_onShift_19 (by decide) (fun c4 => ?_) (fun c4 => ?_)
        · have h := cz_ite_t c4 h
          refine lv_aload_n hx hb dX4_onShift_25 rfl (lv_at hl 0 rfl) ?_
          refine cz_getR X hM ff_X4_0 ka lk_X4_12 dX4_onShift_26 (fun hk5 => ?_)
          refine lv_iload_n hx hb dX4_onShift_29 rfl (lv_at hl 1 rfl) ?_
          refine lv_iload_n hx hb dX4_onShift_30 rfl (lv_at hl 2 rfl) ?_
          obtain ⟨v6, hq, h⟩ := cz_bd_t h
          refine cz_runV (rest := []) (As := [.int x1, .int x2]) (T := TX2) (N0 := 9) X hM hl.1 (c_X2_censorNumber (l := l) (g := g) (b := b) hk5 hq) mv_X2_censorNumber rfl (by decide) hk5 ml_X4_169 ⟨Nat.le_trans (Nat.le_of_ble_eq_true rfl) hRf, Nat.le_trans (Nat.le_of_ble_eq_true rfl) hRl⟩ rfl rfl (Nat.le_of_ble_eq_true rfl) dX4_onShift_31 (fun H locs hM => ?_)
          exact cz_retp X hM h rfl dX4_onShift_34
        · have h := cz_ite_f c4 h
          refine lv_bipush (v := -2) hx hb dX4_onShift_22 (by decide) ?_
          exact cz_retp X hM h rfl dX4_onShift_24
    · have h := cz_ite_f c2 h
      refine lv_iconst (v := -1) hx hb dX4_onShift_9 (by decide) ?_
      exact cz_retp X hM h rfl dX4_onShift_10
theorem mv_X4_count : cz_MV yX4_count cX4_count 2 (some .int) RX4 1 := ⟨mi_X4_count, ms_X4_count, mc_X4_count, ini_X4, by decide +kernel⟩
set_option maxHeartbeats 4000000 in
set_option maxRecDepth 100000 in
theorem c_X4_count {l : Launch} {g : cz_G} {b : Nat} {M : cz_M} {r0 : Int32} {M9 : cz_M} {a : Nat} {x1 : Int32} (ka : cz_K b a 4) (h : f_X4_count M a x1 = some (r0, M9)) : cz_C l yX4_count cX4_count 2 (some .int) 3 70 g b [.ref a, .int x1] M (some (.int r0)) M9 := by
  refine cz_start (by decide) (Nat.le_of_ble_eq_true rfl) (fun p e s m args below meth c X H ls hM hl => ?_)
  have X : cz_X p s m args meth c cX4_count 2 RX4 g b (some .int) := X
  obtain ⟨hx, hb, -, ho, ht, -⟩ := id X
  have hRf : 3 ≤ ({ frames := 3, cells := 0, slots := 0, locals := 70 } : Room).frames := Nat.le_refl _
  have hRl : 70 ≤ ({ frames := 3, cells := 0, slots := 0, locals := 70 } : Room).locals := Nat.le_refl _
  have hl : lv_has ls 2 [(0, .ref a), (1, .int x1)] := hl
  rw [f_X4_count] at h
  refine lv_iload_n hx hb dX4_count_0 rfl (lv_at hl 1 rfl) ?_
  by_cases c1 : x1 = (0 : Int32)
  · have h := cz_ite_t c1 h
    refine lv_tableIn (off := 79) (tgt := 80) hx hb dX4_count_1 (by rw [c1]; decide) (by rw [c1]; decide) (by rw [c1]; rfl) (by decide) ?_
    refine lv_aload_n hx hb dX4_count_80 rfl (lv_at hl 0 rfl) ?_
    refine cz_getR X hM ff_X4_0 ka lk_X4_12 dX4_count_81 (fun hk2 => ?_)
    refine cz_getR X hM ff_X2_0 hk2 lk_X4_44 dX4_count_84 (fun hk3 => ?_)
    refine lv_iconst (v := 0) hx hb dX4_count_87 (by decide) ?_
    refine cz_iald (n := 3) X hM h hk3 (by decide) dX4_count_88 (fun h => ?_)
    exact cz_reti X hM h rfl dX4_count_89
  have h := cz_ite_f c1 h
  by_cases c4 : x1 = (1 : Int32)
  · have h := cz_ite_t c4 h
    refine lv_tableIn (off := 89) (tgt := 90) hx hb dX4_count_1 (by rw [c4]; decide) (by rw [c4]; decide) (by rw [c4]; rfl) (by decide) ?_
    refine lv_aload_n hx hb dX4_count_90 rfl (lv_at hl 0 rfl) ?_
    refine cz_getR X hM ff_X4_0 ka lk_X4_12 dX4_count_91 (fun hk5 => ?_)
    refine cz_getR X hM ff_X2_0 hk5 lk_X4_44 dX4_count_94 (fun hk6 => ?_)
    refine lv_iconst (v := 1) hx hb dX4_count_97 (by decide) ?_
    refine cz_iald (n := 3) X hM h hk6 (by decide) dX4_count_98 (fun h => ?_)
    exact cz_reti X hM h rfl dX4_count_99
  have h := cz_ite_f c4 h
  by_cases c7 : x1 = (2 : Int32)
  · have h := cz_ite_t c7 h
    refine lv_tableIn (off := 99) (tgt := 100) hx hb dX4_count_1 (by rw [c7]; decide) (by rw [c7]; decide) (by rw [c7]; rfl) (by decide) ?_
    refine lv_aload_n hx hb dX4_count_100 rfl (lv_at hl 0 rfl) ?_
    refine cz_getR X hM ff_X4_0 ka lk_X4_12 dX4_count_101 (fun hk8 => ?_)
    refine cz_getR X hM ff_X2_0 hk8 lk_X4_44 dX4_count_104 (fun hk9 => ?_)
    refine lv_iconst (v := 2) hx hb dX4_count_107 (by decide) ?_
    refine cz_iald (n := 3) X hM h hk9 (by decide) dX4_count_108 (fun h => ?_)
    exact cz_reti X hM h rfl dX4_count_109
  have h := cz_ite_f c7 h
  by_cases c10 : x1 = (3 : Int32)
  · have h := cz_ite_t c10 h
    refine lv_tableIn (off := 109) (tgt := 110) hx hb dX4_count_1 (by rw [c10]; decide) (by rw [c10]; decide) (by rw [c10]; rfl) (by decide) ?_
    refine lv_aload_n hx hb dX4_count_110 rfl (lv_at hl 0 rfl) ?_
    refine cz_getR X hM ff_X4_0 ka lk_X4_12 dX4_count_111 (fun hk11 => ?_)
    refine cz_getI X hM ff_X2_8 hk11 lk_X4_103 dX4_count_114 ?_
    exact cz_reti X hM h rfl dX4_count_117
  have h := cz_ite_f c10 h
  by_cases c12 : x1 = (4 : Int32)
  · have h := cz_ite_t c12 h
    refine lv_tableIn (off := 117) (tgt := 118) hx hb dX4_count_1 (by rw [c12]; decide) (by rw [c12]; decide) (by rw [c12]; rfl) (by decide) ?_
    refine lv_aload_n hx hb dX4_count_118 rfl (lv_at hl 0 rfl) ?_
    refine cz_getR X hM ff_X4_0 ka lk_X4_12 dX4_count_119 (fun hk13 => ?_)
    refine cz_getI X hM ff_X2_7 hk13 lk_X4_74 dX4_count_122 ?_
    exact cz_reti X hM h rfl dX4_count_125
  have h := cz_ite_f c12 h
  by_cases c14 : x1 = (5 : Int32)
  · have h := cz_ite_t c14 h
    refine lv_tableIn (off := 125) (tgt := 126) hx hb dX4_count_1 (by rw [c14]; decide) (by rw [c14]; decide) (by rw [c14]; rfl) (by decide) ?_
    refine lv_aload_n hx hb dX4_count_126 rfl (lv_at hl 0 rfl) ?_
    refine cz_getR X hM ff_X4_0 ka lk_X4_12 dX4_count_127 (fun hk15 => ?_)
    refine lv_iconst (v := 0) hx hb dX4_count_130 (by decide) ?_
    obtain ⟨v16, hq, h⟩ := cz_bd_t h
    refine cz_runV (rest := []) (As := [.int (0 : Int32)]) (T := TX2) (N0 := 9) X hM hl.1 (c_X2_lettersThatAre (l := l) (g := g) (b := b) hk15 hq) mv_X2_lettersThatAre rfl (by decide) hk15 ml_X4_173 ⟨Nat.le_trans (Nat.le_of_ble_eq_true rfl) hRf, Nat.le_trans (Nat.le_of_ble_eq_true rfl) hRl⟩ rfl rfl (Nat.le_of_ble_eq_true rfl) dX4_count_131 (fun H locs hM => ?_)
    exact cz_reti X hM h rfl dX4_count_134
  have h := cz_ite_f c14 h
  by_cases c17 : x1 = (6 : Int32)
  · have h := cz_ite_t c17 h
    refine lv_tableIn (off := 134) (tgt := 135) hx hb dX4_count_1 (by rw [c17]; decide) (by rw [c17]; decide) (by rw [c17]; rfl) (by decide) ?_
    refine lv_aload_n hx hb dX4_count_135 rfl (lv_at hl 0 rfl) ?_
    refine cz_getR X hM ff_X4_0 ka lk_X4_12 dX4_count_136 (fun hk18 => ?_)
    refine lv_iconst (v := 1) hx hb dX4_count_139 (by decide) ?_
    obtain ⟨v19, hq, h⟩ := cz_bd_t h
    refine cz_runV (rest := []) (As := [.int (1 : Int32)]) (T := TX2) (N0 := 9) X hM hl.1 (c_X2_lettersThatAre (l := l) (g := g) (b := b) hk18 hq) mv_X2_lettersThatAre rfl (by decide) hk18 ml_X4_173 ⟨Nat.le_trans (Nat.le_of_ble_eq_true rfl) hRf, Nat.le_trans (Nat.le_of_ble_eq_true rfl) hRl⟩ rfl rfl (Nat.le_of_ble_eq_true rfl) dX4_count_140 (fun H locs hM => ?_)
    exact cz_reti X hM h rfl dX4_count_143
  have h := cz_ite_f c17 h
  by_cases c20 : x1 = (7 : Int32)
  · have h := cz_ite_t c20 h
    refine lv_tableIn (off := 143) (tgt := 144) hx hb dX4_count_1 (by rw [c20]; decide) (by rw [c20]; decide) (by rw [c20]; rfl) (by decide) ?_
    refine lv_aload_n hx hb dX4_count_144 rfl (lv_at hl 0 rfl) ?_
    refine cz_getR X hM ff_X4_0 ka lk_X4_12 dX4_count_145 (fun hk21 => ?_)
    refine lv_iconst (v := 2) hx hb dX4_count_148 (by decide) ?_
    obtain ⟨v22, hq, h⟩ := cz_bd_t h
    refine cz_runV (rest := []) (As := [.int (2 : Int32)]) (T := TX2) (N0 := 9) X hM hl.1 (c_X2_lettersThatAre (l := l) (g := g) (b := b) hk21 hq) mv_X2_lettersThatAre rfl (by decide) hk21 ml_X4_173 ⟨Nat.le_trans (Nat.le_of_ble_eq_true rfl) hRf, Nat.le_trans (Nat.le_of_ble_eq_true rfl) hRl⟩ rfl rfl (Nat.le_of_ble_eq_true rfl) dX4_count_149 (fun H locs hM => ?_)
    exact cz_reti X hM h rfl dX4_count_152
  have h := cz_ite_f c20 h
  by_cases c23 : x1 = (8 : Int32)
  · have h := cz_ite_t c23 h
    refine lv_tableIn (off := 152) (tgt := 153) hx hb dX4_count_1 (by rw [c23]; decide) (by rw [c23]; decide) (by rw [c23]; rfl) (by decide) ?_
    refine lv_aload_n hx hb dX4_count_153 rfl (lv_at hl 0 rfl) ?_
    refine cz_getR X hM ff_X4_0 ka lk_X4_12 dX4_count_154 (fun hk24 => ?_)
    refine cz_getR X hM ff_X2_4 hk24 lk_X4_118 dX4_count_157 (fun hk25 => ?_)
    refine lv_iconst (v := 0) hx hb dX4_count_160 (by decide) ?_
    refine cz_aald2 X hM h hk25 dX4_count_161 (fun h hk26 => ?_)
    refine cz_getI X hM ff_X3_1 hk26 lk_X4_176 dX4_count_162 ?_
    exact cz_reti X hM h rfl dX4_count_165
  have h := cz_ite_f c23 h
  by_cases c27 : x1 = (9 : Int32)
  · have h := cz_ite_t c27 h
    refine lv_tableIn (off := 165) (tgt := 166) hx hb dX4_count_1 (by rw [c27]; decide) (by rw [c27]; decide) (by rw [c27]; rfl) (by decide) ?_
    refine lv_aload_n hx hb dX4_count_166 rfl (lv_at hl 0 rfl) ?_
    refine cz_getR X hM ff_X4_0 ka lk_X4_12 dX4_count_167 (fun hk28 => ?_)
    refine cz_getR X hM ff_X2_4 hk28 lk_X4_118 dX4_count_170 (fun hk29 => ?_)
    refine lv_iconst (v := 1) hx hb dX4_count_173 (by decide) ?_
    refine cz_aald2 X hM h hk29 dX4_count_174 (fun h hk30 => ?_)
    refine cz_getI X hM ff_X3_1 hk30 lk_X4_176 dX4_count_175 ?_
    exact cz_reti X hM h rfl dX4_count_178
  have h := cz_ite_f c27 h
  by_cases c31 : x1 = (10 : Int32)
  · have h := cz_ite_t c31 h
    refine lv_tableIn (off := 178) (tgt := 179) hx hb dX4_count_1 (by rw [c31]; decide) (by rw [c31]; decide) (by rw [c31]; rfl) (by decide) ?_
    refine lv_aload_n hx hb dX4_count_179 rfl (lv_at hl 0 rfl) ?_
    refine cz_getR X hM ff_X4_0 ka lk_X4_12 dX4_count_180 (fun hk32 => ?_)
    obtain ⟨v33, hq, h⟩ := cz_bd_t h
    refine cz_runV (rest := []) (As := []) (T := TX2) (N0 := 9) X hM hl.1 (c_X2_allDelays (l := l) (g := g) (b := b) hk32 hq) mv_X2_allDelays rfl (by decide) hk32 ml_X4_179 ⟨Nat.le_trans (Nat.le_of_ble_eq_true rfl) hRf, Nat.le_trans (Nat.le_of_ble_eq_true rfl) hRl⟩ rfl rfl (Nat.le_of_ble_eq_true rfl) dX4_count_183 (fun H locs hM => ?_)
    exact cz_reti X hM h rfl dX4_count_186
  have h := cz_ite_f c31 h
  by_cases c34 : x1 = (11 : Int32)
  · have h := cz_ite_t c34 h
    refine lv_tableIn (off := 186) (tgt := 187) hx hb dX4_count_1 (by rw [c34]; decide) (by rw [c34]; decide) (by rw [c34]; rfl) (by decide) ?_
    refine lv_aload_n hx hb dX4_count_187 rfl (lv_at hl 0 rfl) ?_
    refine cz_getR X hM ff_X4_0 ka lk_X4_12 dX4_count_188 (fun hk35 => ?_)
    obtain ⟨v36, hq, h⟩ := cz_bd_t h
    refine cz_runV (rest := []) (As := []) (T := TX2) (N0 := 9) X hM hl.1 (c_X2_longestDelay (l := l) (g := g) (b := b) hk35 hq) mv_X2_longestDelay rfl (by decide) hk35 ml_X4_182 ⟨Nat.le_trans (Nat.le_of_ble_eq_true rfl) hRf, Nat.le_trans (Nat.le_of_ble_eq_true rfl) hRl⟩ rfl rfl (Nat.le_of_ble_eq_true rfl) dX4_count_191 (fun H locs hM => ?_)
    exact cz_reti X hM h rfl dX4_count_194
  have h := cz_ite_f c34 h
  by_cases c37 : x1 = (12 : Int32)
  · have h := cz_ite_t c37 h
    refine lv_tableIn (off := 194) (tgt := 195) hx hb dX4_count_1 (by rw [c37]; decide) (by rw [c37]; decide) (by rw [c37]; rfl) (by decide) ?_
    refine lv_aload_n hx hb dX4_count_195 rfl (lv_at hl 0 rfl) ?_
    refine cz_getR X hM ff_X4_0 ka lk_X4_12 dX4_count_196 (fun hk38 => ?_)
    obtain ⟨v39, hq, h⟩ := cz_bd_t h
    refine cz_runV (rest := []) (As := []) (T := TX2) (N0 := 9) X hM hl.1 (c_X2_wordsStruckInLetters (l := l) (g := g) (b := b) hk38 hq) mv_X2_wordsStruckInLetters rfl (by decide) hk38 ml_X4_185 ⟨Nat.le_trans (Nat.le_of_ble_eq_true rfl) hRf, Nat.le_trans (Nat.le_of_ble_eq_true rfl) hRl⟩ rfl rfl (Nat.le_of_ble_eq_true rfl) dX4_count_199 (fun H locs hM => ?_)
    exact cz_reti X hM h rfl dX4_count_202
  have h := cz_ite_f c37 h
  by_cases c40 : x1 = (13 : Int32)
  · have h := cz_ite_t c40 h
    refine lv_tableIn (off := 202) (tgt := 203) hx hb dX4_count_1 (by rw [c40]; decide) (by rw [c40]; decide) (by rw [c40]; rfl) (by decide) ?_
    refine lv_aload_n hx hb dX4_count_203 rfl (lv_at hl 0 rfl) ?_
    refine cz_getR X hM ff_X4_0 ka lk_X4_12 dX4_count_204 (fun hk41 => ?_)
    obtain ⟨v43, M42, hq, h⟩ := cz_b2_t h
    refine cz_runV (rest := []) (As := []) (T := TX2) (N0 := 9) X hM hl.1 (c_X2_threadsThatWait (l := l) (g := g) (b := b) hk41 hq) mv_X2_threadsThatWait rfl (by decide) hk41 ml_X4_188 ⟨Nat.le_trans (Nat.le_of_ble_eq_true rfl) hRf, Nat.le_trans (Nat.le_of_ble_eq_true rfl) hRl⟩ rfl rfl (Nat.le_of_ble_eq_true rfl) dX4_count_207 (fun H locs hM => ?_)
    exact cz_reti X hM h rfl dX4_count_210
  have h := cz_ite_f c40 h
  by_cases c44 : x1 = (14 : Int32)
  · have h := cz_ite_t c44 h
    refine lv_tableIn (off := 210) (tgt := 211) hx hb dX4_count_1 (by rw [c44]; decide) (by rw [c44]; decide) (by rw [c44]; rfl) (by decide) ?_
    refine lv_aload_n hx hb dX4_count_211 rfl (lv_at hl 0 rfl) ?_
    refine cz_getI X hM ff_X4_7 ka lk_X4_83 dX4_count_212 ?_
    exact cz_reti X hM h rfl dX4_count_215
  have h := cz_ite_f c44 h
  by_cases c45 : x1 = (15 : Int32)
  · have h := cz_ite_t c45 h
    refine lv_tableIn (off := 215) (tgt := 216) hx hb dX4_count_1 (by rw [c45]; decide) (by rw [c45]; decide) (by rw [c45]; rfl) (by decide) ?_
    refine lv_aload_n hx hb dX4_count_216 rfl (lv_at hl 0 rfl) ?_
    refine cz_getI X hM ff_X4_6 ka lk_X4_191 dX4_count_217 ?_
    exact cz_reti X hM h rfl dX4_count_220
  have h := cz_ite_f c45 h
  refine lv_tableOut (tgt := 221) hx hb dX4_count_1 (by
    have e0 := lv_neT c1 (show ((0 : Int32)).toInt = 0 from rfl)
    have e1 := lv_neT c4 (show ((1 : Int32)).toInt = 1 from rfl)
    have e2 := lv_neT c7 (show ((2 : Int32)).toInt = 2 from rfl)
    have e3 := lv_neT c10 (show ((3 : Int32)).toInt = 3 from rfl)
    have e4 := lv_neT c12 (show ((4 : Int32)).toInt = 4 from rfl)
    have e5 := lv_neT c14 (show ((5 : Int32)).toInt = 5 from rfl)
    have e6 := lv_neT c17 (show ((6 : Int32)).toInt = 6 from rfl)
    have e7 := lv_neT c20 (show ((7 : Int32)).toInt = 7 from rfl)
    have e8 := lv_neT c23 (show ((8 : Int32)).toInt = 8 from rfl)
    have e9 := lv_neT c27 (show ((9 : Int32)).toInt = 9 from rfl)
    have e10 := lv_neT c31 (show ((10 : Int32)).toInt = 10 from rfl)
    have e11 := lv_neT c34 (show ((11 : Int32)).toInt = 11 from rfl)
    have e12 := lv_neT c37 (show ((12 : Int32)).toInt = 12 from rfl)
    have e13 := lv_neT c40 (show ((13 : Int32)).toInt = 13 from rfl)
    have e14 := lv_neT c44 (show ((14 : Int32)).toInt = 14 from rfl)
    have e15 := lv_neT c45 (show ((15 : Int32)).toInt = 15 from rfl)
    clear h; omega) (by decide) ?_
  refine lv_bipush (v := -2) hx hb dX4_count_221 (by decide) ?_
  exact cz_reti X hM h rfl dX4_count_223
theorem mv_X4_untilCome : cz_MV yX4_untilCome cX4_untilCome 4 (some .int) RX4 1 := ⟨mi_X4_untilCome, ms_X4_untilCome, mc_X4_untilCome, ini_X4, by decide +kernel⟩
set_option maxHeartbeats 4000000 in
set_option maxRecDepth 100000 in
theorem w_X4_untilCome_L36 {p : Program} {l : Launch} {e : Env} {R : Room} {s : State} {m : MethodId} {args : Array Value} {below : List Frame} {meth : Method} {c : Code} {g : cz_G} {b : Nat} (X : cz_X p s m args meth c cX4_untilCome 4 RX4 g b (some .int)) (hRf : 5 ≤ R.frames) (hRl : 118 ≤ R.locals) {r0 : Int32} {M9 : cz_M} {a0 : Nat} {a2 : Nat} (ka0 : cz_K b a0 4) (ka2 : cz_K b a2 1)
    (K : Int32 → cz_M → Option (Int32 × cz_M)) (hX : ∀ (x3 : Int32) (M : cz_M) (H : Heap) (locs : List Loc) (ls : Array Slot), K x3 M = some (r0, M9) → cz_WS g b M s H locs → lv_has ls 4 [(0, .ref a0), (2, .ref a2), (3, .int x3)] → W p l e R s m args below meth c H locs 0 0 (MQ below (cz_Q g b (some (.int r0)) M9) args s 0 0 (fun q => b ≤ q)) (F0 m 63 ls [])) :
    ∀ (n : Nat) (x3 : Int32) (M : cz_M) (H : Heap) (locs : List Loc) (ls : Array Slot), cz_it2 (f_X4_untilCome_L36 a0 a2 K) n x3 M = some (r0, M9) → cz_WS g b M s H locs → lv_has ls 4 [(0, .ref a0), (2, .ref a2), (3, .int x3)] → W p l e R s m args below meth c H locs 0 0 (MQ below (cz_Q g b (some (.int r0)) M9) args s 0 0 (fun q => b ≤ q)) (F0 m 36 ls []) := by
  obtain ⟨hx, hb, -, ho, ht, -⟩ := id X
  intro n
  induction n with
  | zero => intro x3 M H locs ls h; cases (show none = some _ from h)
  | succ n ih =>
    intro x3 M H locs ls h hM hl
    have h : f_X4_untilCome_L36 a0 a2 K (cz_it2 (f_X4_untilCome_L36 a0 a2 K) n) x3 M = some (r0, M9) := h
    rw [f_X4_untilCome_L36] at h
    refine lv_iload_n hx hb dX4_untilCome_36 rfl (lv_at hl 2 rfl) ?_
    refine lv_bipush (v := 100) hx hb dX4_untilCome_37 (by decide) ?_
    refine lv_icmp_ge (tgt := 63) hx hb dX4_untilCome_39 (by decide) (fun c12 => ?_) (fun c12 => ?_)
    · have h := cz_ite_t c12 h
      exact hX _ _ _ _ _ h hM (lv_sub hl [0, 1, 2] rfl)
    · have h := cz_ite_f c12 h
      refine lv_aload_n hx hb dX4_untilCome_42 rfl (lv_at hl 1 rfl) ?_
      refine cz_getI X hM ff_X1_5 ka2 lk_X4_94 dX4_untilCome_43 ?_
      refine lv_if_ne (tgt := 63) hx hb dX4_untilCome_46 (by decide) (fun c13 => ?_) (fun c13 => ?_)
      · have h := cz_ite_f c13 h
        exact hX _ _ _ _ _ h hM (lv_sub hl [0, 1, 2] rfl)
      · have h := cz_ite_t c13 h
        refine lv_aload_n hx hb dX4_untilCome_49 rfl (lv_at hl 0 rfl) ?_
        refine cz_getR X hM ff_X4_1 ka0 lk_X4_16 dX4_untilCome_50 (fun hk14 => ?_)
        obtain ⟨v16, M15, hq, h⟩ := cz_b2_t h
        refine cz_runV (rest := []) (As := []) (T := TX2) (N0 := 9) X hM hl.1 (c_X2_passWeek (l := l) (g := g) (b := b) hk14 hq) mv_X2_passWeek rfl (by decide) hk14 ml_X4_198 ⟨Nat.le_trans (Nat.le_of_ble_eq_true rfl) hRf, Nat.le_trans (Nat.le_of_ble_eq_true rfl) hRl⟩ rfl rfl (Nat.le_of_ble_eq_true rfl) dX4_untilCome_53 (fun H locs hM => ?_)
        refine lv_pop hx hb dX4_untilCome_56 rfl ?_
        refine cz_nmL (v := x3 + 1) h (fun v17 e18 h => ?_)
        refine lv_iinc (v := v17) (lv' := [(3, .int v17), (0, .ref a0), (2, .ref a2)]) hx hb dX4_untilCome_57 hl (k := 2) rfl (by rw [e18]; rfl) (by decide) rfl (fun ls hl => ?_)
        refine lv_goto (tgt := 36) hx hb dX4_untilCome_60 (by decide) ?_
        exact ih _ _ _ _ _ h hM (lv_sub hl [1, 2, 0] rfl)
set_option maxHeartbeats 4000000 in
set_option maxRecDepth 100000 in
theorem c_X4_untilCome {l : Launch} {g : cz_G} {b : Nat} {M : cz_M} {r0 : Int32} {M9 : cz_M} {a : Nat} {x1 : Int32} (ka : cz_K b a 4) (h : f_X4_untilCome M a x1 = some (r0, M9)) : cz_C l yX4_untilCome cX4_untilCome 4 (some .int) 5 118 g b [.ref a, .int x1] M (some (.int r0)) M9 := by
  refine cz_start (by decide) (Nat.le_of_ble_eq_true rfl) (fun p e s m args below meth c X H ls hM hl => ?_)
  have X : cz_X p s m args meth c cX4_untilCome 4 RX4 g b (some .int) := X
  obtain ⟨hx, hb, -, ho, ht, -⟩ := id X
  have hRf : 5 ≤ ({ frames := 5, cells := 0, slots := 0, locals := 118 } : Room).frames := Nat.le_refl _
  have hRl : 118 ≤ ({ frames := 5, cells := 0, slots := 0, locals := 118 } : Room).locals := Nat.le_refl _
  have hl : lv_has ls 4 [(0, .ref a), (1, .int x1)] := hl
  rw [f_X4_untilCome] at h
  refine lv_aload_n hx hb dX4_untilCome_0 rfl (lv_at hl 0 rfl) ?_
  refine cz_getR X hM ff_X4_0 ka lk_X4_12 dX4_untilCome_1 (fun hk1 => ?_)
  refine lv_iload_n hx hb dX4_untilCome_4 rfl (lv_at hl 1 rfl) ?_
  obtain ⟨v2, hq, h⟩ := cz_bd_t h
  refine cz_runV (rest := []) (As := [.int x1]) (T := TX2) (N0 := 9) X hM hl.1 (c_X2_hasLetter (l := l) (g := g) (b := b) hk1 hq) mv_X2_hasLetter rfl (by decide) hk1 ml_X4_86 ⟨Nat.le_trans (Nat.le_of_ble_eq_true rfl) hRf, Nat.le_trans (Nat.le_of_ble_eq_true rfl) hRl⟩ rfl rfl (Nat.le_of_ble_eq_true rfl) dX4_untilCome_5 (fun H locs hM => ?_)
  refine lv_if_ne (tgt := 13) hx hb dX4_untilCome_8 (by decide) (fun c3 => ?_) (fun c3 => ?_)
  · have h := cz_ite_f c3 h
    refine lv_aload_n hx hb dX4_untilCome_13 rfl (lv_at hl 0 rfl) ?_
    refine cz_getR X hM ff_X4_1 ka lk_X4_16 dX4_untilCome_14 (fun hk4 => ?_)
    refine lv_aload_n hx hb dX4_untilCome_17 rfl (lv_at hl 0 rfl) ?_
    refine cz_getR X hM ff_X4_0 ka lk_X4_12 dX4_untilCome_18 (fun hk5 => ?_)
    obtain ⟨M6, hq, h⟩ := cz_bd_t h
    refine cz_runV (rest := []) (As := [.ref (a + 1)]) (T := TX2) (N0 := 9) X hM hl.1 (c_X2_copyFrom (l := l) (g := g) (b := b) hk4 hk5 hq) mv_X2_copyFrom rfl (by decide) hk4 ml_X4_194 ⟨Nat.le_trans (Nat.le_of_ble_eq_true rfl) hRf, Nat.le_trans (Nat.le_of_ble_eq_true rfl) hRl⟩ rfl rfl (Nat.le_of_ble_eq_true rfl) dX4_untilCome_21 (fun H locs hM => ?_)
    refine lv_aload_n hx hb dX4_untilCome_24 rfl (lv_at hl 0 rfl) ?_
    refine cz_getR X hM ff_X4_1 ka lk_X4_16 dX4_untilCome_25 (fun hk7 => ?_)
    refine cz_getR X hM ff_X2_3 hk7 lk_X4_90 dX4_untilCome_28 (fun hk8 => ?_)
    refine lv_iload_n hx hb dX4_untilCome_31 rfl (lv_at hl 1 rfl) ?_
    refine cz_aald1 X hM h hk8 dX4_untilCome_32 (fun h hk9 => ?_)
    refine cz_nmr h hk9 (fun r10 h hk11 => ?_)
    refine lv_astore_n (lv' := [(2, .ref r10), (0, .ref a), (1, .int x1)]) hx hb dX4_untilCome_33 rfl hl (by decide) rfl (fun ls hl => ?_)
    refine lv_iconst (v := 0) hx hb dX4_untilCome_34 (by decide) ?_
    refine lv_istore_n (lv' := [(3, .int (0 : Int32)), (2, .ref r10), (0, .ref a), (1, .int x1)]) hx hb dX4_untilCome_35 rfl hl (by decide) rfl (fun ls hl => ?_)
    refine w_X4_untilCome_L36 X hRf hRl ka hk11 _ (fun x19 M20 H locs ls h hM hl => ?_) _ _ _ _ _ _ h hM (lv_sub hl [2, 1, 0] rfl)
    refine lv_aload_n hx hb dX4_untilCome_63 rfl (lv_at hl 1 rfl) ?_
    refine cz_getI X hM ff_X1_5 hk11 lk_X4_94 dX4_untilCome_64 ?_
    refine lv_iconst (v := 1) hx hb dX4_untilCome_67 (by decide) ?_
    refine lv_icmp_ne (tgt := 75) hx hb dX4_untilCome_68 (by decide) (fun c21 => ?_) (fun c21 => ?_)
    · have h := cz_ite_f c21 h
      refine lv_bipush (v := -6) hx hb dX4_untilCome_75 (by decide) ?_
      exact cz_reti X hM h rfl dX4_untilCome_77
    · have h := cz_ite_t c21 h
      refine lv_iload_n hx hb dX4_untilCome_71 rfl (lv_at hl 2 rfl) ?_
      refine lv_goto (tgt := 77) hx hb dX4_untilCome_72 (by decide) ?_
      exact cz_reti X hM h rfl dX4_untilCome_77
  · have h := cz_ite_t c3 h
    refine lv_iconst (v := -1) hx hb dX4_untilCome_11 (by decide) ?_
    exact cz_reti X hM h rfl dX4_untilCome_12
theorem mv_X4_ifPassed : cz_MV yX4_ifPassed cX4_ifPassed 4 (some .int) RX4 2 := ⟨mi_X4_ifPassed, ms_X4_ifPassed, mc_X4_ifPassed, ini_X4, by decide +kernel⟩
set_option maxHeartbeats 4000000 in
set_option maxRecDepth 100000 in
theorem c_X4_ifPassed {l : Launch} {g : cz_G} {b : Nat} {M : cz_M} {r0 : Int32} {M9 : cz_M} {a : Nat} {x1 : Int32} {x2 : Int32} (ka : cz_K b a 4) (h : f_X4_ifPassed M a x1 x2 = some (r0, M9)) : cz_C l yX4_ifPassed cX4_ifPassed 4 (some .int) 6 141 g b [.ref a, .int x1, .int x2] M (some (.int r0)) M9 := by
  refine cz_start (by decide) (Nat.le_of_ble_eq_true rfl) (fun p e s m args below meth c X H ls hM hl => ?_)
  have X : cz_X p s m args meth c cX4_ifPassed 4 RX4 g b (some .int) := X
  obtain ⟨hx, hb, -, ho, ht, -⟩ := id X
  have hRf : 6 ≤ ({ frames := 6, cells := 0, slots := 0, locals := 141 } : Room).frames := Nat.le_refl _
  have hRl : 141 ≤ ({ frames := 6, cells := 0, slots := 0, locals := 141 } : Room).locals := Nat.le_refl _
  have hl : lv_has ls 4 [(0, .ref a), (1, .int x1), (2, .int x2)] := hl
  rw [f_X4_ifPassed] at h
  refine lv_iload_n hx hb dX4_ifPassed_0 rfl (lv_at hl 1 rfl) ?_
  refine lv_iconst (v := 1) hx hb dX4_ifPassed_1 (by decide) ?_
  refine lv_icmp_lt (tgt := 20) hx hb dX4_ifPassed_2 (by decide) (fun c1 => ?_) (fun c1 => ?_)
  · have h := cz_ite_t c1 h
    refine lv_bipush (v := -2) hx hb dX4_ifPassed_20 (by decide) ?_
    exact cz_reti X hM h rfl dX4_ifPassed_22
  · have h := cz_ite_f c1 h
    refine lv_iload_n hx hb dX4_ifPassed_5 rfl (lv_at hl 1 rfl) ?_
    refine lv_bipush (v := 100) hx hb dX4_ifPassed_6 (by decide) ?_
    refine lv_icmp_gt (tgt := 20) hx hb dX4_ifPassed_8 (by decide) (fun c2 => ?_) (fun c2 => ?_)
    · have h := cz_ite_t c2 h
      refine lv_bipush (v := -2) hx hb dX4_ifPassed_20 (by decide) ?_
      exact cz_reti X hM h rfl dX4_ifPassed_22
    · have h := cz_ite_f c2 h
      refine lv_iload_n hx hb dX4_ifPassed_11 rfl (lv_at hl 2 rfl) ?_
      refine lv_if_lt (tgt := 20) hx hb dX4_ifPassed_12 (by decide) (fun c3 => ?_) (fun c3 => ?_)
      · have h := cz_ite_t c3 h
        refine lv_bipush (v := -2) hx hb dX4_ifPassed_20 (by decide) ?_
        exact cz_reti X hM h rfl dX4_ifPassed_22
      · have h := cz_ite_f c3 h
        refine lv_iload_n hx hb dX4_ifPassed_15 rfl (lv_at hl 2 rfl) ?_
        refine lv_iconst (v := 2) hx hb dX4_ifPassed_16 (by decide) ?_
        refine lv_icmp_le (tgt := 23) hx hb dX4_ifPassed_17 (by decide) (fun c4 => ?_) (fun c4 => ?_)
        · have h := cz_ite_t c4 h
          refine lv_aload_n hx hb dX4_ifPassed_23 rfl (lv_at hl 0 rfl) ?_
          refine cz_getR X hM ff_X4_1 ka lk_X4_16 dX4_ifPassed_24 (fun hk5 => ?_)
          refine lv_aload_n hx hb dX4_ifPassed_27 rfl (lv_at hl 0 rfl) ?_
          refine cz_getR X hM ff_X4_0 ka lk_X4_12 dX4_ifPassed_28 (fun hk6 => ?_)
          obtain ⟨M7, hq, h⟩ := cz_bd_t h
          refine cz_runV (rest := []) (As := [.ref (a + 1)]) (T := TX2) (N0 := 9) X hM hl.1 (c_X2_copyFrom (l := l) (g := g) (b := b) hk5 hk6 hq) mv_X2_copyFrom rfl (by decide) hk5 ml_X4_194 ⟨Nat.le_trans (Nat.le_of_ble_eq_true rfl) hRf, Nat.le_trans (Nat.le_of_ble_eq_true rfl) hRl⟩ rfl rfl (Nat.le_of_ble_eq_true rfl) dX4_ifPassed_31 (fun H locs hM => ?_)
          refine lv_aload_n hx hb dX4_ifPassed_34 rfl (lv_at hl 0 rfl) ?_
          refine cz_getR X hM ff_X4_1 ka lk_X4_16 dX4_ifPassed_35 (fun hk8 => ?_)
          refine lv_iload_n hx hb dX4_ifPassed_38 rfl (lv_at hl 1 rfl) ?_
          obtain ⟨v10, M9, hq, h⟩ := cz_b2_t h
          refine cz_runV (rest := []) (As := [.int x1]) (T := TX2) (N0 := 9) X hM hl.1 (c_X2_passWeeks (l := l) (g := g) (b := b) hk8 hq) mv_X2_passWeeks rfl (by decide) hk8 ml_X4_109 ⟨Nat.le_trans (Nat.le_of_ble_eq_true rfl) hRf, Nat.le_trans (Nat.le_of_ble_eq_true rfl) hRl⟩ rfl rfl (Nat.le_of_ble_eq_true rfl) dX4_ifPassed_39 (fun H locs hM => ?_)
          refine lv_istore_n (lv' := [(3, .int v10), (0, .ref a), (1, .int x1), (2, .int x2)]) hx hb dX4_ifPassed_42 rfl hl (by decide) rfl (fun ls hl => ?_)
          refine lv_iload_n hx hb dX4_ifPassed_43 rfl (lv_at hl 3 rfl) ?_
          by_cases c11 : x2 = (0 : Int32)
          · have h := cz_ite_t c11 h
            refine lv_lookup (off := 28) (tgt := 72) hx hb dX4_ifPassed_44 (by decide) (by rw [c11]; rfl) (by decide) ?_
            refine lv_iload_n hx hb dX4_ifPassed_72 rfl (lv_at hl 0 rfl) ?_
            exact cz_reti X hM h rfl dX4_ifPassed_73
          have h := cz_ite_f c11 h
          by_cases c12 : x2 = (1 : Int32)
          · have h := cz_ite_t c12 h
            refine lv_lookup (off := 30) (tgt := 74) hx hb dX4_ifPassed_44 (by decide) (by rw [c12]; rfl) (by decide) ?_
            refine lv_aload_n hx hb dX4_ifPassed_74 rfl (lv_at hl 1 rfl) ?_
            refine cz_getR X hM ff_X4_1 ka lk_X4_16 dX4_ifPassed_75 (fun hk13 => ?_)
            refine lv_iconst (v := 2) hx hb dX4_ifPassed_78 (by decide) ?_
            obtain ⟨v14, hq, h⟩ := cz_bd_t h
            refine cz_runV (rest := []) (As := [.int (2 : Int32)]) (T := TX2) (N0 := 9) X hM hl.1 (c_X2_lettersThatAre (l := l) (g := g) (b := b) hk13 hq) mv_X2_lettersThatAre rfl (by decide) hk13 ml_X4_173 ⟨Nat.le_trans (Nat.le_of_ble_eq_true rfl) hRf, Nat.le_trans (Nat.le_of_ble_eq_true rfl) hRl⟩ rfl rfl (Nat.le_of_ble_eq_true rfl) dX4_ifPassed_79 (fun H locs hM => ?_)
            refine lv_aload_n hx hb dX4_ifPassed_82 rfl (lv_at hl 1 rfl) ?_
            refine cz_getR X hM ff_X4_0 ka lk_X4_12 dX4_ifPassed_83 (fun hk15 => ?_)
            refine lv_iconst (v := 2) hx hb dX4_ifPassed_86 (by decide) ?_
            obtain ⟨v16, hq, h⟩ := cz_bd_t h
            refine cz_runV (rest := [.int v14]) (As := [.int (2 : Int32)]) (T := TX2) (N0 := 9) X hM hl.1 (c_X2_lettersThatAre (l := l) (g := g) (b := b) hk15 hq) mv_X2_lettersThatAre rfl (by decide) hk15 ml_X4_173 ⟨Nat.le_trans (Nat.le_of_ble_eq_true rfl) hRf, Nat.le_trans (Nat.le_of_ble_eq_true rfl) hRl⟩ rfl rfl (Nat.le_of_ble_eq_true rfl) dX4_ifPassed_87 (fun H locs hM => ?_)
            refine lv_isub hx hb dX4_ifPassed_90 ?_
            exact cz_reti X hM h rfl dX4_ifPassed_91
          have h := cz_ite_f c12 h
          refine lv_lookup (off := 48) (tgt := 92) hx hb dX4_ifPassed_44 (by decide) (by show Op.lookupswitch.offset [(0, 28), (1, 30)] 48 _ = 48; rw [lv_osw c11 (show ((0 : Int32)).toInt = 0 from rfl), lv_osw c12 (show ((1 : Int32)).toInt = 1 from rfl)]; rfl) (by decide) ?_
          refine lv_aload_n hx hb dX4_ifPassed_92 rfl (lv_at hl 1 rfl) ?_
          refine cz_getR X hM ff_X4_1 ka lk_X4_16 dX4_ifPassed_93 (fun hk17 => ?_)
          obtain ⟨v18, hq, h⟩ := cz_bd_t h
          refine cz_runV (rest := []) (As := []) (T := TX2) (N0 := 9) X hM hl.1 (c_X2_wordsStruckInLetters (l := l) (g := g) (b := b) hk17 hq) mv_X2_wordsStruckInLetters rfl (by decide) hk17 ml_X4_185 ⟨Nat.le_trans (Nat.le_of_ble_eq_true rfl) hRf, Nat.le_trans (Nat.le_of_ble_eq_true rfl) hRl⟩ rfl rfl (Nat.le_of_ble_eq_true rfl) dX4_ifPassed_96 (fun H locs hM => ?_)
          refine lv_aload_n hx hb dX4_ifPassed_99 rfl (lv_at hl 1 rfl) ?_
          refine cz_getR X hM ff_X4_0 ka lk_X4_12 dX4_ifPassed_100 (fun hk19 => ?_)
          obtain ⟨v20, hq, h⟩ := cz_bd_t h
          refine cz_runV (rest := [.int v18]) (As := []) (T := TX2) (N0 := 9) X hM hl.1 (c_X2_wordsStruckInLetters (l := l) (g := g) (b := b) hk19 hq) mv_X2_wordsStruckInLetters rfl (by decide) hk19 ml_X4_185 ⟨Nat.le_trans (Nat.le_of_ble_eq_true rfl) hRf, Nat.le_trans (Nat.le_of_ble_eq_true rfl) hRl⟩ rfl rfl (Nat.le_of_ble_eq_true rfl) dX4_ifPassed_103 (fun H locs hM => ?_)
          refine lv_isub hx hb dX4_ifPassed_106 ?_
          exact cz_reti X hM h rfl dX4_ifPassed_107
        · have h := cz_ite_f c4 h
          refine lv_bipush (v := -2) hx hb dX4_ifPassed_20 (by decide) ?_
          exact cz_reti X hM h rfl dX4_ifPassed_22
theorem mv_X4_bestTrade : cz_MV yX4_bestTrade cX4_bestTrade 6 (some .int) RX4 0 := ⟨mi_X4_bestTrade, ms_X4_bestTrade, mc_X4_bestTrade, ini_X4, by decide +kernel⟩
set_option maxHeartbeats 4000000 in
set_option maxRecDepth 100000 in
theorem w_X4_bestTrade_L36 {p : Program} {l : Launch} {e : Env} {R : Room} {s : State} {m : MethodId} {args : Array Value} {below : List Frame} {meth : Method} {c : Code} {g : cz_G} {b : Nat} (X : cz_X p s m args meth c cX4_bestTrade 6 RX4 g b (some .int)) (hRf : 6 ≤ R.frames) (hRl : 141 ≤ R.locals) {r0 : Int32} {M9 : cz_M} {a0 : Nat} {x3 : Int32} (ka0 : cz_K b a0 4)
    (K : Int32 → Int32 → Int32 → cz_M → Option (Int32 × cz_M)) (hX : ∀ (x1 : Int32) (x2 : Int32) (x4 : Int32) (M : cz_M) (H : Heap) (locs : List Loc) (ls : Array Slot), K x1 x2 x4 M = some (r0, M9) → cz_WS g b M s H locs → lv_has ls 6 [(0, .ref a0), (1, .int x1), (2, .int x2), (3, .int x3), (4, .int x4)] → W p l e R s m args below meth c H locs 0 0 (MQ below (cz_Q g b (some (.int r0)) M9) args s 0 0 (fun q => b ≤ q)) (F0 m 97 ls [])) :
    ∀ (n : Nat) (x1 : Int32) (x2 : Int32) (x4 : Int32) (M : cz_M) (H : Heap) (locs : List Loc) (ls : Array Slot), cz_it4 (f_X4_bestTrade_L36 a0 x3 K) n x1 x2 x4 M = some (r0, M9) → cz_WS g b M s H locs → lv_has ls 6 [(0, .ref a0), (1, .int x1), (2, .int x2), (3, .int x3), (4, .int x4)] → W p l e R s m args below meth c H locs 0 0 (MQ below (cz_Q g b (some (.int r0)) M9) args s 0 0 (fun q => b ≤ q)) (F0 m 36 ls []) := by
  obtain ⟨hx, hb, -, ho, ht, -⟩ := id X
  intro n
  induction n with
  | zero => intro x1 x2 x4 M H locs ls h; cases (show none = some _ from h)
  | succ n ih =>
    intro x1 x2 x4 M H locs ls h hM hl
    have h : f_X4_bestTrade_L36 a0 x3 K (cz_it4 (f_X4_bestTrade_L36 a0 x3 K) n) x1 x2 x4 M = some (r0, M9) := h
    rw [f_X4_bestTrade_L36] at h
    refine lv_iload hx hb dX4_bestTrade_36 (lv_at hl 4 rfl) ?_
    refine lv_bipush (v := 8) hx hb dX4_bestTrade_38 (by decide) ?_
    refine lv_icmp_ge (tgt := 97) hx hb dX4_bestTrade_40 (by decide) (fun c9 => ?_) (fun c9 => ?_)
    · have h := cz_ite_t c9 h
      exact hX _ _ _ _ _ _ _ h hM (lv_sub hl [0, 1, 2, 3, 4] rfl)
    · have h := cz_ite_f c9 h
      refine lv_aload_n hx hb dX4_bestTrade_43 rfl (lv_at hl 0 rfl) ?_
      refine cz_getR X hM ff_X4_1 ka0 lk_X4_16 dX4_bestTrade_44 (fun hk10 => ?_)
      refine lv_aload_n hx hb dX4_bestTrade_47 rfl (lv_at hl 0 rfl) ?_
      refine cz_getR X hM ff_X4_0 ka0 lk_X4_12 dX4_bestTrade_48 (fun hk11 => ?_)
      obtain ⟨M12, hq, h⟩ := cz_bd_t h
      refine cz_runV (rest := []) (As := [.ref (a0 + 1)]) (T := TX2) (N0 := 9) X hM hl.1 (c_X2_copyFrom (l := l) (g := g) (b := b) hk10 hk11 hq) mv_X2_copyFrom rfl (by decide) hk10 ml_X4_194 ⟨Nat.le_trans (Nat.le_of_ble_eq_true rfl) hRf, Nat.le_trans (Nat.le_of_ble_eq_true rfl) hRl⟩ rfl rfl (Nat.le_of_ble_eq_true rfl) dX4_bestTrade_51 (fun H locs hM => ?_)
      refine lv_aload_n hx hb dX4_bestTrade_54 rfl (lv_at hl 0 rfl) ?_
      refine cz_getR X hM ff_X4_1 ka0 lk_X4_16 dX4_bestTrade_55 (fun hk13 => ?_)
      refine lv_iload_n hx hb dX4_bestTrade_58 rfl (lv_at hl 3 rfl) ?_
      refine lv_iload hx hb dX4_bestTrade_59 (lv_at hl 4 rfl) ?_
      obtain ⟨M14, hq, h⟩ := cz_bd_t h
      refine cz_runV (rest := []) (As := [.int x3, .int x4]) (T := TX2) (N0 := 9) X hM hl.1 (c_X2_tradeShifts (l := l) (g := g) (b := b) hk13 hq) mv_X2_tradeShifts rfl (by decide) hk13 ml_X4_66 ⟨Nat.le_trans (Nat.le_of_ble_eq_true rfl) hRf, Nat.le_trans (Nat.le_of_ble_eq_true rfl) hRl⟩ rfl rfl (Nat.le_of_ble_eq_true rfl) dX4_bestTrade_61 (fun H locs hM => ?_)
      refine lv_aload_n hx hb dX4_bestTrade_64 rfl (lv_at hl 0 rfl) ?_
      refine cz_getR X hM ff_X4_1 ka0 lk_X4_16 dX4_bestTrade_65 (fun hk15 => ?_)
      refine lv_iconst (v := 4) hx hb dX4_bestTrade_68 (by decide) ?_
      obtain ⟨v17, M16, hq, h⟩ := cz_b2_t h
      refine cz_runV (rest := []) (As := [.int (4 : Int32)]) (T := TX2) (N0 := 9) X hM hl.1 (c_X2_passWeeks (l := l) (g := g) (b := b) hk15 hq) mv_X2_passWeeks rfl (by decide) hk15 ml_X4_109 ⟨Nat.le_trans (Nat.le_of_ble_eq_true rfl) hRf, Nat.le_trans (Nat.le_of_ble_eq_true rfl) hRl⟩ rfl rfl (Nat.le_of_ble_eq_true rfl) dX4_bestTrade_69 (fun H locs hM => ?_)
      refine lv_istore (lv' := [(5, .int v17), (0, .ref a0), (1, .int x1), (2, .int x2), (3, .int x3), (4, .int x4)]) hx hb dX4_bestTrade_72 hl (by decide) rfl (fun ls hl => ?_)
      refine lv_iload hx hb dX4_bestTrade_74 (lv_at hl 0 rfl) ?_
      refine lv_iload_n hx hb dX4_bestTrade_76 rfl (lv_at hl 2 rfl) ?_
      refine lv_icmp_le (tgt := 91) hx hb dX4_bestTrade_77 (by decide) (fun c18 => ?_) (fun c18 => ?_)
      · have h := cz_ite_t c18 h
        refine cz_nmL (v := x4 + 1) h (fun v19 e20 h => ?_)
        refine lv_iinc (v := v19) (lv' := [(4, .int v19), (5, .int v17), (0, .ref a0), (1, .int x1), (2, .int x2), (3, .int x3)]) hx hb dX4_bestTrade_91 hl (k := 5) rfl (by rw [e20]; rfl) (by decide) rfl (fun ls hl => ?_)
        refine lv_goto (tgt := 36) hx hb dX4_bestTrade_94 (by decide) ?_
        exact ih _ _ _ _ _ _ _ h hM (lv_sub hl [2, 3, 4, 5, 0] rfl)
      · have h := cz_ite_f c18 h
        refine lv_iload hx hb dX4_bestTrade_80 (lv_at hl 0 rfl) ?_
        refine lv_istore_n (lv' := [(1, .int v17), (5, .int v17), (0, .ref a0), (2, .int x2), (3, .int x3), (4, .int x4)]) hx hb dX4_bestTrade_82 rfl hl (by decide) rfl (fun ls hl => ?_)
        refine lv_bipush (v := 8) hx hb dX4_bestTrade_83 (by decide) ?_
        refine lv_iload_n hx hb dX4_bestTrade_85 rfl (lv_at hl 4 rfl) ?_
        refine lv_imul hx hb dX4_bestTrade_86 ?_
        refine lv_iload hx hb dX4_bestTrade_87 (lv_at hl 5 rfl) ?_
        refine lv_iadd hx hb dX4_bestTrade_89 ?_
        refine cz_nmi h (fun v21 h => ?_)
        refine lv_istore_n (lv' := [(2, .int v21), (1, .int v17), (5, .int v17), (0, .ref a0), (3, .int x3), (4, .int x4)]) hx hb dX4_bestTrade_90 rfl hl (by decide) rfl (fun ls hl => ?_)
        refine cz_nmL (v := x4 + 1) h (fun v22 e23 h => ?_)
        refine lv_iinc (v := v22) (lv' := [(4, .int v22), (2, .int v21), (1, .int v17), (5, .int v17), (0, .ref a0), (3, .int x3)]) hx hb dX4_bestTrade_91 hl (k := 5) rfl (by rw [e23]; rfl) (by decide) rfl (fun ls hl => ?_)
        refine lv_goto (tgt := 36) hx hb dX4_bestTrade_94 (by decide) ?_
        exact ih _ _ _ _ _ _ _ h hM (lv_sub hl [4, 2, 1, 5, 0] rfl)
set_option maxHeartbeats 4000000 in
set_option maxRecDepth 100000 in
theorem w_X4_bestTrade_L25 {p : Program} {l : Launch} {e : Env} {R : Room} {s : State} {m : MethodId} {args : Array Value} {below : List Frame} {meth : Method} {c : Code} {g : cz_G} {b : Nat} (X : cz_X p s m args meth c cX4_bestTrade 6 RX4 g b (some .int)) (hRf : 6 ≤ R.frames) (hRl : 141 ≤ R.locals) {r0 : Int32} {M9 : cz_M} {a0 : Nat} (ka0 : cz_K b a0 4)
    (K : Int32 → Int32 → Int32 → cz_M → Option (Int32 × cz_M)) (hX : ∀ (x1 : Int32) (x2 : Int32) (x3 : Int32) (M : cz_M) (H : Heap) (locs : List Loc) (ls : Array Slot), K x1 x2 x3 M = some (r0, M9) → cz_WS g b M s H locs → lv_has ls 6 [(0, .ref a0), (1, .int x1), (2, .int x2), (3, .int x3)] → W p l e R s m args below meth c H locs 0 0 (MQ below (cz_Q g b (some (.int r0)) M9) args s 0 0 (fun q => b ≤ q)) (F0 m 103 ls [])) :
    ∀ (n : Nat) (x1 : Int32) (x2 : Int32) (x3 : Int32) (M : cz_M) (H : Heap) (locs : List Loc) (ls : Array Slot), cz_it4 (f_X4_bestTrade_L25 a0 K) n x1 x2 x3 M = some (r0, M9) → cz_WS g b M s H locs → lv_has ls 6 [(0, .ref a0), (1, .int x1), (2, .int x2), (3, .int x3)] → W p l e R s m args below meth c H locs 0 0 (MQ below (cz_Q g b (some (.int r0)) M9) args s 0 0 (fun q => b ≤ q)) (F0 m 25 ls []) := by
  obtain ⟨hx, hb, -, ho, ht, -⟩ := id X
  intro n
  induction n with
  | zero => intro x1 x2 x3 M H locs ls h; cases (show none = some _ from h)
  | succ n ih =>
    intro x1 x2 x3 M H locs ls h hM hl
    have h : f_X4_bestTrade_L25 a0 K (cz_it4 (f_X4_bestTrade_L25 a0 K) n) x1 x2 x3 M = some (r0, M9) := h
    rw [f_X4_bestTrade_L25] at h
    refine lv_iload_n hx hb dX4_bestTrade_25 rfl (lv_at hl 3 rfl) ?_
    refine lv_bipush (v := 8) hx hb dX4_bestTrade_26 (by decide) ?_
    refine lv_icmp_ge (tgt := 103) hx hb dX4_bestTrade_28 (by decide) (fun c7 => ?_) (fun c7 => ?_)
    · have h := cz_ite_t c7 h
      exact hX _ _ _ _ _ _ _ h hM (lv_sub hl [0, 1, 2, 3] rfl)
    · have h := cz_ite_f c7 h
      refine lv_iload_n hx hb dX4_bestTrade_31 rfl (lv_at hl 3 rfl) ?_
      refine lv_iconst (v := 1) hx hb dX4_bestTrade_32 (by decide) ?_
      refine lv_iadd hx hb dX4_bestTrade_33 ?_
      refine cz_nmi h (fun v8 h => ?_)
      refine lv_istore (lv' := [(4, .int v8), (0, .ref a0), (1, .int x1), (2, .int x2), (3, .int x3)]) hx hb dX4_bestTrade_34 hl (by decide) rfl (fun ls hl => ?_)
      refine w_X4_bestTrade_L36 X hRf hRl ka0 _ (fun x24 x25 x26 M27 H locs ls h hM hl => ?_) _ _ _ _ _ _ _ _ h hM (lv_sub hl [1, 2, 3, 4, 0] rfl)
      refine cz_nmL (v := x3 + 1) h (fun v28 e29 h => ?_)
      refine lv_iinc (v := v28) (lv' := [(3, .int v28), (0, .ref a0), (1, .int x24), (2, .int x25), (4, .int x26)]) hx hb dX4_bestTrade_97 hl (k := 3) rfl (by rw [e29]; rfl) (by decide) rfl (fun ls hl => ?_)
      refine lv_goto (tgt := 25) hx hb dX4_bestTrade_100 (by decide) ?_
      exact ih _ _ _ _ _ _ _ h hM (lv_sub hl [1, 2, 3, 0] rfl)
set_option maxHeartbeats 4000000 in
set_option maxRecDepth 100000 in
theorem c_X4_bestTrade {l : Launch} {g : cz_G} {b : Nat} {M : cz_M} {r0 : Int32} {M9 : cz_M} {a : Nat} (ka : cz_K b a 4) (h : f_X4_bestTrade M a = some (r0, M9)) : cz_C l yX4_bestTrade cX4_bestTrade 6 (some .int) 6 141 g b [.ref a] M (some (.int r0)) M9 := by
  refine cz_start (by decide) (Nat.le_of_ble_eq_true rfl) (fun p e s m args below meth c X H ls hM hl => ?_)
  have X : cz_X p s m args meth c cX4_bestTrade 6 RX4 g b (some .int) := X
  obtain ⟨hx, hb, -, ho, ht, -⟩ := id X
  have hRf : 6 ≤ ({ frames := 6, cells := 0, slots := 0, locals := 141 } : Room).frames := Nat.le_refl _
  have hRl : 141 ≤ ({ frames := 6, cells := 0, slots := 0, locals := 141 } : Room).locals := Nat.le_refl _
  have hl : lv_has ls 6 [(0, .ref a)] := hl
  rw [f_X4_bestTrade] at h
  refine lv_aload_n hx hb dX4_bestTrade_0 rfl (lv_at hl 0 rfl) ?_
  refine cz_getR X hM ff_X4_1 ka lk_X4_16 dX4_bestTrade_1 (fun hk1 => ?_)
  refine lv_aload_n hx hb dX4_bestTrade_4 rfl (lv_at hl 0 rfl) ?_
  refine cz_getR X hM ff_X4_0 ka lk_X4_12 dX4_bestTrade_5 (fun hk2 => ?_)
  obtain ⟨M3, hq, h⟩ := cz_bd_t h
  refine cz_runV (rest := []) (As := [.ref (a + 1)]) (T := TX2) (N0 := 9) X hM hl.1 (c_X2_copyFrom (l := l) (g := g) (b := b) hk1 hk2 hq) mv_X2_copyFrom rfl (by decide) hk1 ml_X4_194 ⟨Nat.le_trans (Nat.le_of_ble_eq_true rfl) hRf, Nat.le_trans (Nat.le_of_ble_eq_true rfl) hRl⟩ rfl rfl (Nat.le_of_ble_eq_true rfl) dX4_bestTrade_8 (fun H locs hM => ?_)
  refine lv_aload_n hx hb dX4_bestTrade_11 rfl (lv_at hl 0 rfl) ?_
  refine cz_getR X hM ff_X4_1 ka lk_X4_16 dX4_bestTrade_12 (fun hk4 => ?_)
  refine lv_iconst (v := 4) hx hb dX4_bestTrade_15 (by decide) ?_
  obtain ⟨v6, M5, hq, h⟩ := cz_b2_t h
  refine cz_runV (rest := []) (As := [.int (4 : Int32)]) (T := TX2) (N0 := 9) X hM hl.1 (c_X2_passWeeks (l := l) (g := g) (b := b) hk4 hq) mv_X2_passWeeks rfl (by decide) hk4 ml_X4_109 ⟨Nat.le_trans (Nat.le_of_ble_eq_true rfl) hRf, Nat.le_trans (Nat.le_of_ble_eq_true rfl) hRl⟩ rfl rfl (Nat.le_of_ble_eq_true rfl) dX4_bestTrade_16 (fun H locs hM => ?_)
  refine lv_istore_n (lv' := [(1, .int v6), (0, .ref a)]) hx hb dX4_bestTrade_19 rfl hl (by decide) rfl (fun ls hl => ?_)
  refine lv_bipush (v := -6) hx hb dX4_bestTrade_20 (by decide) ?_
  refine lv_istore_n (lv' := [(2, .int (-6 : Int32)), (1, .int v6), (0, .ref a)]) hx hb dX4_bestTrade_22 rfl hl (by decide) rfl (fun ls hl => ?_)
  refine lv_iconst (v := 0) hx hb dX4_bestTrade_23 (by decide) ?_
  refine lv_istore_n (lv' := [(3, .int (0 : Int32)), (2, .int (-6 : Int32)), (1, .int v6), (0, .ref a)]) hx hb dX4_bestTrade_24 rfl hl (by decide) rfl (fun ls hl => ?_)
  refine w_X4_bestTrade_L25 X hRf hRl ka _ (fun x30 x31 x32 M33 H locs ls h hM hl => ?_) _ _ _ _ _ _ _ _ h hM (lv_sub hl [3, 2, 1, 0] rfl)
  refine lv_iload_n hx hb dX4_bestTrade_103 rfl (lv_at hl 2 rfl) ?_
  exact cz_reti X hM h rfl dX4_bestTrade_104
theorem mv_X4_turnsBackWith : cz_MV yX4_turnsBackWith cX4_turnsBackWith 4 (some .boolean) RX4 1 := ⟨mi_X4_turnsBackWith, ms_X4_turnsBackWith, mc_X4_turnsBackWith, ini_X4, by decide +kernel⟩
set_option maxHeartbeats 4000000 in
set_option maxRecDepth 100000 in
theorem w_X4_turnsBackWith_L31 {p : Program} {l : Launch} {e : Env} {R : Room} {s : State} {m : MethodId} {args : Array Value} {below : List Frame} {meth : Method} {c : Code} {g : cz_G} {b : Nat} (X : cz_X p s m args meth c cX4_turnsBackWith 4 RX4 g b (some .boolean)) (hRf : 5 ≤ R.frames) (hRl : 118 ≤ R.locals) {r0 : Int32} {M9 : cz_M} {a0 : Nat} {x2 : Int32} (ka0 : cz_K b a0 4)
    (K : Int32 → cz_M → Option (Int32 × cz_M)) (hX : ∀ (x3 : Int32) (M : cz_M) (H : Heap) (locs : List Loc) (ls : Array Slot), K x3 M = some (r0, M9) → cz_WS g b M s H locs → lv_has ls 4 [(0, .ref a0), (2, .int x2), (3, .int x3)] → W p l e R s m args below meth c H locs 0 0 (MQ below (cz_Q g b (some (.int r0)) M9) args s 0 0 (fun q => b ≤ q)) (F0 m 64 ls [])) :
    ∀ (n : Nat) (x3 : Int32) (M : cz_M) (H : Heap) (locs : List Loc) (ls : Array Slot), cz_it2 (f_X4_turnsBackWith_L31 a0 x2 K) n x3 M = some (r0, M9) → cz_WS g b M s H locs → lv_has ls 4 [(0, .ref a0), (2, .int x2), (3, .int x3)] → W p l e R s m args below meth c H locs 0 0 (MQ below (cz_Q g b (some (.int r0)) M9) args s 0 0 (fun q => b ≤ q)) (F0 m 31 ls []) := by
  obtain ⟨hx, hb, -, ho, ht, -⟩ := id X
  intro n
  induction n with
  | zero => intro x3 M H locs ls h; cases (show none = some _ from h)
  | succ n ih =>
    intro x3 M H locs ls h hM hl
    have h : f_X4_turnsBackWith_L31 a0 x2 K (cz_it2 (f_X4_turnsBackWith_L31 a0 x2 K) n) x3 M = some (r0, M9) := h
    rw [f_X4_turnsBackWith_L31] at h
    refine lv_iload_n hx hb dX4_turnsBackWith_31 rfl (lv_at hl 2 rfl) ?_
    refine lv_bipush (v := 100) hx hb dX4_turnsBackWith_32 (by decide) ?_
    refine lv_icmp_ge (tgt := 64) hx hb dX4_turnsBackWith_34 (by decide) (fun c9 => ?_) (fun c9 => ?_)
    · have h := cz_ite_t c9 h
      exact hX _ _ _ _ _ h hM (lv_sub hl [0, 1, 2] rfl)
    · have h := cz_ite_f c9 h
      refine lv_aload_n hx hb dX4_turnsBackWith_37 rfl (lv_at hl 0 rfl) ?_
      refine cz_getR X hM ff_X4_1 ka0 lk_X4_16 dX4_turnsBackWith_38 (fun hk10 => ?_)
      obtain ⟨v12, M11, hq, h⟩ := cz_b2_t h
      refine cz_runV (rest := []) (As := []) (T := TX2) (N0 := 9) X hM hl.1 (c_X2_passWeek (l := l) (g := g) (b := b) hk10 hq) mv_X2_passWeek rfl (by decide) hk10 ml_X4_198 ⟨Nat.le_trans (Nat.le_of_ble_eq_true rfl) hRf, Nat.le_trans (Nat.le_of_ble_eq_true rfl) hRl⟩ rfl rfl (Nat.le_of_ble_eq_true rfl) dX4_turnsBackWith_41 (fun H locs hM => ?_)
      refine lv_pop hx hb dX4_turnsBackWith_44 rfl ?_
      refine lv_aload_n hx hb dX4_turnsBackWith_45 rfl (lv_at hl 0 rfl) ?_
      refine cz_getR X hM ff_X4_1 ka0 lk_X4_16 dX4_turnsBackWith_46 (fun hk13 => ?_)
      obtain ⟨v14, hq, h⟩ := cz_bd_t h
      refine cz_runV (rest := []) (As := []) (T := TX2) (N0 := 9) X hM hl.1 (c_X2_lettersTurnedByAll (l := l) (g := g) (b := b) hk13 hq) mv_X2_lettersTurnedByAll rfl (by decide) hk13 ml_X4_204 ⟨Nat.le_trans (Nat.le_of_ble_eq_true rfl) hRf, Nat.le_trans (Nat.le_of_ble_eq_true rfl) hRl⟩ rfl rfl (Nat.le_of_ble_eq_true rfl) dX4_turnsBackWith_49 (fun H locs hM => ?_)
      refine lv_iload_n hx hb dX4_turnsBackWith_52 rfl (lv_at hl 1 rfl) ?_
      refine lv_icmp_le (tgt := 58) hx hb dX4_turnsBackWith_53 (by decide) (fun c15 => ?_) (fun c15 => ?_)
      · have h := cz_ite_t c15 h
        refine cz_nmL (v := x3 + 1) h (fun v16 e17 h => ?_)
        refine lv_iinc (v := v16) (lv' := [(3, .int v16), (0, .ref a0), (2, .int x2)]) hx hb dX4_turnsBackWith_58 hl (k := 2) rfl (by rw [e17]; rfl) (by decide) rfl (fun ls hl => ?_)
        refine lv_goto (tgt := 31) hx hb dX4_turnsBackWith_61 (by decide) ?_
        exact ih _ _ _ _ _ h hM (lv_sub hl [1, 2, 0] rfl)
      · have h := cz_ite_f c15 h
        refine lv_iconst (v := 1) hx hb dX4_turnsBackWith_56 (by decide) ?_
        exact cz_reti X hM h rfl dX4_turnsBackWith_57
set_option maxHeartbeats 4000000 in
set_option maxRecDepth 100000 in
theorem c_X4_turnsBackWith {l : Launch} {g : cz_G} {b : Nat} {M : cz_M} {r0 : Int32} {M9 : cz_M} {a : Nat} {x1 : Int32} (ka : cz_K b a 4) (h : f_X4_turnsBackWith M a x1 = some (r0, M9)) : cz_C l yX4_turnsBackWith cX4_turnsBackWith 4 (some .boolean) 5 118 g b [.ref a, .int x1] M (some (.int r0)) M9 := by
  refine cz_start (by decide) (Nat.le_of_ble_eq_true rfl) (fun p e s m args below meth c X H ls hM hl => ?_)
  have X : cz_X p s m args meth c cX4_turnsBackWith 4 RX4 g b (some .boolean) := X
  obtain ⟨hx, hb, -, ho, ht, -⟩ := id X
  have hRf : 5 ≤ ({ frames := 5, cells := 0, slots := 0, locals := 118 } : Room).frames := Nat.le_refl _
  have hRl : 118 ≤ ({ frames := 5, cells := 0, slots := 0, locals := 118 } : Room).locals := Nat.le_refl _
  have hl : lv_has ls 4 [(0, .ref a), (1, .int x1)] := hl
  rw [f_X4_turnsBackWith] at h
  refine lv_aload_n hx hb dX4_turnsBackWith_0 rfl (lv_at hl 0 rfl) ?_
  refine cz_getR X hM ff_X4_1 ka lk_X4_16 dX4_turnsBackWith_1 (fun hk1 => ?_)
  refine lv_aload_n hx hb dX4_turnsBackWith_4 rfl (lv_at hl 0 rfl) ?_
  refine cz_getR X hM ff_X4_0 ka lk_X4_12 dX4_turnsBackWith_5 (fun hk2 => ?_)
  obtain ⟨M3, hq, h⟩ := cz_bd_t h
  refine cz_runV (rest := []) (As := [.ref (a + 1)]) (T := TX2) (N0 := 9) X hM hl.1 (c_X2_copyFrom (l := l) (g := g) (b := b) hk1 hk2 hq) mv_X2_copyFrom rfl (by decide) hk1 ml_X4_194 ⟨Nat.le_trans (Nat.le_of_ble_eq_true rfl) hRf, Nat.le_trans (Nat.le_of_ble_eq_true rfl) hRl⟩ rfl rfl (Nat.le_of_ble_eq_true rfl) dX4_turnsBackWith_8 (fun H locs hM => ?_)
  refine lv_aload_n hx hb dX4_turnsBackWith_11 rfl (lv_at hl 0 rfl) ?_
  refine cz_getR X hM ff_X4_1 ka lk_X4_16 dX4_turnsBackWith_12 (fun hk4 => ?_)
  refine cz_getR X hM ff_X2_0 hk4 lk_X4_44 dX4_turnsBackWith_15 (fun hk5 => ?_)
  refine lv_iconst (v := 1) hx hb dX4_turnsBackWith_18 (by decide) ?_
  refine lv_iload_n hx hb dX4_turnsBackWith_19 rfl (lv_at hl 1 rfl) ?_
  refine cz_iast (n := 3) X hM h hk5 (by decide) dX4_turnsBackWith_20 (fun M6 H locs h hM => ?_)
  refine lv_aload_n hx hb dX4_turnsBackWith_21 rfl (lv_at hl 0 rfl) ?_
  refine cz_getR X hM ff_X4_1 ka lk_X4_16 dX4_turnsBackWith_22 (fun hk7 => ?_)
  obtain ⟨v8, hq, h⟩ := cz_bd_t h
  refine cz_runV (rest := []) (As := []) (T := TX2) (N0 := 9) X hM hl.1 (c_X2_lettersTurnedByAll (l := l) (g := g) (b := b) hk7 hq) mv_X2_lettersTurnedByAll rfl (by decide) hk7 ml_X4_204 ⟨Nat.le_trans (Nat.le_of_ble_eq_true rfl) hRf, Nat.le_trans (Nat.le_of_ble_eq_true rfl) hRl⟩ rfl rfl (Nat.le_of_ble_eq_true rfl) dX4_turnsBackWith_25 (fun H locs hM => ?_)
  refine lv_istore_n (lv' := [(2, .int v8), (0, .ref a), (1, .int x1)]) hx hb dX4_turnsBackWith_28 rfl hl (by decide) rfl (fun ls hl => ?_)
  refine lv_iconst (v := 0) hx hb dX4_turnsBackWith_29 (by decide) ?_
  refine lv_istore_n (lv' := [(3, .int (0 : Int32)), (2, .int v8), (0, .ref a), (1, .int x1)]) hx hb dX4_turnsBackWith_30 rfl hl (by decide) rfl (fun ls hl => ?_)
  refine w_X4_turnsBackWith_L31 X hRf hRl ka _ (fun x18 M19 H locs ls h hM hl => ?_) _ _ _ _ _ _ h hM (lv_sub hl [2, 1, 0] rfl)
  refine lv_iconst (v := 0) hx hb dX4_turnsBackWith_64 (by decide) ?_
  exact cz_reti X hM h rfl dX4_turnsBackWith_65
theorem mv_X4_leastLimit : cz_MV yX4_leastLimit cX4_leastLimit 2 (some .int) RX4 0 := ⟨mi_X4_leastLimit, ms_X4_leastLimit, mc_X4_leastLimit, ini_X4, by decide +kernel⟩
set_option maxHeartbeats 4000000 in
set_option maxRecDepth 100000 in
theorem w_X4_leastLimit_L2 {p : Program} {l : Launch} {e : Env} {R : Room} {s : State} {m : MethodId} {args : Array Value} {below : List Frame} {meth : Method} {c : Code} {g : cz_G} {b : Nat} (X : cz_X p s m args meth c cX4_leastLimit 2 RX4 g b (some .int)) (hRf : 6 ≤ R.frames) (hRl : 141 ≤ R.locals) {r0 : Int32} {M9 : cz_M} {a0 : Nat} (ka0 : cz_K b a0 4)
    (K : Int32 → cz_M → Option (Int32 × cz_M)) (hX : ∀ (x1 : Int32) (M : cz_M) (H : Heap) (locs : List Loc) (ls : Array Slot), K x1 M = some (r0, M9) → cz_WS g b M s H locs → lv_has ls 2 [(0, .ref a0), (1, .int x1)] → W p l e R s m args below meth c H locs 0 0 (MQ below (cz_Q g b (some (.int r0)) M9) args s 0 0 (fun q => b ≤ q)) (F0 m 22 ls [])) :
    ∀ (n : Nat) (x1 : Int32) (M : cz_M) (H : Heap) (locs : List Loc) (ls : Array Slot), cz_it2 (f_X4_leastLimit_L2 a0 K) n x1 M = some (r0, M9) → cz_WS g b M s H locs → lv_has ls 2 [(0, .ref a0), (1, .int x1)] → W p l e R s m args below meth c H locs 0 0 (MQ below (cz_Q g b (some (.int r0)) M9) args s 0 0 (fun q => b ≤ q)) (F0 m 2 ls []) := by
  obtain ⟨hx, hb, -, ho, ht, -⟩ := id X
  intro n
  induction n with
  | zero => intro x1 M H locs ls h; cases (show none = some _ from h)
  | succ n ih =>
    intro x1 M H locs ls h hM hl
    have h : f_X4_leastLimit_L2 a0 K (cz_it2 (f_X4_leastLimit_L2 a0 K) n) x1 M = some (r0, M9) := h
    rw [f_X4_leastLimit_L2] at h
    refine lv_iload_n hx hb dX4_leastLimit_2 rfl (lv_at hl 1 rfl) ?_
    refine lv_bipush (v := 8) hx hb dX4_leastLimit_3 (by decide) ?_
    refine lv_icmp_ge (tgt := 22) hx hb dX4_leastLimit_5 (by decide) (fun c1 => ?_) (fun c1 => ?_)
    · have h := cz_ite_t c1 h
      exact hX _ _ _ _ _ h hM (lv_sub hl [0, 1] rfl)
    · have h := cz_ite_f c1 h
      refine lv_aload_n hx hb dX4_leastLimit_8 rfl (lv_at hl 0 rfl) ?_
      refine lv_iload_n hx hb dX4_leastLimit_9 rfl (lv_at hl 1 rfl) ?_
      obtain ⟨v3, M2, hq, h⟩ := cz_b2_t h
      refine cz_runV (rest := []) (As := [.int x1]) (T := TX4) (N0 := 8) X hM hl.1 (c_X4_turnsBackWith (l := l) (g := g) (b := b) ka0 hq) mv_X4_turnsBackWith rfl (by decide) ka0 ml_X4_201 ⟨Nat.le_trans (Nat.le_of_ble_eq_true rfl) hRf, Nat.le_trans (Nat.le_of_ble_eq_true rfl) hRl⟩ rfl rfl (Nat.le_of_ble_eq_true rfl) dX4_leastLimit_10 (fun H locs hM => ?_)
      refine lv_if_eq (tgt := 22) hx hb dX4_leastLimit_13 (by decide) (fun c4 => ?_) (fun c4 => ?_)
      · have h := cz_ite_t c4 h
        exact hX _ _ _ _ _ h hM (lv_sub hl [0, 1] rfl)
      · have h := cz_ite_f c4 h
        refine cz_nmL (v := x1 + 1) h (fun v5 e6 h => ?_)
        refine lv_iinc (v := v5) (lv' := [(1, .int v5), (0, .ref a0)]) hx hb dX4_leastLimit_16 hl (k := 1) rfl (by rw [e6]; rfl) (by decide) rfl (fun ls hl => ?_)
        refine lv_goto (tgt := 2) hx hb dX4_leastLimit_19 (by decide) ?_
        exact ih _ _ _ _ _ h hM (lv_sub hl [1, 0] rfl)
set_option maxHeartbeats 4000000 in
set_option maxRecDepth 100000 in
theorem c_X4_leastLimit {l : Launch} {g : cz_G} {b : Nat} {M : cz_M} {r0 : Int32} {M9 : cz_M} {a : Nat} (ka : cz_K b a 4) (h : f_X4_leastLimit M a = some (r0, M9)) : cz_C l yX4_leastLimit cX4_leastLimit 2 (some .int) 6 141 g b [.ref a] M (some (.int r0)) M9 := by
  refine cz_start (by decide) (Nat.le_of_ble_eq_true rfl) (fun p e s m args below meth c X H ls hM hl => ?_)
  have X : cz_X p s m args meth c cX4_leastLimit 2 RX4 g b (some .int) := X
  obtain ⟨hx, hb, -, ho, ht, -⟩ := id X
  have hRf : 6 ≤ ({ frames := 6, cells := 0, slots := 0, locals := 141 } : Room).frames := Nat.le_refl _
  have hRl : 141 ≤ ({ frames := 6, cells := 0, slots := 0, locals := 141 } : Room).locals := Nat.le_refl _
  have hl : lv_has ls 2 [(0, .ref a)] := hl
  rw [f_X4_leastLimit] at h
  refine lv_iconst (v := 0) hx hb dX4_leastLimit_0 (by decide) ?_
  refine lv_istore_n (lv' := [(1, .int (0 : Int32)), (0, .ref a)]) hx hb dX4_leastLimit_1 rfl hl (by decide) rfl (fun ls hl => ?_)
  refine w_X4_leastLimit_L2 X hRf hRl ka _ (fun x7 M8 H locs ls h hM hl => ?_) _ _ _ _ _ _ h hM (lv_sub hl [1, 0] rfl)
  refine lv_iload_n hx hb dX4_leastLimit_22 rfl (lv_at hl 1 rfl) ?_
  exact cz_reti X hM h rfl dX4_leastLimit_23
theorem mv_X4_lengthOf : cz_MS yX4_lengthOf cX4_lengthOf 6 (some .int) 1 := ⟨mt_X4_lengthOf, mc_X4_lengthOf, ini_X4, by decide +kernel⟩
set_option maxHeartbeats 4000000 in
set_option maxRecDepth 100000 in
theorem w_X4_lengthOf_L4 {p : Program} {l : Launch} {e : Env} {R : Room} {s : State} {m : MethodId} {args : Array Value} {below : List Frame} {meth : Method} {c : Code} {g : cz_G} {b : Nat} (X : cz_X p s m args meth c cX4_lengthOf 6 RX4 g b (some .int)) (hRf : 0 ≤ R.frames) (hRl : 0 ≤ R.locals) {r0 : Int32}  {M : cz_M} 
    (K : Int32 → Int64 → Option (Int32)) (hX : ∀ (x2 : Int32) (x3 : Int64) (H : Heap) (locs : List Loc) (ls : Array Slot), K x2 x3 = some r0 → cz_WS g b M s H locs → lv_has ls 6 [(2, .int x2), (3, .long x3)] → W p l e R s m args below meth c H locs 0 0 (MQ below (cz_Q g b (some (.int r0)) M) args s 0 0 (fun q => b ≤ q)) (F0 m 51 ls [])) :
    ∀ (n : Nat) (x2 : Int32) (x3 : Int64) (H : Heap) (locs : List Loc) (ls : Array Slot), cz_it2 (f_X4_lengthOf_L4  K) n x2 x3 = some r0 → cz_WS g b M s H locs → lv_has ls 6 [(2, .int x2), (3, .long x3)] → W p l e R s m args below meth c H locs 0 0 (MQ below (cz_Q g b (some (.int r0)) M) args s 0 0 (fun q => b ≤ q)) (F0 m 4 ls []) := by
  obtain ⟨hx, hb, -, ho, ht, -⟩ := id X
  intro n
  induction n with
  | zero => intro x2 x3 H locs ls h; cases (show none = some _ from h)
  | succ n ih =>
    intro x2 x3 H locs ls h hM hl
    have h : f_X4_lengthOf_L4  K (cz_it2 (f_X4_lengthOf_L4  K) n) x2 x3 = some r0 := h
    rw [f_X4_lengthOf_L4] at h
    refine lv_iload_n hx hb dX4_lengthOf_4 rfl (lv_at hl 0 rfl) ?_
    refine lv_bipush (v := 8) hx hb dX4_lengthOf_5 (by decide) ?_
    refine lv_icmp_ge (tgt := 51) hx hb dX4_lengthOf_7 (by decide) (fun c1 => ?_) (fun c1 => ?_)
    · have h := cz_ite_t c1 h
      exact hX _ _ _ _ _ h hM (lv_sub hl [0, 1] rfl)
    · have h := cz_ite_f c1 h
      refine lv_lload_n hx hb dX4_lengthOf_10 rfl (lv_at hl 1 rfl) ?_
      refine lv_lconst (v := 0) hx hb dX4_lengthOf_11 (by decide) ?_
      refine W.lcmp hx hb dX4_lengthOf_12 ?_
      refine lv_if_eq (tgt := 51) hx hb dX4_lengthOf_13 (by decide) (fun c2 => ?_) (fun c2 => ?_)
      · have h := cz_ite_t c2 h
        exact hX _ _ _ _ _ h hM (lv_sub hl [0, 1] rfl)
      · have h := cz_ite_f c2 h
        refine lv_lload_n hx hb dX4_lengthOf_16 rfl (lv_at hl 1 rfl) ?_
        refine lv_ldc2 hx hb ho (ht _ lc_X4_211) dX4_lengthOf_17 ?_
        refine lv_land hx hb dX4_lengthOf_20 ?_
        refine lv_l2i (v := Int64.toInt32 (x3 &&& (255 : Int64))) hx hb dX4_lengthOf_21 rfl ?_
        refine cz_nmi h (fun v3 h => ?_)
        refine lv_istore (lv' := [(5, .int v3), (2, .int x2), (3, .long x3)]) hx hb dX4_lengthOf_22 hl (by decide) rfl (fun ls hl => ?_)
        refine lv_iload hx hb dX4_lengthOf_24 (lv_at hl 0 rfl) ?_
        refine lv_bipush (v := 33) hx hb dX4_lengthOf_26 (by decide) ?_
        refine lv_icmp_lt (tgt := 38) hx hb dX4_lengthOf_28 (by decide) (fun c4 => ?_) (fun c4 => ?_)
        · have h := cz_ite_t c4 h
          refine lv_iconst (v := 0) hx hb dX4_lengthOf_38 (by decide) ?_
          exact cz_retp X hM h rfl dX4_lengthOf_39
        · have h := cz_ite_f c4 h
          refine lv_iload hx hb dX4_lengthOf_31 (lv_at hl 0 rfl) ?_
          refine lv_bipush (v := 126) hx hb dX4_lengthOf_33 (by decide) ?_
          refine lv_icmp_le (tgt := 40) hx hb dX4_lengthOf_35 (by decide) (fun c5 => ?_) (fun c5 => ?_)
          · have h := cz_ite_t c5 h
            refine lv_lload_n hx hb dX4_lengthOf_40 rfl (lv_at hl 2 rfl) ?_
            refine lv_bipush (v := 8) hx hb dX4_lengthOf_41 (by decide) ?_
            refine lv_lushr (v := cz_usl x3 (8 : Int32)) hx hb dX4_lengthOf_43 rfl ?_
            refine cz_nml h (fun v6 h => ?_)
            refine lv_lstore_n (lv' := [(3, .long v6), (5, .int v3), (2, .int x2)]) hx hb dX4_lengthOf_44 rfl hl (by decide) rfl (fun ls hl => ?_)
            refine cz_nmL (v := x2 + 1) h (fun v7 e8 h => ?_)
            refine lv_iinc (v := v7) (lv' := [(2, .int v7), (3, .long v6), (5, .int v3)]) hx hb dX4_lengthOf_45 hl (k := 2) rfl (by rw [e8]; rfl) (by decide) rfl (fun ls hl => ?_)
            refine lv_goto (tgt := 4) hx hb dX4_lengthOf_48 (by decide) ?_
            exact ih _ _ _ _ _ h hM (lv_sub hl [0, 1] rfl)
          · have h := cz_ite_f c5 h
            refine lv_iconst (v := 0) hx hb dX4_lengthOf_38 (by decide) ?_
            exact cz_retp X hM h rfl dX4_lengthOf_39
set_option maxHeartbeats 4000000 in
set_option maxRecDepth 100000 in
theorem c_X4_lengthOf {l : Launch} {g : cz_G} {b : Nat} {M : cz_M} {r0 : Int32} {x0 : Int64}  (h : f_X4_lengthOf x0 = some r0) : cz_C l yX4_lengthOf cX4_lengthOf 6 (some .int) 0 0 g b [.long x0] M (some (.int r0)) M := by
  refine cz_start (by decide) (Nat.le_of_ble_eq_true rfl) (fun p e s m args below meth c X H ls hM hl => ?_)
  have X : cz_X p s m args meth c cX4_lengthOf 6 RX4 g b (some .int) := X
  obtain ⟨hx, hb, -, ho, ht, -⟩ := id X
  have hRf : 0 ≤ ({ frames := 0, cells := 0, slots := 0, locals := 0 } : Room).frames := Nat.le_refl _
  have hRl : 0 ≤ ({ frames := 0, cells := 0, slots := 0, locals := 0 } : Room).locals := Nat.le_refl _
  have hl : lv_has ls 6 [(0, .long x0)] := hl
  rw [f_X4_lengthOf] at h
  refine lv_iconst (v := 0) hx hb dX4_lengthOf_0 (by decide) ?_
  refine lv_istore_n (lv' := [(2, .int (0 : Int32)), (0, .long x0)]) hx hb dX4_lengthOf_1 rfl hl (by decide) rfl (fun ls hl => ?_)
  refine lv_lload_n hx hb dX4_lengthOf_2 rfl (lv_at hl 1 rfl) ?_
  refine lv_lstore_n (lv' := [(3, .long x0), (2, .int (0 : Int32)), (0, .long x0)]) hx hb dX4_lengthOf_3 rfl hl (by decide) rfl (fun ls hl => ?_)
  refine w_X4_lengthOf_L4 X hRf hRl  _ (fun x9 x10 H locs ls h hM hl => ?_) _ _ _ _ _ _ h hM (lv_sub hl [1, 0] rfl)
  refine lv_iload_n hx hb dX4_lengthOf_51 rfl (lv_at hl 0 rfl) ?_
  exact cz_retp X hM h rfl dX4_lengthOf_52
theorem mv_X4_put : cz_MV yX4_put cX4_put 5 (some .int) RX4 1 := ⟨mi_X4_put, ms_X4_put, mc_X4_put, ini_X4, by decide +kernel⟩
set_option maxHeartbeats 4000000 in
set_option maxRecDepth 100000 in
theorem w_X4_put_L31 {p : Program} {l : Launch} {e : Env} {R : Room} {s : State} {m : MethodId} {args : Array Value} {below : List Frame} {meth : Method} {c : Code} {g : cz_G} {b : Nat} (X : cz_X p s m args meth c cX4_put 5 RX4 g b (some .int)) (hRf : 1 ≤ R.frames) (hRl : 25 ≤ R.locals) {r0 : Int32} {M9 : cz_M} {a0 : Nat} {x1 : Int64} (ka0 : cz_K b a0 4)
    (K : Int32 → cz_M → Option (Int32 × cz_M)) (hX : ∀ (x4 : Int32) (M : cz_M) (H : Heap) (locs : List Loc) (ls : Array Slot), K x4 M = some (r0, M9) → cz_WS g b M s H locs → lv_has ls 5 [(0, .ref a0), (1, .long x1), (4, .int x4)] → W p l e R s m args below meth c H locs 0 0 (MQ below (cz_Q g b (some (.int r0)) M9) args s 0 0 (fun q => b ≤ q)) (F0 m 74 ls [])) :
    ∀ (n : Nat) (x4 : Int32) (M : cz_M) (H : Heap) (locs : List Loc) (ls : Array Slot), cz_it2 (f_X4_put_L31 a0 x1 K) n x4 M = some (r0, M9) → cz_WS g b M s H locs → lv_has ls 5 [(0, .ref a0), (1, .long x1), (4, .int x4)] → W p l e R s m args below meth c H locs 0 0 (MQ below (cz_Q g b (some (.int r0)) M9) args s 0 0 (fun q => b ≤ q)) (F0 m 31 ls []) := by
  obtain ⟨hx, hb, -, ho, ht, -⟩ := id X
  intro n
  induction n with
  | zero => intro x4 M H locs ls h; cases (show none = some _ from h)
  | succ n ih =>
    intro x4 M H locs ls h hM hl
    have h : f_X4_put_L31 a0 x1 K (cz_it2 (f_X4_put_L31 a0 x1 K) n) x4 M = some (r0, M9) := h
    rw [f_X4_put_L31] at h
    refine lv_iload hx hb dX4_put_31 (lv_at hl 2 rfl) ?_
    refine lv_if_lt (tgt := 74) hx hb dX4_put_33 (by decide) (fun c5 => ?_) (fun c5 => ?_)
    · have h := cz_ite_t c5 h
      exact hX _ _ _ _ _ h hM (lv_sub hl [0, 1, 2] rfl)
    · have h := cz_ite_f c5 h
      refine lv_aload_n hx hb dX4_put_36 rfl (lv_at hl 0 rfl) ?_
      refine cz_getR X hM ff_X4_5 ka0 lk_X4_30 dX4_put_37 (fun hk6 => ?_)
      refine lv_aload_n hx hb dX4_put_40 rfl (lv_at hl 0 rfl) ?_
      refine cz_getI X hM ff_X4_7 ka0 lk_X4_83 dX4_put_41 ?_
      refine lv_lload_n hx hb dX4_put_44 rfl (lv_at hl 1 rfl) ?_
      refine lv_bipush (v := 8) hx hb dX4_put_45 (by decide) ?_
      refine lv_iload hx hb dX4_put_47 (lv_at hl 2 rfl) ?_
      refine lv_imul hx hb dX4_put_49 ?_
      refine lv_lushr (v := cz_usl x1 ((8 : Int32) * x4)) hx hb dX4_put_50 rfl ?_
      refine lv_ldc2 hx hb ho (ht _ lc_X4_211) dX4_put_51 ?_
      refine lv_land hx hb dX4_put_54 ?_
      refine lv_l2i (v := Int64.toInt32 ((cz_usl x1 ((8 : Int32) * x4)) &&& (255 : Int64))) hx hb dX4_put_55 rfl ?_
      refine lv_i2c (v := cz_chr (Int64.toInt32 ((cz_usl x1 ((8 : Int32) * x4)) &&& (255 : Int64)))) hx hb dX4_put_56 rfl ?_
      refine cz_cast X hM h hk6 dX4_put_57 (fun M7 H locs h hM => ?_)
      refine lv_aload_n hx hb dX4_put_58 rfl (lv_at hl 0 rfl) ?_
      refine lv_dup hx hb dX4_put_59 rfl ?_
      refine cz_getI X hM ff_X4_7 ka0 lk_X4_83 dX4_put_60 ?_
      refine lv_iconst (v := 1) hx hb dX4_put_63 (by decide) ?_
      refine lv_iadd hx hb dX4_put_64 ?_
      refine cz_putI X hM h ff_X4_7 ka0 lk_X4_83 dX4_put_65 (fun M8 H locs h hM => ?_)
      refine cz_nmL (v := x4 + (-1)) h (fun v9 e10 h => ?_)
      refine lv_iinc (v := v9) (lv' := [(4, .int v9), (0, .ref a0), (1, .long x1)]) hx hb dX4_put_68 hl (k := 2) rfl (by rw [e10]; rfl) (by decide) rfl (fun ls hl => ?_)
      refine lv_goto (tgt := 31) hx hb dX4_put_71 (by decide) ?_
      exact ih _ _ _ _ _ h hM (lv_sub hl [1, 2, 0] rfl)
set_option maxHeartbeats 4000000 in
set_option maxRecDepth 100000 in
theorem c_X4_put {l : Launch} {g : cz_G} {b : Nat} {M : cz_M} {r0 : Int32} {M9 : cz_M} {a : Nat} {x1 : Int64} (ka : cz_K b a 4) (h : f_X4_put M a x1 = some (r0, M9)) : cz_C l yX4_put cX4_put 5 (some .int) 1 25 g b [.ref a, .long x1] M (some (.int r0)) M9 := by
  refine cz_start (by decide) (Nat.le_of_ble_eq_true rfl) (fun p e s m args below meth c X H ls hM hl => ?_)
  have X : cz_X p s m args meth c cX4_put 5 RX4 g b (some .int) := X
  obtain ⟨hx, hb, -, ho, ht, -⟩ := id X
  have hRf : 1 ≤ ({ frames := 1, cells := 0, slots := 0, locals := 25 } : Room).frames := Nat.le_refl _
  have hRl : 25 ≤ ({ frames := 1, cells := 0, slots := 0, locals := 25 } : Room).locals := Nat.le_refl _
  have hl : lv_has ls 5 [(0, .ref a), (1, .long x1)] := hl
  rw [f_X4_put] at h
  refine lv_lload_n hx hb dX4_put_0 rfl (lv_at hl 1 rfl) ?_
  obtain ⟨v1, hq, h⟩ := cz_bd_t h
  refine cz_runS (rest := []) (As := [.long x1]) X hM hl.1 (c_X4_lengthOf (l := l) (g := g) (b := b)  hq) mv_X4_lengthOf ml_X4_207 ⟨Nat.le_trans (Nat.le_of_ble_eq_true rfl) hRf, Nat.le_trans (Nat.le_of_ble_eq_true rfl) hRl⟩ rfl rfl (Nat.le_of_ble_eq_true rfl) dX4_put_1 (fun H locs hM => ?_)
  refine lv_istore_n (lv' := [(3, .int v1), (0, .ref a), (1, .long x1)]) hx hb dX4_put_4 rfl hl (by decide) rfl (fun ls hl => ?_)
  refine lv_iload_n hx hb dX4_put_5 rfl (lv_at hl 0 rfl) ?_
  refine lv_if_ne (tgt := 12) hx hb dX4_put_6 (by decide) (fun c2 => ?_) (fun c2 => ?_)
  · have h := cz_ite_f c2 h
    refine lv_aload_n hx hb dX4_put_12 rfl (lv_at hl 1 rfl) ?_
    refine cz_getI X hM ff_X4_7 ka lk_X4_83 dX4_put_13 ?_
    refine lv_iload_n hx hb dX4_put_16 rfl (lv_at hl 0 rfl) ?_
    refine lv_iadd hx hb dX4_put_17 ?_
    refine lv_bipush (v := 60) hx hb dX4_put_18 (by decide) ?_
    refine lv_icmp_le (tgt := 26) hx hb dX4_put_20 (by decide) (fun c3 => ?_) (fun c3 => ?_)
    · have h := cz_ite_t c3 h
      refine lv_iload_n hx hb dX4_put_26 rfl (lv_at hl 0 rfl) ?_
      refine lv_iconst (v := 1) hx hb dX4_put_27 (by decide) ?_
      refine lv_isub hx hb dX4_put_28 ?_
      refine cz_nmi h (fun v4 h => ?_)
      refine lv_istore (lv' := [(4, .int v4), (3, .int v1), (0, .ref a), (1, .long x1)]) hx hb dX4_put_29 hl (by decide) rfl (fun ls hl => ?_)
      refine w_X4_put_L31 X hRf hRl ka _ (fun x11 M12 H locs ls h hM hl => ?_) _ _ _ _ _ _ h hM (lv_sub hl [2, 3, 0] rfl)
      refine lv_aload_n hx hb dX4_put_74 rfl (lv_at hl 0 rfl) ?_
      refine cz_getI X hM ff_X4_7 ka lk_X4_83 dX4_put_75 ?_
      exact cz_reti X hM h rfl dX4_put_78
    · have h := cz_ite_f c3 h
      refine lv_bipush (v := -4) hx hb dX4_put_23 (by decide) ?_
      exact cz_reti X hM h rfl dX4_put_25
  · have h := cz_ite_t c2 h
    refine lv_bipush (v := -2) hx hb dX4_put_9 (by decide) ?_
    exact cz_reti X hM h rfl dX4_put_11
theorem mv_X4_wipe : cz_MV yX4_wipe cX4_wipe 2 (some .int) RX4 0 := ⟨mi_X4_wipe, ms_X4_wipe, mc_X4_wipe, ini_X4, by decide +kernel⟩
set_option maxHeartbeats 4000000 in
set_option maxRecDepth 100000 in
theorem c_X4_wipe {l : Launch} {g : cz_G} {b : Nat} {M : cz_M} {r0 : Int32} {M9 : cz_M} {a : Nat} (ka : cz_K b a 4) (h : f_X4_wipe M a = some (r0, M9)) : cz_C l yX4_wipe cX4_wipe 2 (some .int) 0 0 g b [.ref a] M (some (.int r0)) M9 := by
  refine cz_start (by decide) (Nat.le_of_ble_eq_true rfl) (fun p e s m args below meth c X H ls hM hl => ?_)
  have X : cz_X p s m args meth c cX4_wipe 2 RX4 g b (some .int) := X
  obtain ⟨hx, hb, -, ho, ht, -⟩ := id X
  have hRf : 0 ≤ ({ frames := 0, cells := 0, slots := 0, locals := 0 } : Room).frames := Nat.le_refl _
  have hRl : 0 ≤ ({ frames := 0, cells := 0, slots := 0, locals := 0 } : Room).locals := Nat.le_refl _
  have hl : lv_has ls 2 [(0, .ref a)] := hl
  rw [f_X4_wipe] at h
  refine lv_aload_n hx hb dX4_wipe_0 rfl (lv_at hl 0 rfl) ?_
  refine cz_getI X hM ff_X4_7 ka lk_X4_83 dX4_wipe_1 ?_
  refine cz_nmi h (fun v1 h => ?_)
  refine lv_istore_n (lv' := [(1, .int v1), (0, .ref a)]) hx hb dX4_wipe_4 rfl hl (by decide) rfl (fun ls hl => ?_)
  refine lv_aload_n hx hb dX4_wipe_5 rfl (lv_at hl 1 rfl) ?_
  refine lv_iconst (v := 0) hx hb dX4_wipe_6 (by decide) ?_
  refine cz_putI X hM h ff_X4_7 ka lk_X4_83 dX4_wipe_7 (fun M2 H locs h hM => ?_)
  refine lv_iload_n hx hb dX4_wipe_10 rfl (lv_at hl 0 rfl) ?_
  exact cz_reti X hM h rfl dX4_wipe_11
theorem mv_X4_fault : cz_MV yX4_fault cX4_fault 1 (some .int) RX4 0 := ⟨mi_X4_fault, ms_X4_fault, mc_X4_fault, ini_X4, by decide +kernel⟩
set_option maxHeartbeats 4000000 in
set_option maxRecDepth 100000 in
theorem c_X4_fault {l : Launch} {g : cz_G} {b : Nat} {M : cz_M} {r0 : Int32} {a : Nat} (ka : cz_K b a 4) (h : f_X4_fault M a = some r0) : cz_C l yX4_fault cX4_fault 1 (some .int) 3 63 g b [.ref a] M (some (.int r0)) M := by
  refine cz_start (by decide) (Nat.le_of_ble_eq_true rfl) (fun p e s m args below meth c X H ls hM hl => ?_)
  have X : cz_X p s m args meth c cX4_fault 1 RX4 g b (some .int) := X
  obtain ⟨hx, hb, -, ho, ht, -⟩ := id X
  have hRf : 3 ≤ ({ frames := 3, cells := 0, slots := 0, locals := 63 } : Room).frames := Nat.le_refl _
  have hRl : 63 ≤ ({ frames := 3, cells := 0, slots := 0, locals := 63 } : Room).locals := Nat.le_refl _
  have hl : lv_has ls 1 [(0, .ref a)] := hl
  rw [f_X4_fault] at h
  refine lv_aload_n hx hb dX4_fault_0 rfl (lv_at hl 0 rfl) ?_
  obtain ⟨v1, hq, h⟩ := cz_bd_t h
  refine cz_runV (rest := []) (As := []) (T := TX4) (N0 := 8) X hM hl.1 (c_X4_faultOfPad (l := l) (g := g) (b := b) ka hq) mv_X4_faultOfPad rfl (by decide) ka ml_X4_70 ⟨Nat.le_trans (Nat.le_of_ble_eq_true rfl) hRf, Nat.le_trans (Nat.le_of_ble_eq_true rfl) hRl⟩ rfl rfl (Nat.le_of_ble_eq_true rfl) dX4_fault_1 (fun H locs hM => ?_)
  exact cz_retp X hM h rfl dX4_fault_4
theorem mv_X4_undo : cz_MV yX4_undo cX4_undo 1 (some .int) RX4 0 := ⟨mi_X4_undo, ms_X4_undo, mc_X4_undo, ini_X4, by decide +kernel⟩
set_option maxHeartbeats 4000000 in
set_option maxRecDepth 100000 in
theorem c_X4_undo {l : Launch} {g : cz_G} {b : Nat} {M : cz_M} {r0 : Int32} {M9 : cz_M} {a : Nat} (ka : cz_K b a 4) (h : f_X4_undo M a = some (r0, M9)) : cz_C l yX4_undo cX4_undo 1 (some .int) 3 91 g b [.ref a] M (some (.int r0)) M9 := by
  refine cz_start (by decide) (Nat.le_of_ble_eq_true rfl) (fun p e s m args below meth c X H ls hM hl => ?_)
  have X : cz_X p s m args meth c cX4_undo 1 RX4 g b (some .int) := X
  obtain ⟨hx, hb, -, ho, ht, -⟩ := id X
  have hRf : 3 ≤ ({ frames := 3, cells := 0, slots := 0, locals := 91 } : Room).frames := Nat.le_refl _
  have hRl : 91 ≤ ({ frames := 3, cells := 0, slots := 0, locals := 91 } : Room).locals := Nat.le_refl _
  have hl : lv_has ls 1 [(0, .ref a)] := hl
  rw [f_X4_undo] at h
  refine lv_aload_n hx hb dX4_undo_0 rfl (lv_at hl 0 rfl) ?_
  refine cz_getI X hM ff_X4_6 ka lk_X4_191 dX4_undo_1 ?_
  refine lv_if_ne (tgt := 10) hx hb dX4_undo_4 (by decide) (fun c1 => ?_) (fun c1 => ?_)
  · have h := cz_ite_f c1 h
    refine lv_aload_n hx hb dX4_undo_10 rfl (lv_at hl 0 rfl) ?_
    refine lv_dup hx hb dX4_undo_11 rfl ?_
    refine cz_getI X hM ff_X4_6 ka lk_X4_191 dX4_undo_12 ?_
    refine lv_iconst (v := 1) hx hb dX4_undo_15 (by decide) ?_
    refine lv_isub hx hb dX4_undo_16 ?_
    refine cz_putI X hM h ff_X4_6 ka lk_X4_191 dX4_undo_17 (fun M2 H locs h hM => ?_)
    refine lv_aload_n hx hb dX4_undo_20 rfl (lv_at hl 0 rfl) ?_
    refine cz_getR X hM ff_X4_0 ka lk_X4_12 dX4_undo_21 (fun hk3 => ?_)
    refine lv_aload_n hx hb dX4_undo_24 rfl (lv_at hl 0 rfl) ?_
    refine cz_getR X hM ff_X4_2 ka lk_X4_19 dX4_undo_25 (fun hk4 => ?_)
    refine lv_aload_n hx hb dX4_undo_28 rfl (lv_at hl 0 rfl) ?_
    refine cz_getI X hM ff_X4_6 ka lk_X4_191 dX4_undo_29 ?_
    refine cz_aald3 X hM h hk4 dX4_undo_32 (fun h hk5 => ?_)
    obtain ⟨M6, hq, h⟩ := cz_bd_t h
    refine cz_runV (rest := []) (As := [.ref (M2.2.2 (Int32.toNatClampNeg (M2.1 a 6)))]) (T := TX2) (N0 := 9) X hM hl.1 (c_X2_copyFrom (l := l) (g := g) (b := b) hk3 hk5 hq) mv_X2_copyFrom rfl (by decide) hk3 ml_X4_194 ⟨Nat.le_trans (Nat.le_of_ble_eq_true rfl) hRf, Nat.le_trans (Nat.le_of_ble_eq_true rfl) hRl⟩ rfl rfl (Nat.le_of_ble_eq_true rfl) dX4_undo_33 (fun H locs hM => ?_)
    refine lv_aload_n hx hb dX4_undo_36 rfl (lv_at hl 0 rfl) ?_
    refine cz_getI X hM ff_X4_6 ka lk_X4_191 dX4_undo_37 ?_
    exact cz_reti X hM h rfl dX4_undo_40
  · have h := cz_ite_t c1 h
    refine lv_bipush (v := -5) hx hb dX4_undo_7 (by decide) ?_
    exact cz_reti X hM h rfl dX4_undo_9
theorem mv_X4_save : cz_MV yX4_save cX4_save 2 (some .int) RX4 1 := ⟨mi_X4_save, ms_X4_save, mc_X4_save, ini_X4, by decide +kernel⟩
set_option maxHeartbeats 4000000 in
set_option maxRecDepth 100000 in
theorem c_X4_save {l : Launch} {g : cz_G} {b : Nat} {M : cz_M} {r0 : Int32} {M9 : cz_M} {a : Nat} {x1 : Int32} (ka : cz_K b a 4) (h : f_X4_save M a x1 = some (r0, M9)) : cz_C l yX4_save cX4_save 2 (some .int) 3 91 g b [.ref a, .int x1] M (some (.int r0)) M9 := by
  refine cz_start (by decide) (Nat.le_of_ble_eq_true rfl) (fun p e s m args below meth c X H ls hM hl => ?_)
  have X : cz_X p s m args meth c cX4_save 2 RX4 g b (some .int) := X
  obtain ⟨hx, hb, -, ho, ht, -⟩ := id X
  have hRf : 3 ≤ ({ frames := 3, cells := 0, slots := 0, locals := 91 } : Room).frames := Nat.le_refl _
  have hRl : 91 ≤ ({ frames := 3, cells := 0, slots := 0, locals := 91 } : Room).locals := Nat.le_refl _
  have hl : lv_has ls 2 [(0, .ref a), (1, .int x1)] := hl
  rw [f_X4_save] at h
  refine lv_iload_n hx hb dX4_save_0 rfl (lv_at hl 1 rfl) ?_
  refine lv_if_lt (tgt := 9) hx hb dX4_save_1 (by decide) (fun c1 => ?_) (fun c1 => ?_)
  · have h := cz_ite_t c1 h
    refine lv_bipush (v := -2) hx hb dX4_save_9 (by decide) ?_
    exact cz_reti X hM h rfl dX4_save_11
  · have h := cz_ite_f c1 h
    refine lv_iload_n hx hb dX4_save_4 rfl (lv_at hl 1 rfl) ?_
    refine lv_iconst (v := 2) hx hb dX4_save_5 (by decide) ?_
    refine lv_icmp_lt (tgt := 12) hx hb dX4_save_6 (by decide) (fun c2 => ?_) (fun c2 => ?_)
    · have h := cz_ite_t c2 h
      refine lv_aload_n hx hb dX4_save_12 rfl (lv_at hl 0 rfl) ?_
      refine cz_getR X hM ff_X4_3 ka lk_X4_23 dX4_save_13 (fun hk3 => ?_)
      refine lv_iload_n hx hb dX4_save_16 rfl (lv_at hl 1 rfl) ?_
      refine cz_aald4 X hM h hk3 dX4_save_17 (fun h hk4 => ?_)
      refine lv_aload_n hx hb dX4_save_18 rfl (lv_at hl 0 rfl) ?_
      refine cz_getR X hM ff_X4_0 ka lk_X4_12 dX4_save_19 (fun hk5 => ?_)
      obtain ⟨M6, hq, h⟩ := cz_bd_t h
      refine cz_runV (rest := []) (As := [.ref (a + 1)]) (T := TX2) (N0 := 9) X hM hl.1 (c_X2_copyFrom (l := l) (g := g) (b := b) hk4 hk5 hq) mv_X2_copyFrom rfl (by decide) hk4 ml_X4_194 ⟨Nat.le_trans (Nat.le_of_ble_eq_true rfl) hRf, Nat.le_trans (Nat.le_of_ble_eq_true rfl) hRl⟩ rfl rfl (Nat.le_of_ble_eq_true rfl) dX4_save_22 (fun H locs hM => ?_)
      refine lv_aload_n hx hb dX4_save_25 rfl (lv_at hl 0 rfl) ?_
      refine cz_getR X hM ff_X4_4 ka lk_X4_26 dX4_save_26 (fun hk7 => ?_)
      refine lv_iload_n hx hb dX4_save_29 rfl (lv_at hl 1 rfl) ?_
      refine lv_iconst (v := 1) hx hb dX4_save_30 (by decide) ?_
      refine cz_zast (n := 2) X hM h hk7 dX4_save_31 (fun M8 H locs h hM => ?_)
      refine lv_aload_n hx hb dX4_save_32 rfl (lv_at hl 0 rfl) ?_
      refine cz_getR X hM ff_X4_0 ka lk_X4_12 dX4_save_33 (fun hk9 => ?_)
      refine cz_getI X hM ff_X2_8 hk9 lk_X4_103 dX4_save_36 ?_
      exact cz_reti X hM h rfl dX4_save_39
    · have h := cz_ite_f c2 h
      refine lv_bipush (v := -2) hx hb dX4_save_9 (by decide) ?_
      exact cz_reti X hM h rfl dX4_save_11
theorem mv_X4_restore : cz_MV yX4_restore cX4_restore 2 (some .int) RX4 1 := ⟨mi_X4_restore, ms_X4_restore, mc_X4_restore, ini_X4, by decide +kernel⟩
set_option maxHeartbeats 4000000 in
set_option maxRecDepth 100000 in
theorem c_X4_restore {l : Launch} {g : cz_G} {b : Nat} {M : cz_M} {r0 : Int32} {M9 : cz_M} {a : Nat} {x1 : Int32} (ka : cz_K b a 4) (h : f_X4_restore M a x1 = some (r0, M9)) : cz_C l yX4_restore cX4_restore 2 (some .int) 4 113 g b [.ref a, .int x1] M (some (.int r0)) M9 := by
  refine cz_start (by decide) (Nat.le_of_ble_eq_true rfl) (fun p e s m args below meth c X H ls hM hl => ?_)
  have X : cz_X p s m args meth c cX4_restore 2 RX4 g b (some .int) := X
  obtain ⟨hx, hb, -, ho, ht, -⟩ := id X
  have hRf : 4 ≤ ({ frames := 4, cells := 0, slots := 0, locals := 113 } : Room).frames := Nat.le_refl _
  have hRl : 113 ≤ ({ frames := 4, cells := 0, slots := 0, locals := 113 } : Room).locals := Nat.le_refl _
  have hl : lv_has ls 2 [(0, .ref a), (1, .int x1)] := hl
  rw [f_X4_restore] at h
  refine lv_iload_n hx hb dX4_restore_0 rfl (lv_at hl 1 rfl) ?_
  refine lv_if_lt (tgt := 9) hx hb dX4_restore_1 (by decide) (fun c1 => ?_) (fun c1 => ?_)
  · have h := cz_ite_t c1 h
    refine lv_bipush (v := -2) hx hb dX4_restore_9 (by decide) ?_
    exact cz_reti X hM h rfl dX4_restore_11
  · have h := cz_ite_f c1 h
    refine lv_iload_n hx hb dX4_restore_4 rfl (lv_at hl 1 rfl) ?_
    refine lv_iconst (v := 2) hx hb dX4_restore_5 (by decide) ?_
    refine lv_icmp_lt (tgt := 12) hx hb dX4_restore_6 (by decide) (fun c2 => ?_) (fun c2 => ?_)
    · have h := cz_ite_t c2 h
      refine lv_aload_n hx hb dX4_restore_12 rfl (lv_at hl 0 rfl) ?_
      refine cz_getR X hM ff_X4_4 ka lk_X4_26 dX4_restore_13 (fun hk3 => ?_)
      refine lv_iload_n hx hb dX4_restore_16 rfl (lv_at hl 1 rfl) ?_
      refine cz_zald (n := 2) X hM h hk3 dX4_restore_17 (fun h => ?_)
      refine lv_if_ne (tgt := 24) hx hb dX4_restore_18 (by decide) (fun c4 => ?_) (fun c4 => ?_)
      · have h := cz_ite_f c4 h
        refine lv_aload_n hx hb dX4_restore_24 rfl (lv_at hl 0 rfl) ?_
        obtain ⟨M5, hq, h⟩ := cz_bd_t h
        refine cz_runV (rest := []) (As := []) (T := TX4) (N0 := 8) X hM hl.1 (c_X4_remember (l := l) (g := g) (b := b) ka hq) mv_X4_remember rfl (by decide) ka ml_X4_41 ⟨Nat.le_trans (Nat.le_of_ble_eq_true rfl) hRf, Nat.le_trans (Nat.le_of_ble_eq_true rfl) hRl⟩ rfl rfl (Nat.le_of_ble_eq_true rfl) dX4_restore_25 (fun H locs hM => ?_)
        refine lv_aload_n hx hb dX4_restore_28 rfl (lv_at hl 0 rfl) ?_
        refine cz_getR X hM ff_X4_0 ka lk_X4_12 dX4_restore_29 (fun hk6 => ?_)
        refine lv_aload_n hx hb dX4_restore_32 rfl (lv_at hl 0 rfl) ?_
        refine cz_getR X hM ff_X4_3 ka lk_X4_23 dX4_restore_33 (fun hk7 => ?_)
        refine lv_iload_n hx hb dX4_restore_36 rfl (lv_at hl 1 rfl) ?_
        refine cz_aald4 X hM h hk7 dX4_restore_37 (fun h hk8 => ?_)
        obtain ⟨M9, hq, h⟩ := cz_bd_t h
        refine cz_runV (rest := []) (As := [.ref ((a + 116) + (231 + 57 * Int32.toNatClampNeg x1))]) (T := TX2) (N0 := 9) X hM hl.1 (c_X2_copyFrom (l := l) (g := g) (b := b) hk6 hk8 hq) mv_X2_copyFrom rfl (by decide) hk6 ml_X4_194 ⟨Nat.le_trans (Nat.le_of_ble_eq_true rfl) hRf, Nat.le_trans (Nat.le_of_ble_eq_true rfl) hRl⟩ rfl rfl (Nat.le_of_ble_eq_true rfl) dX4_restore_38 (fun H locs hM => ?_)
        refine lv_aload_n hx hb dX4_restore_41 rfl (lv_at hl 0 rfl) ?_
        refine cz_getR X hM ff_X4_0 ka lk_X4_12 dX4_restore_42 (fun hk10 => ?_)
        refine cz_getI X hM ff_X2_8 hk10 lk_X4_103 dX4_restore_45 ?_
        exact cz_reti X hM h rfl dX4_restore_48
      · have h := cz_ite_t c4 h
        refine lv_bipush (v := -5) hx hb dX4_restore_21 (by decide) ?_
        exact cz_reti X hM h rfl dX4_restore_23
    · have h := cz_ite_f c2 h
      refine lv_bipush (v := -2) hx hb dX4_restore_9 (by decide) ?_
      exact cz_reti X hM h rfl dX4_restore_11
end
