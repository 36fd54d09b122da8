-- ===== PART A: goes FIRST, ahead of the names: the tables' words, and 'selects' of the private methods out of them =====
/-- a private method of a class that the tables say can be made, by its rows of tables_1 -/
def lw_okq (q : MethodName × Nat) : Prop := (q.1.cls ≠ "java/lang/invoke/MethodHandle" ∧ q.1.cls ≠ "java/lang/invoke/VarHandle") ∧ Cond.instantiable q.1.cls q.2 ∈ tables_1 ∧ Cond.privateMethod q.1 ∈ tables_1 ∧ Cond.instanceMethod q.1 ∈ tables_1
theorem lw_p0 : lw_okq (⟨"WhyNots", "judgeFrom", "(I)V"⟩, 12) := ⟨⟨by decide +kernel, by decide +kernel⟩, List.mem_of_getElem? (i := 10) (by decide +kernel), List.mem_of_getElem? (i := 174) (by decide +kernel), List.mem_of_getElem? (i := 175) (by decide +kernel)⟩
theorem lw_p1 : lw_okq (⟨"WhyNots", "forgetAll", "()V"⟩, 12) := ⟨⟨by decide +kernel, by decide +kernel⟩, List.mem_of_getElem? (i := 10) (by decide +kernel), List.mem_of_getElem? (i := 199) (by decide +kernel), List.mem_of_getElem? (i := 200) (by decide +kernel)⟩
theorem lw_p2 : lw_okq (⟨"WhyNots", "namesNoChoice", "(III)Z"⟩, 12) := ⟨⟨by decide +kernel, by decide +kernel⟩, List.mem_of_getElem? (i := 10) (by decide +kernel), List.mem_of_getElem? (i := 224) (by decide +kernel), List.mem_of_getElem? (i := 225) (by decide +kernel)⟩
theorem lw_p3 : lw_okq (⟨"WhyNots", "findWhole", "()V"⟩, 12) := ⟨⟨by decide +kernel, by decide +kernel⟩, List.mem_of_getElem? (i := 10) (by decide +kernel), List.mem_of_getElem? (i := 267) (by decide +kernel), List.mem_of_getElem? (i := 268) (by decide +kernel)⟩
theorem lw_p4 : lw_okq (⟨"WhyNots", "lookAtAll", "(LWhyNots$Top;II)V"⟩, 12) := ⟨⟨by decide +kernel, by decide +kernel⟩, List.mem_of_getElem? (i := 10) (by decide +kernel), List.mem_of_getElem? (i := 275) (by decide +kernel), List.mem_of_getElem? (i := 276) (by decide +kernel)⟩
theorem lw_p5 : lw_okq (⟨"WhyNots", "scoreWith", "(II)I"⟩, 12) := ⟨⟨by decide +kernel, by decide +kernel⟩, List.mem_of_getElem? (i := 10) (by decide +kernel), List.mem_of_getElem? (i := 283) (by decide +kernel), List.mem_of_getElem? (i := 284) (by decide +kernel)⟩
theorem lw_p6 : lw_okq (⟨"WhyNots", "findSets", "()V"⟩, 12) := ⟨⟨by decide +kernel, by decide +kernel⟩, List.mem_of_getElem? (i := 10) (by decide +kernel), List.mem_of_getElem? (i := 291) (by decide +kernel), List.mem_of_getElem? (i := 292) (by decide +kernel)⟩
theorem lw_p7 : lw_okq (⟨"WhyNots", "findPossible", "(I)V"⟩, 12) := ⟨⟨by decide +kernel, by decide +kernel⟩, List.mem_of_getElem? (i := 10) (by decide +kernel), List.mem_of_getElem? (i := 295) (by decide +kernel), List.mem_of_getElem? (i := 296) (by decide +kernel)⟩
theorem lw_p8 : lw_okq (⟨"WhyNots", "listSets", "(I)V"⟩, 12) := ⟨⟨by decide +kernel, by decide +kernel⟩, List.mem_of_getElem? (i := 10) (by decide +kernel), List.mem_of_getElem? (i := 300) (by decide +kernel), List.mem_of_getElem? (i := 301) (by decide +kernel)⟩
theorem lw_p9 : lw_okq (⟨"WhyNots", "isClash", "(I)Z"⟩, 12) := ⟨⟨by decide +kernel, by decide +kernel⟩, List.mem_of_getElem? (i := 10) (by decide +kernel), List.mem_of_getElem? (i := 308) (by decide +kernel), List.mem_of_getElem? (i := 309) (by decide +kernel)⟩
theorem lw_p10 : lw_okq (⟨"WhyNots", "isRelaxation", "(II)Z"⟩, 12) := ⟨⟨by decide +kernel, by decide +kernel⟩, List.mem_of_getElem? (i := 10) (by decide +kernel), List.mem_of_getElem? (i := 322) (by decide +kernel), List.mem_of_getElem? (i := 323) (by decide +kernel)⟩
theorem lw_p11 : lw_okq (⟨"WhyNots", "findParts", "(II)V"⟩, 12) := ⟨⟨by decide +kernel, by decide +kernel⟩, List.mem_of_getElem? (i := 10) (by decide +kernel), List.mem_of_getElem? (i := 344) (by decide +kernel), List.mem_of_getElem? (i := 345) (by decide +kernel)⟩
theorem lw_p12 : lw_okq (⟨"WhyNots", "planOf", "(IIIII)I"⟩, 12) := ⟨⟨by decide +kernel, by decide +kernel⟩, List.mem_of_getElem? (i := 10) (by decide +kernel), List.mem_of_getElem? (i := 408) (by decide +kernel), List.mem_of_getElem? (i := 409) (by decide +kernel)⟩
theorem lw_p13 : lw_okq (⟨"WhyNotsModel", "isCandidate", "(II)Z"⟩, 15) := ⟨⟨by decide +kernel, by decide +kernel⟩, List.mem_of_getElem? (i := 421) (by decide +kernel), List.mem_of_getElem? (i := 486) (by decide +kernel), List.mem_of_getElem? (i := 487) (by decide +kernel)⟩
theorem lw_p14 : lw_okq (⟨"WhyNotsModel", "isChoice", "(I)Z"⟩, 15) := ⟨⟨by decide +kernel, by decide +kernel⟩, List.mem_of_getElem? (i := 421) (by decide +kernel), List.mem_of_getElem? (i := 490) (by decide +kernel), List.mem_of_getElem? (i := 491) (by decide +kernel)⟩
theorem lw_p15 : lw_okq (⟨"WhyNotsModel", "isRule", "(I)Z"⟩, 15) := ⟨⟨by decide +kernel, by decide +kernel⟩, List.mem_of_getElem? (i := 421) (by decide +kernel), List.mem_of_getElem? (i := 506) (by decide +kernel), List.mem_of_getElem? (i := 507) (by decide +kernel)⟩
def lw_privs_1 : List (MethodName × Nat) := [(⟨"WhyNots", "judgeFrom", "(I)V"⟩, 12), (⟨"WhyNots", "forgetAll", "()V"⟩, 12), (⟨"WhyNots", "namesNoChoice", "(III)Z"⟩, 12), (⟨"WhyNots", "findWhole", "()V"⟩, 12), (⟨"WhyNots", "lookAtAll", "(LWhyNots$Top;II)V"⟩, 12), (⟨"WhyNots", "scoreWith", "(II)I"⟩, 12), (⟨"WhyNots", "findSets", "()V"⟩, 12), (⟨"WhyNots", "findPossible", "(I)V"⟩, 12), (⟨"WhyNots", "listSets", "(I)V"⟩, 12), (⟨"WhyNots", "isClash", "(I)Z"⟩, 12), (⟨"WhyNots", "isRelaxation", "(II)Z"⟩, 12), (⟨"WhyNots", "findParts", "(II)V"⟩, 12), (⟨"WhyNots", "planOf", "(IIIII)I"⟩, 12), (⟨"WhyNotsModel", "isCandidate", "(II)Z"⟩, 15), (⟨"WhyNotsModel", "isChoice", "(I)Z"⟩, 15), (⟨"WhyNotsModel", "isRule", "(I)Z"⟩, 15)]
theorem lw_r1 : ∀ q ∈ lw_privs_1, lw_okq q := List.forall_mem_cons.mpr ⟨lw_p0, List.forall_mem_cons.mpr ⟨lw_p1, List.forall_mem_cons.mpr ⟨lw_p2, List.forall_mem_cons.mpr ⟨lw_p3, List.forall_mem_cons.mpr ⟨lw_p4, List.forall_mem_cons.mpr ⟨lw_p5, List.forall_mem_cons.mpr ⟨lw_p6, List.forall_mem_cons.mpr ⟨lw_p7, List.forall_mem_cons.mpr ⟨lw_p8, List.forall_mem_cons.mpr ⟨lw_p9, List.forall_mem_cons.mpr ⟨lw_p10, List.forall_mem_cons.mpr ⟨lw_p11, List.forall_mem_cons.mpr ⟨lw_p12, List.forall_mem_cons.mpr ⟨lw_p13, List.forall_mem_cons.mpr ⟨lw_p14, List.forall_mem_cons.mpr ⟨lw_p15, fun _ h => absurd h List.not_mem_nil⟩⟩⟩⟩⟩⟩⟩⟩⟩⟩⟩⟩⟩⟩⟩⟩
theorem lw_p16 : lw_okq (⟨"WhyNotsModel", "plans", "()I"⟩, 15) := ⟨⟨by decide +kernel, by decide +kernel⟩, List.mem_of_getElem? (i := 421) (by decide +kernel), List.mem_of_getElem? (i := 522) (by decide +kernel), List.mem_of_getElem? (i := 523) (by decide +kernel)⟩
theorem lw_p17 : lw_okq (⟨"WhyNotsModel", "standing", "(ZI)I"⟩, 15) := ⟨⟨by decide +kernel, by decide +kernel⟩, List.mem_of_getElem? (i := 421) (by decide +kernel), List.mem_of_getElem? (i := 526) (by decide +kernel), List.mem_of_getElem? (i := 527) (by decide +kernel)⟩
theorem lw_p18 : lw_okq (⟨"WhyNotsModel", "freshen", "()V"⟩, 15) := ⟨⟨by decide +kernel, by decide +kernel⟩, List.mem_of_getElem? (i := 421) (by decide +kernel), List.mem_of_getElem? (i := 530) (by decide +kernel), List.mem_of_getElem? (i := 531) (by decide +kernel)⟩
theorem lw_p19 : lw_okq (⟨"WhyNotsModel", "lay", "(I)V"⟩, 15) := ⟨⟨by decide +kernel, by decide +kernel⟩, List.mem_of_getElem? (i := 421) (by decide +kernel), List.mem_of_getElem? (i := 534) (by decide +kernel), List.mem_of_getElem? (i := 535) (by decide +kernel)⟩
theorem lw_p20 : lw_okq (⟨"WhyNotsModel", "breaksNow", "()I"⟩, 15) := ⟨⟨by decide +kernel, by decide +kernel⟩, List.mem_of_getElem? (i := 421) (by decide +kernel), List.mem_of_getElem? (i := 538) (by decide +kernel), List.mem_of_getElem? (i := 539) (by decide +kernel)⟩
theorem lw_p21 : lw_okq (⟨"WhyNotsModel", "keeps", "(I)Z"⟩, 15) := ⟨⟨by decide +kernel, by decide +kernel⟩, List.mem_of_getElem? (i := 421) (by decide +kernel), List.mem_of_getElem? (i := 542) (by decide +kernel), List.mem_of_getElem? (i := 543) (by decide +kernel)⟩
theorem lw_p22 : lw_okq (⟨"WhyNotsModel", "ofMode", "(I)I"⟩, 15) := ⟨⟨by decide +kernel, by decide +kernel⟩, List.mem_of_getElem? (i := 421) (by decide +kernel), List.mem_of_getElem? (i := 546) (by decide +kernel), List.mem_of_getElem? (i := 547) (by decide +kernel)⟩
theorem lw_p23 : lw_okq (⟨"WhyNotsModel", "scoreOf", "(II)I"⟩, 15) := ⟨⟨by decide +kernel, by decide +kernel⟩, List.mem_of_getElem? (i := 421) (by decide +kernel), List.mem_of_getElem? (i := 550) (by decide +kernel), List.mem_of_getElem? (i := 551) (by decide +kernel)⟩
theorem lw_p24 : lw_okq (⟨"WhyNotsModel", "scoreNow", "(II)I"⟩, 15) := ⟨⟨by decide +kernel, by decide +kernel⟩, List.mem_of_getElem? (i := 421) (by decide +kernel), List.mem_of_getElem? (i := 554) (by decide +kernel), List.mem_of_getElem? (i := 555) (by decide +kernel)⟩
theorem lw_p25 : lw_okq (⟨"WhyNotsModel", "costOf", "(I)I"⟩, 15) := ⟨⟨by decide +kernel, by decide +kernel⟩, List.mem_of_getElem? (i := 421) (by decide +kernel), List.mem_of_getElem? (i := 558) (by decide +kernel), List.mem_of_getElem? (i := 559) (by decide +kernel)⟩
theorem lw_p26 : lw_okq (⟨"WhyNotsModel", "firstBest", "()I"⟩, 15) := ⟨⟨by decide +kernel, by decide +kernel⟩, List.mem_of_getElem? (i := 421) (by decide +kernel), List.mem_of_getElem? (i := 562) (by decide +kernel), List.mem_of_getElem? (i := 563) (by decide +kernel)⟩
theorem lw_p27 : lw_okq (⟨"WhyNotsModel", "first", "(IIIII)I"⟩, 15) := ⟨⟨by decide +kernel, by decide +kernel⟩, List.mem_of_getElem? (i := 421) (by decide +kernel), List.mem_of_getElem? (i := 566) (by decide +kernel), List.mem_of_getElem? (i := 567) (by decide +kernel)⟩
theorem lw_p28 : lw_okq (⟨"WhyNotsModel", "takes", "(II)I"⟩, 15) := ⟨⟨by decide +kernel, by decide +kernel⟩, List.mem_of_getElem? (i := 421) (by decide +kernel), List.mem_of_getElem? (i := 570) (by decide +kernel), List.mem_of_getElem? (i := 571) (by decide +kernel)⟩
theorem lw_p29 : lw_okq (⟨"WhyNotsModel", "manySets", "(Z)I"⟩, 15) := ⟨⟨by decide +kernel, by decide +kernel⟩, List.mem_of_getElem? (i := 421) (by decide +kernel), List.mem_of_getElem? (i := 574) (by decide +kernel), List.mem_of_getElem? (i := 575) (by decide +kernel)⟩
theorem lw_p30 : lw_okq (⟨"WhyNotsModel", "findCan", "()V"⟩, 15) := ⟨⟨by decide +kernel, by decide +kernel⟩, List.mem_of_getElem? (i := 421) (by decide +kernel), List.mem_of_getElem? (i := 578) (by decide +kernel), List.mem_of_getElem? (i := 579) (by decide +kernel)⟩
theorem lw_p31 : lw_okq (⟨"WhyNotsModel", "isClash", "(II)Z"⟩, 15) := ⟨⟨by decide +kernel, by decide +kernel⟩, List.mem_of_getElem? (i := 421) (by decide +kernel), List.mem_of_getElem? (i := 582) (by decide +kernel), List.mem_of_getElem? (i := 583) (by decide +kernel)⟩
def lw_privs_2 : List (MethodName × Nat) := [(⟨"WhyNotsModel", "plans", "()I"⟩, 15), (⟨"WhyNotsModel", "standing", "(ZI)I"⟩, 15), (⟨"WhyNotsModel", "freshen", "()V"⟩, 15), (⟨"WhyNotsModel", "lay", "(I)V"⟩, 15), (⟨"WhyNotsModel", "breaksNow", "()I"⟩, 15), (⟨"WhyNotsModel", "keeps", "(I)Z"⟩, 15), (⟨"WhyNotsModel", "ofMode", "(I)I"⟩, 15), (⟨"WhyNotsModel", "scoreOf", "(II)I"⟩, 15), (⟨"WhyNotsModel", "scoreNow", "(II)I"⟩, 15), (⟨"WhyNotsModel", "costOf", "(I)I"⟩, 15), (⟨"WhyNotsModel", "firstBest", "()I"⟩, 15), (⟨"WhyNotsModel", "first", "(IIIII)I"⟩, 15), (⟨"WhyNotsModel", "takes", "(II)I"⟩, 15), (⟨"WhyNotsModel", "manySets", "(Z)I"⟩, 15), (⟨"WhyNotsModel", "findCan", "()V"⟩, 15), (⟨"WhyNotsModel", "isClash", "(II)Z"⟩, 15)]
theorem lw_r2 : ∀ q ∈ lw_privs_2, lw_okq q := List.forall_mem_cons.mpr ⟨lw_p16, List.forall_mem_cons.mpr ⟨lw_p17, List.forall_mem_cons.mpr ⟨lw_p18, List.forall_mem_cons.mpr ⟨lw_p19, List.forall_mem_cons.mpr ⟨lw_p20, List.forall_mem_cons.mpr ⟨lw_p21, List.forall_mem_cons.mpr ⟨lw_p22, List.forall_mem_cons.mpr ⟨lw_p23, List.forall_mem_cons.mpr ⟨lw_p24, List.forall_mem_cons.mpr ⟨lw_p25, List.forall_mem_cons.mpr ⟨lw_p26, List.forall_mem_cons.mpr ⟨lw_p27, List.forall_mem_cons.mpr ⟨lw_p28, List.forall_mem_cons.mpr ⟨lw_p29, List.forall_mem_cons.mpr ⟨lw_p30, List.forall_mem_cons.mpr ⟨lw_p31, fun _ h => absurd h List.not_mem_nil⟩⟩⟩⟩⟩⟩⟩⟩⟩⟩⟩⟩⟩⟩⟩⟩
theorem lw_p32 : lw_okq (⟨"WhyNotsModel", "isRelaxation", "(II)Z"⟩, 15) := ⟨⟨by decide +kernel, by decide +kernel⟩, List.mem_of_getElem? (i := 421) (by decide +kernel), List.mem_of_getElem? (i := 586) (by decide +kernel), List.mem_of_getElem? (i := 587) (by decide +kernel)⟩
theorem lw_p33 : lw_okq (⟨"WhyNotsModel", "setAt", "(IZ)I"⟩, 15) := ⟨⟨by decide +kernel, by decide +kernel⟩, List.mem_of_getElem? (i := 421) (by decide +kernel), List.mem_of_getElem? (i := 635) (by decide +kernel), List.mem_of_getElem? (i := 636) (by decide +kernel)⟩
theorem lw_p34 : lw_okq (⟨"WhyNotsModel", "rankOf", "(IZ)I"⟩, 15) := ⟨⟨by decide +kernel, by decide +kernel⟩, List.mem_of_getElem? (i := 421) (by decide +kernel), List.mem_of_getElem? (i := 639) (by decide +kernel), List.mem_of_getElem? (i := 640) (by decide +kernel)⟩
theorem lw_p35 : lw_okq (⟨"WhyNotsModel", "isPlan", "(IIIII)Z"⟩, 15) := ⟨⟨by decide +kernel, by decide +kernel⟩, List.mem_of_getElem? (i := 421) (by decide +kernel), List.mem_of_getElem? (i := 662) (by decide +kernel), List.mem_of_getElem? (i := 663) (by decide +kernel)⟩
def lw_privs_3 : List (MethodName × Nat) := [(⟨"WhyNotsModel", "isRelaxation", "(II)Z"⟩, 15), (⟨"WhyNotsModel", "setAt", "(IZ)I"⟩, 15), (⟨"WhyNotsModel", "rankOf", "(IZ)I"⟩, 15), (⟨"WhyNotsModel", "isPlan", "(IIIII)Z"⟩, 15)]
theorem lw_r3 : ∀ q ∈ lw_privs_3, lw_okq q := List.forall_mem_cons.mpr ⟨lw_p32, List.forall_mem_cons.mpr ⟨lw_p33, List.forall_mem_cons.mpr ⟨lw_p34, List.forall_mem_cons.mpr ⟨lw_p35, fun _ h => absurd h List.not_mem_nil⟩⟩⟩⟩
def lw_privs : List (MethodName × Nat) := lw_privs_1 ++ (lw_privs_2 ++ (lw_privs_3))
def lw_tbl : List Cond := k2_sels lw_privs ++ tables_1
theorem lw_privs_ok : ∀ q ∈ lw_privs, lw_okq q := by
  show ∀ q ∈ lw_privs_1 ++ (lw_privs_2 ++ (lw_privs_3)), lw_okq q
  exact List.forall_mem_append.mpr ⟨lw_r1, List.forall_mem_append.mpr ⟨lw_r2, lw_r3⟩⟩
def RX0 : String := "WhyNots$Choices"
def TX0 : u_T := fun k => match k with
  | 0 => ("WhyNots$Choices", "size", "I", false)
  | 1 => ("WhyNots$Choices", "plans", "I", false)
  | 2 => ("WhyNots$Choices", "candidates", "[I", true)
  | 3 => ("WhyNots$Choices", "steps", "[I", true)
  | 4 => ("WhyNots$Choices", "worths", "[I", true)
  | _ => ("WhyNots$Choices", "sums", "[I", true)
def tyX0 : Nat → FieldType := fun k => match k with
  | 0 => .int
  | 1 => .int
  | 2 => .array .int
  | 3 => .array .int
  | 4 => .array .int
  | _ => .array .int
theorem nmX0 : ∀ a, a < 6 → ∀ b, b < 6 → a ≠ b → (TX0 a).2.1 ≠ (TX0 b).2.1 := by decide +kernel
theorem tyX0_ok : ∀ k, k < 6 → parseFieldDescriptor (TX0 k).2.2.1 = some (tyX0 k) := by decide +kernel
abbrev cX0_init : ByteArray := prog_2_method_1_code
def yX0_init : MethodName := ⟨RX0, "<init>", "()V"⟩
abbrev cX0_has : ByteArray := prog_2_method_2_code
def yX0_has : MethodName := ⟨RX0, "has", "(I)Z"⟩
abbrev cX0_hasCandidate : ByteArray := prog_2_method_3_code
def yX0_hasCandidate : MethodName := ⟨RX0, "hasCandidate", "(II)Z"⟩
abbrev cX0_add : ByteArray := prog_2_method_4_code
def yX0_add : MethodName := ⟨RX0, "add", "(I)V"⟩
abbrev cX0_changeWorth : ByteArray := prog_2_method_5_code
def yX0_changeWorth : MethodName := ⟨RX0, "changeWorth", "(III)I"⟩
abbrev cX0_taken : ByteArray := prog_2_method_6_code
def yX0_taken : MethodName := ⟨RX0, "taken", "(II)I"⟩
abbrev cX0_read : ByteArray := prog_2_method_7_code
def yX0_read : MethodName := ⟨RX0, "read", "(I[I)V"⟩
abbrev cX0_numberOf : ByteArray := prog_2_method_8_code
def yX0_numberOf : MethodName := ⟨RX0, "numberOf", "([I)I"⟩
def RX1 : String := "WhyNots$Listing"
def TX1 : u_T := fun k => match k with
  | 0 => ("WhyNots$Listing", "size", "I", false)
  | 1 => ("WhyNots$Listing", "members", "[I", true)
  | _ => ("WhyNots$Listing", "keys", "[I", true)
def tyX1 : Nat → FieldType := fun k => match k with
  | 0 => .int
  | 1 => .array .int
  | _ => .array .int
theorem nmX1 : ∀ a, a < 3 → ∀ b, b < 3 → a ≠ b → (TX1 a).2.1 ≠ (TX1 b).2.1 := by decide +kernel
theorem tyX1_ok : ∀ k, k < 3 → parseFieldDescriptor (TX1 k).2.2.1 = some (tyX1 k) := by decide +kernel
abbrev cX1_init : ByteArray := prog_3_method_1_code
def yX1_init : MethodName := ⟨RX1, "<init>", "()V"⟩
abbrev cX1_clear : ByteArray := prog_3_method_2_code
def yX1_clear : MethodName := ⟨RX1, "clear", "()V"⟩
abbrev cX1_put : ByteArray := prog_3_method_3_code
def yX1_put : MethodName := ⟨RX1, "put", "(II)V"⟩
abbrev cX1_at : ByteArray := prog_3_method_4_code
def yX1_at : MethodName := ⟨RX1, "at", "(I)I"⟩
def RX2 : String := "WhyNots$Rules"
def TX2 : u_T := fun k => match k with
  | 0 => ("WhyNots$Rules", "size", "I", false)
  | 1 => ("WhyNots$Rules", "kinds", "[I", true)
  | 2 => ("WhyNots$Rules", "as", "[I", true)
  | 3 => ("WhyNots$Rules", "bs", "[I", true)
  | 4 => ("WhyNots$Rules", "ns", "[I", true)
  | 5 => ("WhyNots$Rules", "weights", "[I", true)
  | 6 => ("WhyNots$Rules", "modes", "[I", true)
  | _ => ("WhyNots$Rules", "costs", "[I", true)
def tyX2 : Nat → FieldType := fun k => match k with
  | 0 => .int
  | 1 => .array .int
  | 2 => .array .int
  | 3 => .array .int
  | 4 => .array .int
  | 5 => .array .int
  | 6 => .array .int
  | _ => .array .int
theorem nmX2 : ∀ a, a < 8 → ∀ b, b < 8 → a ≠ b → (TX2 a).2.1 ≠ (TX2 b).2.1 := by decide +kernel
theorem tyX2_ok : ∀ k, k < 8 → parseFieldDescriptor (TX2 k).2.2.1 = some (tyX2 k) := by decide +kernel
abbrev cX2_init : ByteArray := prog_4_method_1_code
def yX2_init : MethodName := ⟨RX2, "<init>", "()V"⟩
abbrev cX2_has : ByteArray := prog_4_method_2_code
def yX2_has : MethodName := ⟨RX2, "has", "(I)Z"⟩
abbrev cX2_sets : ByteArray := prog_4_method_3_code
def yX2_sets : MethodName := ⟨RX2, "sets", "()I"⟩
abbrev cX2_add : ByteArray := prog_4_method_4_code
def yX2_add : MethodName := ⟨RX2, "add", "(IIIII)I"⟩
abbrev cX2_changeWeight : ByteArray := prog_4_method_5_code
def yX2_changeWeight : MethodName := ⟨RX2, "changeWeight", "(II)I"⟩
abbrev cX2_inMode : ByteArray := prog_4_method_6_code
def yX2_inMode : MethodName := ⟨RX2, "inMode", "(I)I"⟩
abbrev cX2_isCheaper : ByteArray := prog_4_method_7_code
def yX2_isCheaper : MethodName := ⟨RX2, "isCheaper", "(II)Z"⟩
abbrev cX2_isKept : ByteArray := prog_4_method_8_code
def yX2_isKept : MethodName := ⟨RX2, "isKept", "(I[II)Z"⟩
abbrev cX2_howMany : ByteArray := prog_4_method_9_code
def yX2_howMany : MethodName := ⟨RX2, "howMany", "(I[II)I"⟩
abbrev cX2_together : ByteArray := prog_4_method_10_code
def yX2_together : MethodName := ⟨RX2, "together", "([II)I"⟩
def RX3 : String := "WhyNots$Top"
def TX3 : u_T := fun k => match k with
  | 0 => ("WhyNots$Top", "seen", "I", false)
  | 1 => ("WhyNots$Top", "greatest", "I", false)
  | 2 => ("WhyNots$Top", "first", "I", false)
  | _ => ("WhyNots$Top", "alike", "I", false)
def tyX3 : Nat → FieldType := fun k => match k with
  | 0 => .int
  | 1 => .int
  | 2 => .int
  | _ => .int
theorem nmX3 : ∀ a, a < 4 → ∀ b, b < 4 → a ≠ b → (TX3 a).2.1 ≠ (TX3 b).2.1 := by decide +kernel
theorem tyX3_ok : ∀ k, k < 4 → parseFieldDescriptor (TX3 k).2.2.1 = some (tyX3 k) := by decide +kernel
abbrev cX3_init : ByteArray := prog_5_method_1_code
def yX3_init : MethodName := ⟨RX3, "<init>", "()V"⟩
abbrev cX3_clear : ByteArray := prog_5_method_2_code
def yX3_clear : MethodName := ⟨RX3, "clear", "()V"⟩
abbrev cX3_see : ByteArray := prog_5_method_3_code
def yX3_see : MethodName := ⟨RX3, "see", "(II)V"⟩
abbrev cX3_lacksAgainst : ByteArray := prog_5_method_4_code
def yX3_lacksAgainst : MethodName := ⟨RX3, "lacksAgainst", "(LWhyNots$Top;)I"⟩
def RX4 : String := "WhyNots"
def TX4 : u_T := fun k => match k with
  | 0 => ("WhyNots", "choices", "LWhyNots$Choices;", true)
  | 1 => ("WhyNots", "rules", "LWhyNots$Rules;", true)
  | 2 => ("WhyNots", "broken", "[I", true)
  | 3 => ("WhyNots", "row", "[I", true)
  | 4 => ("WhyNots", "whole", "LWhyNots$Top;", true)
  | 5 => ("WhyNots", "wholeIsStale", "Z", false)
  | 6 => ("WhyNots", "with", "LWhyNots$Top;", true)
  | 7 => ("WhyNots", "without", "LWhyNots$Top;", true)
  | 8 => ("WhyNots", "possible", "[Z", true)
  | 9 => ("WhyNots", "clashes", "LWhyNots$Listing;", true)
  | 10 => ("WhyNots", "relaxations", "LWhyNots$Listing;", true)
  | _ => ("WhyNots", "setsAreStale", "Z", false)
def tyX4 : Nat → FieldType := fun k => match k with
  | 0 => .object "WhyNots$Choices"
  | 1 => .object "WhyNots$Rules"
  | 2 => .array .int
  | 3 => .array .int
  | 4 => .object "WhyNots$Top"
  | 5 => .boolean
  | 6 => .object "WhyNots$Top"
  | 7 => .object "WhyNots$Top"
  | 8 => .array .boolean
  | 9 => .object "WhyNots$Listing"
  | 10 => .object "WhyNots$Listing"
  | _ => .boolean
theorem nmX4 : ∀ a, a < 12 → ∀ b, b < 12 → a ≠ b → (TX4 a).2.1 ≠ (TX4 b).2.1 := by decide +kernel
theorem tyX4_ok : ∀ k, k < 12 → parseFieldDescriptor (TX4 k).2.2.1 = some (tyX4 k) := by decide +kernel
abbrev cX4_init : ByteArray := prog_1_method_1_code
def yX4_init : MethodName := ⟨RX4, "<init>", "()V"⟩
abbrev cX4_choice : ByteArray := prog_1_method_2_code
def yX4_choice : MethodName := ⟨RX4, "choice", "(I)I"⟩
abbrev cX4_worth : ByteArray := prog_1_method_3_code
def yX4_worth : MethodName := ⟨RX4, "worth", "(III)I"⟩
abbrev cX4_rule : ByteArray := prog_1_method_4_code
def yX4_rule : MethodName := ⟨RX4, "rule", "(IIIII)I"⟩
abbrev cX4_mode : ByteArray := prog_1_method_5_code
def yX4_mode : MethodName := ⟨RX4, "mode", "(II)I"⟩
abbrev cX4_weigh : ByteArray := prog_1_method_6_code
def yX4_weigh : MethodName := ⟨RX4, "weigh", "(II)I"⟩
abbrev cX4_told : ByteArray := prog_1_method_7_code
def yX4_told : MethodName := ⟨RX4, "told", "(II)I"⟩
abbrev cX4_count : ByteArray := prog_1_method_8_code
def yX4_count : MethodName := ⟨RX4, "count", "(I)I"⟩
abbrev cX4_best : ByteArray := prog_1_method_9_code
def yX4_best : MethodName := ⟨RX4, "best", "()I"⟩
abbrev cX4_pick : ByteArray := prog_1_method_10_code
def yX4_pick : MethodName := ⟨RX4, "pick", "(I)I"⟩
abbrev cX4_fixed : ByteArray := prog_1_method_11_code
def yX4_fixed : MethodName := ⟨RX4, "fixed", "(I)I"⟩
abbrev cX4_force : ByteArray := prog_1_method_12_code
def yX4_force : MethodName := ⟨RX4, "force", "(II)I"⟩
abbrev cX4_forced : ByteArray := prog_1_method_13_code
def yX4_forced : MethodName := ⟨RX4, "forced", "(III)I"⟩
abbrev cX4_avoid : ByteArray := prog_1_method_14_code
def yX4_avoid : MethodName := ⟨RX4, "avoid", "(II)I"⟩
abbrev cX4_raise : ByteArray := prog_1_method_15_code
def yX4_raise : MethodName := ⟨RX4, "raise", "(II)I"⟩
abbrev cX4_lower : ByteArray := prog_1_method_16_code
def yX4_lower : MethodName := ⟨RX4, "lower", "(II)I"⟩
abbrev cX4_needs : ByteArray := prog_1_method_17_code
def yX4_needs : MethodName := ⟨RX4, "needs", "(II)I"⟩
abbrev cX4_clash : ByteArray := prog_1_method_18_code
def yX4_clash : MethodName := ⟨RX4, "clash", "()I"⟩
abbrev cX4_clashAt : ByteArray := prog_1_method_19_code
def yX4_clashAt : MethodName := ⟨RX4, "clashAt", "(I)I"⟩
abbrev cX4_relaxAt : ByteArray := prog_1_method_20_code
def yX4_relaxAt : MethodName := ⟨RX4, "relaxAt", "(I)I"⟩
abbrev cX4_cost : ByteArray := prog_1_method_21_code
def yX4_cost : MethodName := ⟨RX4, "cost", "(I)I"⟩
abbrev cX4_price : ByteArray := prog_1_method_22_code
def yX4_price : MethodName := ⟨RX4, "price", "(I)I"⟩
abbrev cX4_breaks : ByteArray := prog_1_method_23_code
def yX4_breaks : MethodName := ⟨RX4, "breaks", "(IIIII)I"⟩
abbrev cX4_score : ByteArray := prog_1_method_24_code
def yX4_score : MethodName := ⟨RX4, "score", "(IIIII)I"⟩
abbrev cX4_forgetAll : ByteArray := prog_1_method_25_code
def yX4_forgetAll : MethodName := ⟨RX4, "forgetAll", "()V"⟩
abbrev cX4_isWeight : ByteArray := prog_1_method_26_code
def yX4_isWeight : MethodName := ⟨RX4, "isWeight", "(I)Z"⟩
abbrev cX4_namesNoChoice : ByteArray := prog_1_method_27_code
def yX4_namesNoChoice : MethodName := ⟨RX4, "namesNoChoice", "(III)Z"⟩
abbrev cX4_isWellTold : ByteArray := prog_1_method_28_code
def yX4_isWellTold : MethodName := ⟨RX4, "isWellTold", "(IIII)Z"⟩
abbrev cX4_judgeFrom : ByteArray := prog_1_method_29_code
def yX4_judgeFrom : MethodName := ⟨RX4, "judgeFrom", "(I)V"⟩
abbrev cX4_planOf : ByteArray := prog_1_method_30_code
def yX4_planOf : MethodName := ⟨RX4, "planOf", "(IIIII)I"⟩
abbrev cX4_scoreWith : ByteArray := prog_1_method_31_code
def yX4_scoreWith : MethodName := ⟨RX4, "scoreWith", "(II)I"⟩
abbrev cX4_lookAtAll : ByteArray := prog_1_method_32_code
def yX4_lookAtAll : MethodName := ⟨RX4, "lookAtAll", "(LWhyNots$Top;II)V"⟩
abbrev cX4_findWhole : ByteArray := prog_1_method_33_code
def yX4_findWhole : MethodName := ⟨RX4, "findWhole", "()V"⟩
abbrev cX4_findParts : ByteArray := prog_1_method_34_code
def yX4_findParts : MethodName := ⟨RX4, "findParts", "(II)V"⟩
abbrev cX4_findSets : ByteArray := prog_1_method_35_code
def yX4_findSets : MethodName := ⟨RX4, "findSets", "()V"⟩
abbrev cX4_findPossible : ByteArray := prog_1_method_36_code
def yX4_findPossible : MethodName := ⟨RX4, "findPossible", "(I)V"⟩
abbrev cX4_listSets : ByteArray := prog_1_method_37_code
def yX4_listSets : MethodName := ⟨RX4, "listSets", "(I)V"⟩
abbrev cX4_isClash : ByteArray := prog_1_method_38_code
def yX4_isClash : MethodName := ⟨RX4, "isClash", "(I)Z"⟩
abbrev cX4_isRelaxation : ByteArray := prog_1_method_39_code
def yX4_isRelaxation : MethodName := ⟨RX4, "isRelaxation", "(II)Z"⟩
def RX5 : String := "WhyNotsModel"
def TX5 : u_T := fun k => match k with
  | 0 => ("WhyNotsModel", "choices", "I", false)
  | 1 => ("WhyNotsModel", "many", "[I", true)
  | 2 => ("WhyNotsModel", "worths", "[I", true)
  | 3 => ("WhyNotsModel", "rules", "I", false)
  | 4 => ("WhyNotsModel", "kinds", "[I", true)
  | 5 => ("WhyNotsModel", "as", "[I", true)
  | 6 => ("WhyNotsModel", "bs", "[I", true)
  | 7 => ("WhyNotsModel", "ns", "[I", true)
  | 8 => ("WhyNotsModel", "weights", "[I", true)
  | 9 => ("WhyNotsModel", "modes", "[I", true)
  | 10 => ("WhyNotsModel", "broken", "[I", true)
  | 11 => ("WhyNotsModel", "isFresh", "Z", false)
  | 12 => ("WhyNotsModel", "can", "[Z", true)
  | 13 => ("WhyNotsModel", "x", "[I", true)
  | _ => ("WhyNotsModel", "greatest", "I", false)
def tyX5 : Nat → FieldType := fun k => match k with
  | 0 => .int
  | 1 => .array .int
  | 2 => .array .int
  | 3 => .int
  | 4 => .array .int
  | 5 => .array .int
  | 6 => .array .int
  | 7 => .array .int
  | 8 => .array .int
  | 9 => .array .int
  | 10 => .array .int
  | 11 => .boolean
  | 12 => .array .boolean
  | 13 => .array .int
  | _ => .int
theorem nmX5 : ∀ a, a < 15 → ∀ b, b < 15 → a ≠ b → (TX5 a).2.1 ≠ (TX5 b).2.1 := by decide +kernel
theorem tyX5_ok : ∀ k, k < 15 → parseFieldDescriptor (TX5 k).2.2.1 = some (tyX5 k) := by decide +kernel
abbrev cX5_init : ByteArray := prog_7_method_1_code
def yX5_init : MethodName := ⟨RX5, "<init>", "()V"⟩
abbrev cX5_in : ByteArray := prog_7_method_2_code
def yX5_in : MethodName := ⟨RX5, "in", "(III)Z"⟩
abbrev cX5_isChoice : ByteArray := prog_7_method_3_code
def yX5_isChoice : MethodName := ⟨RX5, "isChoice", "(I)Z"⟩
abbrev cX5_isCandidate : ByteArray := prog_7_method_4_code
def yX5_isCandidate : MethodName := ⟨RX5, "isCandidate", "(II)Z"⟩
abbrev cX5_isRule : ByteArray := prog_7_method_5_code
def yX5_isRule : MethodName := ⟨RX5, "isRule", "(I)Z"⟩
abbrev cX5_choice : ByteArray := prog_7_method_6_code
def yX5_choice : MethodName := ⟨RX5, "choice", "(I)I"⟩
abbrev cX5_worth : ByteArray := prog_7_method_7_code
def yX5_worth : MethodName := ⟨RX5, "worth", "(III)I"⟩
abbrev cX5_isRight : ByteArray := prog_7_method_8_code
def yX5_isRight : MethodName := ⟨RX5, "isRight", "(IIII)Z"⟩
abbrev cX5_rule : ByteArray := prog_7_method_9_code
def yX5_rule : MethodName := ⟨RX5, "rule", "(IIIII)I"⟩
abbrev cX5_mode : ByteArray := prog_7_method_10_code
def yX5_mode : MethodName := ⟨RX5, "mode", "(II)I"⟩
abbrev cX5_weigh : ByteArray := prog_7_method_11_code
def yX5_weigh : MethodName := ⟨RX5, "weigh", "(II)I"⟩
abbrev cX5_told : ByteArray := prog_7_method_12_code
def yX5_told : MethodName := ⟨RX5, "told", "(II)I"⟩
abbrev cX5_plans : ByteArray := prog_7_method_13_code
def yX5_plans : MethodName := ⟨RX5, "plans", "()I"⟩
abbrev cX5_lay : ByteArray := prog_7_method_14_code
def yX5_lay : MethodName := ⟨RX5, "lay", "(I)V"⟩
abbrev cX5_keeps : ByteArray := prog_7_method_15_code
def yX5_keeps : MethodName := ⟨RX5, "keeps", "(I)Z"⟩
abbrev cX5_breaksNow : ByteArray := prog_7_method_16_code
def yX5_breaksNow : MethodName := ⟨RX5, "breaksNow", "()I"⟩
abbrev cX5_freshen : ByteArray := prog_7_method_17_code
def yX5_freshen : MethodName := ⟨RX5, "freshen", "()V"⟩
abbrev cX5_ofMode : ByteArray := prog_7_method_18_code
def yX5_ofMode : MethodName := ⟨RX5, "ofMode", "(I)I"⟩
abbrev cX5_costOf : ByteArray := prog_7_method_19_code
def yX5_costOf : MethodName := ⟨RX5, "costOf", "(I)I"⟩
abbrev cX5_takes : ByteArray := prog_7_method_20_code
def yX5_takes : MethodName := ⟨RX5, "takes", "(II)I"⟩
abbrev cX5_scoreNow : ByteArray := prog_7_method_21_code
def yX5_scoreNow : MethodName := ⟨RX5, "scoreNow", "(II)I"⟩
abbrev cX5_scoreOf : ByteArray := prog_7_method_22_code
def yX5_scoreOf : MethodName := ⟨RX5, "scoreOf", "(II)I"⟩
abbrev cX5_first : ByteArray := prog_7_method_23_code
def yX5_first : MethodName := ⟨RX5, "first", "(IIIII)I"⟩
abbrev cX5_firstBest : ByteArray := prog_7_method_24_code
def yX5_firstBest : MethodName := ⟨RX5, "firstBest", "()I"⟩
abbrev cX5_findCan : ByteArray := prog_7_method_25_code
def yX5_findCan : MethodName := ⟨RX5, "findCan", "()V"⟩
abbrev cX5_isClash : ByteArray := prog_7_method_26_code
def yX5_isClash : MethodName := ⟨RX5, "isClash", "(II)Z"⟩
abbrev cX5_isRelaxation : ByteArray := prog_7_method_27_code
def yX5_isRelaxation : MethodName := ⟨RX5, "isRelaxation", "(II)Z"⟩
abbrev cX5_sizeOf : ByteArray := prog_7_method_28_code
def yX5_sizeOf : MethodName := ⟨RX5, "sizeOf", "(I)I"⟩
abbrev cX5_rankOf : ByteArray := prog_7_method_29_code
def yX5_rankOf : MethodName := ⟨RX5, "rankOf", "(IZ)I"⟩
abbrev cX5_manySets : ByteArray := prog_7_method_30_code
def yX5_manySets : MethodName := ⟨RX5, "manySets", "(Z)I"⟩
abbrev cX5_setAt : ByteArray := prog_7_method_31_code
def yX5_setAt : MethodName := ⟨RX5, "setAt", "(IZ)I"⟩
abbrev cX5_standing : ByteArray := prog_7_method_32_code
def yX5_standing : MethodName := ⟨RX5, "standing", "(ZI)I"⟩
abbrev cX5_count : ByteArray := prog_7_method_33_code
def yX5_count : MethodName := ⟨RX5, "count", "(I)I"⟩
abbrev cX5_best : ByteArray := prog_7_method_34_code
def yX5_best : MethodName := ⟨RX5, "best", "()I"⟩
abbrev cX5_pick : ByteArray := prog_7_method_35_code
def yX5_pick : MethodName := ⟨RX5, "pick", "(I)I"⟩
abbrev cX5_fixed : ByteArray := prog_7_method_36_code
def yX5_fixed : MethodName := ⟨RX5, "fixed", "(I)I"⟩
abbrev cX5_force : ByteArray := prog_7_method_37_code
def yX5_force : MethodName := ⟨RX5, "force", "(II)I"⟩
abbrev cX5_forced : ByteArray := prog_7_method_38_code
def yX5_forced : MethodName := ⟨RX5, "forced", "(III)I"⟩
abbrev cX5_avoid : ByteArray := prog_7_method_39_code
def yX5_avoid : MethodName := ⟨RX5, "avoid", "(II)I"⟩
abbrev cX5_raise : ByteArray := prog_7_method_40_code
def yX5_raise : MethodName := ⟨RX5, "raise", "(II)I"⟩
abbrev cX5_lower : ByteArray := prog_7_method_41_code
def yX5_lower : MethodName := ⟨RX5, "lower", "(II)I"⟩
abbrev cX5_needs : ByteArray := prog_7_method_42_code
def yX5_needs : MethodName := ⟨RX5, "needs", "(II)I"⟩
abbrev cX5_clash : ByteArray := prog_7_method_43_code
def yX5_clash : MethodName := ⟨RX5, "clash", "()I"⟩
abbrev cX5_clashAt : ByteArray := prog_7_method_44_code
def yX5_clashAt : MethodName := ⟨RX5, "clashAt", "(I)I"⟩
abbrev cX5_relaxAt : ByteArray := prog_7_method_45_code
def yX5_relaxAt : MethodName := ⟨RX5, "relaxAt", "(I)I"⟩
abbrev cX5_cost : ByteArray := prog_7_method_46_code
def yX5_cost : MethodName := ⟨RX5, "cost", "(I)I"⟩
abbrev cX5_price : ByteArray := prog_7_method_47_code
def yX5_price : MethodName := ⟨RX5, "price", "(I)I"⟩
abbrev cX5_isPlan : ByteArray := prog_7_method_48_code
def yX5_isPlan : MethodName := ⟨RX5, "isPlan", "(IIIII)Z"⟩
abbrev cX5_breaks : ByteArray := prog_7_method_49_code
def yX5_breaks : MethodName := ⟨RX5, "breaks", "(IIIII)I"⟩
abbrev cX5_score : ByteArray := prog_7_method_50_code
def yX5_score : MethodName := ⟨RX5, "score", "(IIIII)I"⟩
def RJ6 : String := "java/lang/Integer"
abbrev cJ6_bitCount_0f7a4 : ByteArray := prog_8_method_49_code
def yJ6_bitCount_0f7a4 : MethodName := ⟨RJ6, "bitCount", "(I)I"⟩
def RJ9 : String := "java/lang/Math"
abbrev cJ9_abs_0f7a4 : ByteArray := prog_9_method_59_code
def yJ9_abs_0f7a4 : MethodName := ⟨RJ9, "abs", "(I)I"⟩
abbrev cJ9_max_7cf53 : ByteArray := prog_9_method_65_code
def yJ9_max_7cf53 : MethodName := ⟨RJ9, "max", "(II)I"⟩
def RL : String := "WhyNotsLaw"
abbrev cL_law : ByteArray := code
def yL_law : MethodName := ⟨RL, "law", "([I)Z"⟩
abbrev vwCl : List vw_C := [(RX0, TX0, 6), (RX1, TX1, 3), (RX2, TX2, 8), (RX3, TX3, 4), (RX4, TX4, 12), (RX5, TX5, 15)]
abbrev nw_Own : List String := [RX0, RX1, RX2, RX3, RX4, RX5, RJ6, RJ9, RL]
/-- a method: name, code, locals, answer, how many parameters, static, own number, level of calls -/
abbrev nw_MT : Type := MethodName × ByteArray × Nat × Option FieldType × Nat × Bool × Nat × Nat
def nw_mTab : List nw_MT := [
  (yX0_init, cX0_init, 1, none, 0, false, 0, 0),
  (yX0_has, cX0_has, 2, (some .boolean), 1, false, 0, 0),
  (yX0_hasCandidate, cX0_hasCandidate, 3, (some .boolean), 2, false, 0, 1),
  (yX0_add, cX0_add, 4, none, 1, false, 0, 0),
  (yX0_changeWorth, cX0_changeWorth, 7, (some .int), 3, false, 0, 1),
  (yX0_taken, cX0_taken, 5, (some .int), 2, false, 0, 0),
  (yX0_read, cX0_read, 4, none, 2, false, 0, 1),
  (yX0_numberOf, cX0_numberOf, 4, (some .int), 1, false, 0, 2),
  (yX1_init, cX1_init, 1, none, 0, false, 1, 0),
  (yX1_clear, cX1_clear, 1, none, 0, false, 1, 0),
  (yX1_put, cX1_put, 4, none, 2, false, 1, 0),
  (yX1_at, cX1_at, 2, (some .int), 1, false, 1, 0),
  (yX2_init, cX2_init, 1, none, 0, false, 2, 0),
  (yX2_has, cX2_has, 2, (some .boolean), 1, false, 2, 0),
  (yX2_sets, cX2_sets, 1, (some .int), 0, false, 2, 0),
  (yX2_add, cX2_add, 9, (some .int), 5, false, 2, 1),
  (yX2_changeWeight, cX2_changeWeight, 6, (some .int), 2, false, 2, 1),
  (yX2_inMode, cX2_inMode, 4, (some .int), 1, false, 2, 0),
  (yX2_isCheaper, cX2_isCheaper, 3, (some .boolean), 2, false, 2, 0),
  (yX2_isKept, cX2_isKept, 8, (some .boolean), 3, false, 2, 1),
  (yX2_howMany, cX2_howMany, 5, (some .int), 3, true, 2, 0),
  (yX2_together, cX2_together, 4, (some .int), 2, true, 2, 0),
  (yX3_init, cX3_init, 1, none, 0, false, 3, 0),
  (yX3_clear, cX3_clear, 1, none, 0, false, 3, 0),
  (yX3_see, cX3_see, 3, none, 2, false, 3, 0),
  (yX3_lacksAgainst, cX3_lacksAgainst, 3, (some .int), 1, false, 3, 1),
  (yX4_init, cX4_init, 1, none, 0, false, 4, 0),
  (yX4_choice, cX4_choice, 2, (some .int), 1, false, 4, 3),
  (yX4_worth, cX4_worth, 4, (some .int), 3, false, 4, 2),
  (yX4_rule, cX4_rule, 7, (some .int), 5, false, 4, 3),
  (yX4_mode, cX4_mode, 4, (some .int), 2, false, 4, 1),
  (yX4_weigh, cX4_weigh, 3, (some .int), 2, false, 4, 2),
  (yX4_told, cX4_told, 3, (some .int), 2, false, 4, 1),
  (yX4_count, cX4_count, 2, (some .int), 1, false, 4, 3),
  (yX4_best, cX4_best, 1, (some .int), 0, false, 4, 3),
  (yX4_pick, cX4_pick, 2, (some .int), 1, false, 4, 3),
  (yX4_fixed, cX4_fixed, 6, (some .int), 1, false, 4, 3),
  (yX4_force, cX4_force, 3, (some .int), 2, false, 4, 2),
  (yX4_forced, cX4_forced, 4, (some .int), 3, false, 4, 2),
  (yX4_avoid, cX4_avoid, 3, (some .int), 2, false, 4, 2),
  (yX4_raise, cX4_raise, 3, (some .int), 2, false, 4, 2),
  (yX4_lower, cX4_lower, 3, (some .int), 2, false, 4, 2),
  (yX4_needs, cX4_needs, 7, (some .int), 2, false, 4, 2),
  (yX4_clash, cX4_clash, 4, (some .int), 0, false, 4, 3),
  (yX4_clashAt, cX4_clashAt, 2, (some .int), 1, false, 4, 3),
  (yX4_relaxAt, cX4_relaxAt, 2, (some .int), 1, false, 4, 3),
  (yX4_cost, cX4_cost, 2, (some .int), 1, false, 4, 1),
  (yX4_price, cX4_price, 3, (some .int), 1, false, 4, 3),
  (yX4_breaks, cX4_breaks, 7, (some .int), 5, false, 4, 4),
  (yX4_score, cX4_score, 7, (some .int), 5, false, 4, 4),
  (yX4_forgetAll, cX4_forgetAll, 1, none, 0, false, 4, 0),
  (yX4_isWeight, cX4_isWeight, 1, (some .boolean), 1, true, 4, 0),
  (yX4_namesNoChoice, cX4_namesNoChoice, 4, (some .boolean), 3, false, 4, 1),
  (yX4_isWellTold, cX4_isWellTold, 4, (some .boolean), 4, true, 4, 0),
  (yX4_judgeFrom, cX4_judgeFrom, 6, none, 1, false, 4, 2),
  (yX4_planOf, cX4_planOf, 6, (some .int), 5, false, 4, 3),
  (yX4_scoreWith, cX4_scoreWith, 3, (some .int), 2, false, 4, 0),
  (yX4_lookAtAll, cX4_lookAtAll, 5, none, 3, false, 4, 1),
  (yX4_findWhole, cX4_findWhole, 1, none, 0, false, 4, 2),
  (yX4_findParts, cX4_findParts, 7, none, 2, false, 4, 1),
  (yX4_findSets, cX4_findSets, 2, none, 0, false, 4, 2),
  (yX4_findPossible, cX4_findPossible, 6, none, 1, false, 4, 1),
  (yX4_listSets, cX4_listSets, 4, none, 1, false, 4, 1),
  (yX4_isClash, cX4_isClash, 4, (some .boolean), 1, false, 4, 0),
  (yX4_isRelaxation, cX4_isRelaxation, 6, (some .boolean), 2, false, 4, 0),
  (yX5_init, cX5_init, 1, none, 0, false, 5, 0),
  (yX5_in, cX5_in, 3, (some .boolean), 3, true, 5, 0),
  (yX5_isChoice, cX5_isChoice, 2, (some .boolean), 1, false, 5, 1),
  (yX5_isCandidate, cX5_isCandidate, 3, (some .boolean), 2, false, 5, 2),
  (yX5_isRule, cX5_isRule, 2, (some .boolean), 1, false, 5, 1),
  (yX5_choice, cX5_choice, 2, (some .int), 1, false, 5, 1),
  (yX5_worth, cX5_worth, 5, (some .int), 3, false, 5, 3),
  (yX5_isRight, cX5_isRight, 4, (some .boolean), 4, true, 5, 1),
  (yX5_rule, cX5_rule, 8, (some .int), 5, false, 5, 2),
  (yX5_mode, cX5_mode, 4, (some .int), 2, false, 5, 2),
  (yX5_weigh, cX5_weigh, 4, (some .int), 2, false, 5, 2),
  (yX5_told, cX5_told, 3, (some .int), 2, false, 5, 2),
  (yX5_plans, cX5_plans, 3, (some .int), 0, false, 5, 0),
  (yX5_lay, cX5_lay, 4, none, 1, false, 5, 0),
  (yX5_keeps, cX5_keeps, 8, (some .boolean), 1, false, 5, 0),
  (yX5_breaksNow, cX5_breaksNow, 3, (some .int), 0, false, 5, 1),
  (yX5_freshen, cX5_freshen, 3, none, 0, false, 5, 2),
  (yX5_ofMode, cX5_ofMode, 4, (some .int), 1, false, 5, 0),
  (yX5_costOf, cX5_costOf, 4, (some .int), 1, false, 5, 0),
  (yX5_takes, cX5_takes, 3, (some .int), 2, false, 5, 1),
  (yX5_scoreNow, cX5_scoreNow, 5, (some .int), 2, false, 5, 1),
  (yX5_scoreOf, cX5_scoreOf, 3, (some .int), 2, false, 5, 2),
  (yX5_first, cX5_first, 11, (some .int), 5, false, 5, 3),
  (yX5_firstBest, cX5_firstBest, 1, (some .int), 0, false, 5, 4),
  (yX5_findCan, cX5_findCan, 5, none, 0, false, 5, 3),
  (yX5_isClash, cX5_isClash, 5, (some .boolean), 2, false, 5, 0),
  (yX5_isRelaxation, cX5_isRelaxation, 5, (some .boolean), 2, false, 5, 0),
  (yX5_sizeOf, cX5_sizeOf, 3, (some .int), 1, true, 5, 0),
  (yX5_rankOf, cX5_rankOf, 3, (some .int), 2, false, 5, 1),
  (yX5_manySets, cX5_manySets, 5, (some .int), 1, false, 5, 4),
  (yX5_setAt, cX5_setAt, 10, (some .int), 2, false, 5, 4),
  (yX5_standing, cX5_standing, 8, (some .int), 2, false, 5, 3),
  (yX5_count, cX5_count, 2, (some .int), 1, false, 5, 5),
  (yX5_best, cX5_best, 1, (some .int), 0, false, 5, 5),
  (yX5_pick, cX5_pick, 3, (some .int), 1, false, 5, 5),
  (yX5_fixed, cX5_fixed, 8, (some .int), 1, false, 5, 5),
  (yX5_force, cX5_force, 3, (some .int), 2, false, 5, 4),
  (yX5_forced, cX5_forced, 5, (some .int), 3, false, 5, 4),
  (yX5_avoid, cX5_avoid, 3, (some .int), 2, false, 5, 4),
  (yX5_raise, cX5_raise, 8, (some .int), 2, false, 5, 4),
  (yX5_lower, cX5_lower, 8, (some .int), 2, false, 5, 4),
  (yX5_needs, cX5_needs, 9, (some .int), 2, false, 5, 3),
  (yX5_clash, cX5_clash, 3, (some .int), 0, false, 5, 4),
  (yX5_clashAt, cX5_clashAt, 2, (some .int), 1, false, 5, 5),
  (yX5_relaxAt, cX5_relaxAt, 2, (some .int), 1, false, 5, 5),
  (yX5_cost, cX5_cost, 2, (some .int), 1, false, 5, 1),
  (yX5_price, cX5_price, 5, (some .int), 1, false, 5, 5),
  (yX5_isPlan, cX5_isPlan, 7, (some .boolean), 5, false, 5, 3),
  (yX5_breaks, cX5_breaks, 6, (some .int), 5, false, 5, 4),
  (yX5_score, cX5_score, 6, (some .int), 5, false, 5, 4),
  (yJ6_bitCount_0f7a4, cJ6_bitCount_0f7a4, 1, (some .int), 1, true, 6, 0),
  (yJ9_abs_0f7a4, cJ9_abs_0f7a4, 1, (some .int), 1, true, 7, 0),
  (yJ9_max_7cf53, cJ9_max_7cf53, 2, (some .int), 2, true, 7, 0),
  (yL_law, cL_law, 4, (some .boolean), 1, true, 8, 6)]
def nw_cd1 : List (List (Option Instr)) := [
  [some (.iload_n 1), some (.ifCond .lt 15), none, none, some (.iload_n 1), some (.aload_n 0), some (.getfield 9), none, none, some (.if_icmp .ge 7), none, none, some (.iconst 1), some (.goto 4), none, none],
  [some (.iconst 0), some (.ireturn), none, none, none, none, none, none, none, none, none, none, none, none, none, none]]
def nw_cd2 : List (List (Option Instr)) := [
  [some (.aload_n 0), some (.iload_n 1), some (.invokevirtual 31), none, none, some (.ifCond .eq 21), none, none, some (.iload_n 2), some (.ifCond .lt 17), none, none, some (.iload_n 2), some (.aload_n 0), some (.getfield 18), none],
  [none, some (.iload_n 1), some (.iaload), some (.if_icmp .ge 7), none, none, some (.iconst 1), some (.goto 4), none, none, some (.iconst 0), some (.ireturn), none, none, none, none]]
def nw_cd3 : List (List (Option Instr)) := [
  [some (.aload_n 0), some (.getfield 15), none, none, some (.iconst 1), some (.isub), some (.istore_n 2), some (.iload_n 2), some (.ifCond .lt 39), none, none, some (.iload_n 1), some (.iconst 1), some (.isub), some (.istore_n 3), some (.iload_n 3)],
  [some (.ifCond .lt 25), none, none, some (.aload_n 0), some (.getfield 28), none, none, some (.iload_n 2), some (.iload_n 1), some (.imul), some (.iload_n 3), some (.iadd), some (.aload_n 0), some (.getfield 28), none, none],
  [some (.iload_n 2), some (.iaload), some (.iastore), some (.iinc 3 (-1)), none, none, some (.goto (-23)), none, none, some (.iinc 2 (-1)), none, none, some (.goto (-37)), none, none, some (.iconst 0)],
  [some (.istore_n 2), some (.iload_n 2), some (.aload_n 0), some (.getfield 9), none, none, some (.if_icmp .ge 19), none, none, some (.aload_n 0), some (.getfield 22), none, none, some (.iload_n 2), some (.dup2), some (.iaload)],
  [some (.iload_n 1), some (.imul), some (.iastore), some (.iinc 2 1), none, none, some (.goto (-21)), none, none, some (.aload_n 0), some (.getfield 18), none, none, some (.aload_n 0), some (.getfield 9), none],
  [none, some (.iload_n 1), some (.iastore), some (.aload_n 0), some (.getfield 22), none, none, some (.aload_n 0), some (.getfield 9), none, none, some (.iconst 1), some (.iastore), some (.aload_n 0), some (.dup), some (.getfield 9)],
  [none, none, some (.iconst 1), some (.iadd), some (.putfield 9), none, none, some (.aload_n 0), some (.dup), some (.getfield 15), none, none, some (.iload_n 1), some (.imul), some (.putfield 15), none],
  [none, some (.return_), none, none, none, none, none, none, none, none, none, none, none, none, none, none]]
def nw_cd4 : List (List (Option Instr)) := [
  [some (.iload_n 1), some (.bipush 6), none, some (.imul), some (.iload_n 2), some (.iadd), some (.istore 4), none, some (.aload_n 0), some (.getfield 25), none, none, some (.iload 4), none, some (.iaload), some (.istore 5)],
  [none, some (.aload_n 0), some (.getfield 25), none, none, some (.iload 4), none, some (.iload_n 3), some (.iastore), some (.iconst 0), some (.istore 6), none, some (.iload 6), none, some (.aload_n 0), some (.getfield 15)],
  [none, none, some (.if_icmp .ge 34), none, none, some (.aload_n 0), some (.iload 6), none, some (.iload_n 1), some (.invokevirtual 35), none, none, some (.iload_n 2), some (.if_icmp .ne 17), none, none],
  [some (.aload_n 0), some (.getfield 28), none, none, some (.iload 6), none, some (.dup2), some (.iaload), some (.iload_n 3), some (.iload 5), none, some (.isub), some (.iadd), some (.iastore), some (.iinc 6 1), none],
  [none, some (.goto (-37)), none, none, some (.iload 5), none, some (.ireturn), none, none, none, none, none, none, none, none, none]]
def nw_cd5 : List (List (Option Instr)) := [
  [some (.aload_n 0), some (.getfield 22), none, none, some (.iload_n 2), some (.iaload), some (.istore_n 3), some (.aload_n 0), some (.getfield 18), none, none, some (.iload_n 2), some (.iaload), some (.istore 4), none, some (.iload_n 3)],
  [some (.iconst 1), some (.if_icmp .lt 9), none, none, some (.iload 4), none, some (.iconst 1), some (.if_icmp .ge 7), none, none, some (.iconst 0), some (.goto 9), none, none, some (.iload_n 1), some (.iload_n 3)],
  [some (.idiv), some (.iload 4), none, some (.irem), some (.ireturn), none, none, none, none, none, none, none, none, none, none, none]]
def nw_cd6 : List (List (Option Instr)) := [
  [some (.iconst 0), some (.istore_n 3), some (.iload_n 3), some (.aload_n 0), some (.getfield 9), none, none, some (.if_icmp .ge 18), none, none, some (.aload_n 2), some (.iload_n 3), some (.aload_n 0), some (.iload_n 1), some (.iload_n 3), some (.invokevirtual 35)],
  [none, none, some (.iastore), some (.iinc 3 1), none, none, some (.goto (-20)), none, none, some (.return_), none, none, none, none, none, none]]
def nw_cd7 : List (List (Option Instr)) := [
  [some (.iconst 0), some (.istore_n 2), some (.iconst 0), some (.istore_n 3), some (.iload_n 3), some (.aload_n 0), some (.getfield 9), none, none, some (.if_icmp .ge 35), none, none, some (.aload_n 0), some (.iload_n 3), some (.aload_n 1), some (.iload_n 3)],
  [some (.iaload), some (.invokevirtual 39), none, none, some (.ifCond .ne 5), none, none, some (.iconst (-1)), some (.ireturn), some (.iload_n 2), some (.aload_n 1), some (.iload_n 3), some (.iaload), some (.aload_n 0), some (.getfield 22), none],
  [none, some (.iload_n 3), some (.iaload), some (.imul), some (.iadd), some (.istore_n 2), some (.iinc 3 1), none, none, some (.goto (-37)), none, none, some (.iload_n 2), some (.ireturn), none, none]]
def nw_cd9 : List (List (Option Instr)) := [
  [some (.aload_n 0), some (.iconst 0), some (.putfield 9), none, none, some (.return_), none, none, none, none, none, none, none, none, none, none]]
def nw_cd10 : List (List (Option Instr)) := [
  [some (.aload_n 0), some (.getfield 9), none, none, some (.sipush 924), none, none, some (.if_icmp .lt 4), none, none, some (.return_), some (.aload_n 0), some (.getfield 9), none, none, some (.istore_n 3)],
  [some (.iload_n 3), some (.ifCond .le 49), none, none, some (.aload_n 0), some (.getfield 19), none, none, some (.iload_n 3), some (.iconst 1), some (.isub), some (.iaload), some (.iload_n 2), some (.if_icmp .le 37), none, none],
  [some (.aload_n 0), some (.getfield 15), none, none, some (.iload_n 3), some (.aload_n 0), some (.getfield 15), none, none, some (.iload_n 3), some (.iconst 1), some (.isub), some (.iaload), some (.iastore), some (.aload_n 0), some (.getfield 19)],
  [none, none, some (.iload_n 3), some (.aload_n 0), some (.getfield 19), none, none, some (.iload_n 3), some (.iconst 1), some (.isub), some (.iaload), some (.iastore), some (.iinc 3 (-1)), none, none, some (.goto (-47))],
  [none, none, some (.aload_n 0), some (.getfield 15), none, none, some (.iload_n 3), some (.iload_n 1), some (.iastore), some (.aload_n 0), some (.getfield 19), none, none, some (.iload_n 3), some (.iload_n 2), some (.iastore)],
  [some (.aload_n 0), some (.dup), some (.getfield 9), none, none, some (.iconst 1), some (.iadd), some (.putfield 9), none, none, some (.return_), none, none, none, none, none]]
def nw_cd11 : List (List (Option Instr)) := [
  [some (.iload_n 1), some (.ifCond .lt 11), none, none, some (.iload_n 1), some (.aload_n 0), some (.getfield 9), none, none, some (.if_icmp .lt 8), none, none, some (.ldc 22), none, some (.goto 9), none],
  [none, some (.aload_n 0), some (.getfield 15), none, none, some (.iload_n 1), some (.iaload), some (.ireturn), none, none, none, none, none, none, none, none]]
def nw_cd13 : List (List (Option Instr)) := [
  [some (.iload_n 1), some (.ifCond .lt 15), none, none, some (.iload_n 1), some (.aload_n 0), some (.getfield 9), none, none, some (.if_icmp .ge 7), none, none, some (.iconst 1), some (.goto 4), none, none],
  [some (.iconst 0), some (.ireturn), none, none, none, none, none, none, none, none, none, none, none, none, none, none]]
def nw_cd14 : List (List (Option Instr)) := [
  [some (.iconst 1), some (.aload_n 0), some (.getfield 9), none, none, some (.ishl), some (.ireturn), none, none, none, none, none, none, none, none, none]]
def nw_cd15 : List (List (Option Instr)) := [
  [some (.aload_n 0), some (.getfield 9), none, none, some (.istore 6), none, some (.aload_n 0), some (.getfield 15), none, none, some (.iload 6), none, some (.iload_n 1), some (.iastore), some (.aload_n 0), some (.getfield 19)],
  [none, none, some (.iload 6), none, some (.iload_n 2), some (.iastore), some (.aload_n 0), some (.getfield 22), none, none, some (.iload 6), none, some (.iload_n 3), some (.iastore), some (.aload_n 0), some (.getfield 25)],
  [none, none, some (.iload 6), none, some (.iload 4), none, some (.iastore), some (.aload_n 0), some (.getfield 28), none, none, some (.iload 6), none, some (.iload 5), none, some (.iastore)],
  [some (.aload_n 0), some (.getfield 31), none, none, some (.iload 6), none, some (.iconst 1), some (.iastore), some (.aload_n 0), some (.invokevirtual 37), none, none, some (.istore 7), none, some (.iconst 0), some (.istore 8)],
  [none, some (.iload 8), none, some (.iload 7), none, some (.if_icmp .ge 29), none, none, some (.aload_n 0), some (.getfield 34), none, none, some (.iload 8), none, some (.iload 7), none],
  [some (.iadd), some (.aload_n 0), some (.getfield 34), none, none, some (.iload 8), none, some (.iaload), some (.iload 5), none, some (.iadd), some (.iastore), some (.iinc 8 1), none, none, some (.goto (-30))],
  [none, none, some (.aload_n 0), some (.dup), some (.getfield 9), none, none, some (.iconst 1), some (.iadd), some (.putfield 9), none, none, some (.iload 6), none, some (.ireturn), none]]
def nw_cd16 : List (List (Option Instr)) := [
  [some (.aload_n 0), some (.getfield 28), none, none, some (.iload_n 1), some (.iaload), some (.istore_n 3), some (.aload_n 0), some (.getfield 28), none, none, some (.iload_n 1), some (.iload_n 2), some (.iastore), some (.aload_n 0), some (.invokevirtual 37)],
  [none, none, some (.istore 4), none, some (.iconst 0), some (.istore 5), none, some (.iload 5), none, some (.iload 4), none, some (.if_icmp .ge 32), none, none, some (.iload 5), none],
  [some (.iload_n 1), some (.ishr), some (.iconst 1), some (.iand), some (.iconst 1), some (.if_icmp .ne 16), none, none, some (.aload_n 0), some (.getfield 34), none, none, some (.iload 5), none, some (.dup2), some (.iaload)],
  [some (.iload_n 2), some (.iload_n 3), some (.isub), some (.iadd), some (.iastore), some (.iinc 5 1), none, none, some (.goto (-33)), none, none, some (.iload_n 3), some (.ireturn), none, none, none]]
def nw_cd17 : List (List (Option Instr)) := [
  [some (.iconst 0), some (.istore_n 2), some (.iconst 0), some (.istore_n 3), some (.iload_n 3), some (.aload_n 0), some (.getfield 9), none, none, some (.if_icmp .ge 25), none, none, some (.aload_n 0), some (.getfield 31), none, none],
  [some (.iload_n 3), some (.iaload), some (.iload_n 1), some (.if_icmp .ne 9), none, none, some (.iload_n 2), some (.iconst 1), some (.iload_n 3), some (.ishl), some (.ior), some (.istore_n 2), some (.iinc 3 1), none, none, some (.goto (-27))],
  [none, none, some (.iload_n 2), some (.ireturn), none, none, none, none, none, none, none, none, none, none, none, none]]
def nw_cd18 : List (List (Option Instr)) := [
  [some (.aload_n 0), some (.getfield 34), none, none, some (.iload_n 1), some (.iaload), some (.aload_n 0), some (.getfield 34), none, none, some (.iload_n 2), some (.iaload), some (.if_icmp .lt 23), none, none, some (.aload_n 0)],
  [some (.getfield 34), none, none, some (.iload_n 1), some (.iaload), some (.aload_n 0), some (.getfield 34), none, none, some (.iload_n 2), some (.iaload), some (.if_icmp .ne 12), none, none, some (.iload_n 1), some (.iload_n 2)],
  [some (.if_icmp .ge 7), none, none, some (.iconst 1), some (.goto 4), none, none, some (.iconst 0), some (.ireturn), none, none, none, none, none, none, none]]
def nw_cd19 : List (List (Option Instr)) := [
  [some (.aload_n 0), some (.getfield 19), none, none, some (.iload_n 1), some (.iaload), some (.istore 4), none, some (.aload_n 0), some (.getfield 22), none, none, some (.iload_n 1), some (.iaload), some (.istore 5), none],
  [some (.aload_n 0), some (.getfield 25), none, none, some (.iload_n 1), some (.iaload), some (.istore 6), none, some (.aload_n 0), some (.getfield 15), none, none, some (.iload_n 1), some (.iaload), some (.tableswitch 208 0 7 #[46, 65, 82, 99, 119, 142, 172, 190]), none],
  [none, none, none, none, none, none, none, none, none, none, none, none, none, none, none, none],
  [none, none, none, none, none, none, none, none, none, none, none, none, none, none, none, none],
  [none, none, none, none, none, none, none, none, none, none, none, none, some (.iload 6), none, some (.aload_n 2), some (.iload 4)],
  [none, some (.iaload), some (.ishr), some (.iconst 1), some (.iand), some (.iconst 1), some (.if_icmp .ne 7), none, none, some (.iconst 1), some (.goto 4), none, none, some (.iconst 0), some (.ireturn), some (.aload_n 2)],
  [some (.iload 4), none, some (.iaload), some (.aload_n 2), some (.iload 5), none, some (.iaload), some (.if_icmp .eq 7), none, none, some (.iconst 1), some (.goto 4), none, none, some (.iconst 0), some (.ireturn)],
  [some (.aload_n 2), some (.iload 4), none, some (.iaload), some (.aload_n 2), some (.iload 5), none, some (.iaload), some (.if_icmp .ne 7), none, none, some (.iconst 1), some (.goto 4), none, none, some (.iconst 0)],
  [some (.ireturn), some (.aload_n 2), some (.iload 5), none, some (.iaload), some (.aload_n 2), some (.iload 4), none, some (.iaload), some (.iload 6), none, some (.iadd), some (.if_icmp .lt 7), none, none, some (.iconst 1)],
  [some (.goto 4), none, none, some (.iconst 0), some (.ireturn), some (.aload_n 2), some (.iload 4), none, some (.iaload), some (.aload_n 2), some (.iload 5), none, some (.iaload), some (.isub), some (.invokestatic 41), none],
  [none, some (.iload 6), none, some (.if_icmp .gt 7), none, none, some (.iconst 1), some (.goto 4), none, none, some (.iconst 0), some (.ireturn), some (.aload_n 2), some (.iload 4), none, some (.iaload)],
  [some (.iload 6), none, some (.bipush 8), none, some (.idiv), some (.if_icmp .ne 15), none, none, some (.aload_n 2), some (.iload 5), none, some (.iaload), some (.iload 6), none, some (.bipush 8), none],
  [some (.irem), some (.if_icmp .ne 7), none, none, some (.iconst 1), some (.goto 4), none, none, some (.iconst 0), some (.ireturn), some (.iload 4), none, some (.aload_n 2), some (.iload_n 3), some (.invokestatic 47), none],
  [none, some (.iload 6), none, some (.if_icmp .gt 7), none, none, some (.iconst 1), some (.goto 4), none, none, some (.iconst 0), some (.ireturn), some (.iload 4), none, some (.aload_n 2), some (.iload_n 3)],
  [some (.invokestatic 47), none, none, some (.iload 6), none, some (.if_icmp .lt 7), none, none, some (.iconst 1), some (.goto 4), none, none, some (.iconst 0), some (.ireturn), some (.aload_n 2), some (.iload_n 3)],
  [some (.invokestatic 51), none, none, some (.istore 7), none, some (.iload 7), none, some (.iload 4), none, some (.if_icmp .lt 14), none, none, some (.iload 7), none, some (.iload 5), none],
  [some (.if_icmp .gt 7), none, none, some (.iconst 1), some (.goto 4), none, none, some (.iconst 0), some (.ireturn), none, none, none, none, none, none, none]]
def nw_cd20 : List (List (Option Instr)) := [
  [some (.iconst 0), some (.istore_n 3), some (.iconst 0), some (.istore 4), none, some (.iload 4), none, some (.iload_n 2), some (.if_icmp .ge 20), none, none, some (.aload_n 1), some (.iload 4), none, some (.iaload), some (.iload_n 0)],
  [some (.if_icmp .ne 6), none, none, some (.iinc 3 1), none, none, some (.iinc 4 1), none, none, some (.goto (-20)), none, none, some (.iload_n 3), some (.ireturn), none, none]]
def nw_cd21 : List (List (Option Instr)) := [
  [some (.iconst 0), some (.istore_n 2), some (.iconst 0), some (.istore_n 3), some (.iload_n 3), some (.iload_n 1), some (.if_icmp .ge 15), none, none, some (.iload_n 2), some (.aload_n 0), some (.iload_n 3), some (.iaload), some (.iadd), some (.istore_n 2), some (.iinc 3 1)],
  [none, none, some (.goto (-14)), none, none, some (.iload_n 2), some (.ireturn), none, none, none, none, none, none, none, none, none]]
def nw_cd23 : List (List (Option Instr)) := [
  [some (.aload_n 0), some (.iconst 0), some (.putfield 7), none, none, some (.aload_n 0), some (.iconst 0), some (.putfield 13), none, none, some (.aload_n 0), some (.iconst 0), some (.putfield 16), none, none, some (.aload_n 0)],
  [some (.iconst 0), some (.putfield 19), none, none, some (.return_), none, none, none, none, none, none, none, none, none, none, none]]
def nw_cd24 : List (List (Option Instr)) := [
  [some (.aload_n 0), some (.getfield 7), none, none, some (.ifCond .eq 11), none, none, some (.iload_n 2), some (.aload_n 0), some (.getfield 13), none, none, some (.if_icmp .le 21), none, none, some (.aload_n 0)],
  [some (.iload_n 2), some (.putfield 13), none, none, some (.aload_n 0), some (.iload_n 1), some (.putfield 16), none, none, some (.aload_n 0), some (.iconst 1), some (.putfield 19), none, none, some (.goto 21), none],
  [none, some (.iload_n 2), some (.aload_n 0), some (.getfield 13), none, none, some (.if_icmp .ne 13), none, none, some (.aload_n 0), some (.dup), some (.getfield 19), none, none, some (.iconst 1), some (.iadd)],
  [some (.putfield 19), none, none, some (.aload_n 0), some (.dup), some (.getfield 7), none, none, some (.iconst 1), some (.iadd), some (.putfield 7), none, none, some (.return_), none, none]]
def nw_cd25 : List (List (Option Instr)) := [
  [some (.aload_n 1), some (.getfield 7), none, none, some (.ifCond .ne 5), none, none, some (.iconst 0), some (.ireturn), some (.aload_n 1), some (.getfield 13), none, none, some (.aload_n 0), some (.getfield 13), none],
  [none, some (.isub), some (.aload_n 0), some (.getfield 16), none, none, some (.aload_n 1), some (.getfield 16), none, none, some (.if_icmp .ge 7), none, none, some (.iconst 0), some (.goto 4), none],
  [none, some (.iconst 1), some (.iadd), some (.istore_n 2), some (.iload_n 2), some (.iconst 0), some (.invokestatic 22), none, none, some (.ireturn), none, none, none, none, none, none]]
def nw_cd27 : List (List (Option Instr)) := [
  [some (.iload_n 1), some (.iconst 1), some (.if_icmp .lt 9), none, none, some (.iload_n 1), some (.bipush 6), none, some (.if_icmp .le 6), none, none, some (.ldc 64), none, some (.ireturn), some (.aload_n 0), some (.getfield 12)],
  [none, none, some (.getfield 65), none, none, some (.iconst 5), some (.if_icmp .lt 6), none, none, some (.ldc 69), none, some (.ireturn), some (.aload_n 0), some (.getfield 12), none, none],
  [some (.iload_n 1), some (.invokevirtual 70), none, none, some (.aload_n 0), some (.iconst 0), some (.invokevirtual 74), none, none, some (.aload_n 0), some (.invokevirtual 77), none, none, some (.aload_n 0), some (.getfield 12), none],
  [none, some (.getfield 65), none, none, some (.iconst 1), some (.isub), some (.ireturn), none, none, none, none, none, none, none, none, none]]
def nw_cd28 : List (List (Option Instr)) := [
  [some (.aload_n 0), some (.getfield 12), none, none, some (.iload_n 1), some (.iload_n 2), some (.invokevirtual 80), none, none, some (.ifCond .ne 6), none, none, some (.ldc 84), none, some (.ireturn), some (.iload_n 3)],
  [some (.sipush (-1000)), none, none, some (.if_icmp .lt 10), none, none, some (.iload_n 3), some (.sipush 1000), none, none, some (.if_icmp .le 6), none, none, some (.ldc 64), none, some (.ireturn)],
  [some (.aload_n 0), some (.iconst 1), some (.putfield 37), none, none, some (.aload_n 0), some (.getfield 12), none, none, some (.iload_n 1), some (.iload_n 2), some (.iload_n 3), some (.invokevirtual 85), none, none, some (.ireturn)]]
def nw_cd29 : List (List (Option Instr)) := [
  [some (.aload_n 0), some (.iload_n 1), some (.iload_n 2), some (.iload_n 3), some (.invokevirtual 89), none, none, some (.ifCond .eq 6), none, none, some (.ldc 84), none, some (.ireturn), some (.iload_n 1), some (.iload_n 2), some (.iload_n 3)],
  [some (.iload 4), none, some (.invokestatic 93), none, none, some (.ifCond .eq 11), none, none, some (.iload 5), none, some (.invokestatic 97), none, none, some (.ifCond .ne 6), none, none],
  [some (.ldc 64), none, some (.ireturn), some (.aload_n 0), some (.getfield 19), none, none, some (.getfield 101), none, none, some (.bipush 12), none, some (.if_icmp .lt 6), none, none, some (.ldc 69)],
  [none, some (.ireturn), some (.aload_n 0), some (.getfield 19), none, none, some (.iload_n 1), some (.iload_n 2), some (.iload_n 3), some (.iload 4), none, some (.iload 5), none, some (.invokevirtual 102), none, none],
  [some (.istore 6), none, some (.aload_n 0), some (.iload 6), none, some (.invokevirtual 74), none, none, some (.aload_n 0), some (.invokevirtual 77), none, none, some (.iload 6), none, some (.ireturn), none]]
def nw_cd30 : List (List (Option Instr)) := [
  [some (.aload_n 0), some (.getfield 19), none, none, some (.iload_n 1), some (.invokevirtual 105), none, none, some (.ifCond .ne 6), none, none, some (.ldc 84), none, some (.ireturn), some (.iload_n 2), some (.ifCond .lt 8)],
  [none, none, some (.iload_n 2), some (.iconst 2), some (.if_icmp .le 6), none, none, some (.ldc 64), none, some (.ireturn), some (.aload_n 0), some (.getfield 19), none, none, some (.getfield 108), none],
  [none, some (.iload_n 1), some (.iaload), some (.istore_n 3), some (.aload_n 0), some (.getfield 19), none, none, some (.getfield 108), none, none, some (.iload_n 1), some (.iload_n 2), some (.iastore), some (.aload_n 0), some (.invokevirtual 77)],
  [none, none, some (.iload_n 3), some (.ireturn), none, none, none, none, none, none, none, none, none, none, none, none]]
def nw_cd31 : List (List (Option Instr)) := [
  [some (.aload_n 0), some (.getfield 19), none, none, some (.iload_n 1), some (.invokevirtual 105), none, none, some (.ifCond .ne 6), none, none, some (.ldc 84), none, some (.ireturn), some (.iload_n 2), some (.invokestatic 97)],
  [none, none, some (.ifCond .ne 6), none, none, some (.ldc 64), none, some (.ireturn), some (.aload_n 0), some (.invokevirtual 77), none, none, some (.aload_n 0), some (.getfield 19), none, none],
  [some (.iload_n 1), some (.iload_n 2), some (.invokevirtual 111), none, none, some (.ireturn), none, none, none, none, none, none, none, none, none, none]]
def nw_cd32 : List (List (Option Instr)) := [
  [some (.aload_n 0), some (.getfield 19), none, none, some (.iload_n 1), some (.invokevirtual 105), none, none, some (.ifCond .ne 6), none, none, some (.ldc 84), none, some (.ireturn), some (.iload_n 2), some (.tableswitch 97 0 5 #[37, 47, 57, 67, 77, 87])],
  [none, none, none, none, none, none, none, none, none, none, none, none, none, none, none, none],
  [none, none, none, none, none, none, none, none, none, none, none, none, none, none, none, none],
  [none, none, none, none, some (.aload_n 0), some (.getfield 19), none, none, some (.getfield 115), none, none, some (.iload_n 1), some (.iaload), some (.ireturn), some (.aload_n 0), some (.getfield 19)],
  [none, none, some (.getfield 118), none, none, some (.iload_n 1), some (.iaload), some (.ireturn), some (.aload_n 0), some (.getfield 19), none, none, some (.getfield 121), none, none, some (.iload_n 1)],
  [some (.iaload), some (.ireturn), some (.aload_n 0), some (.getfield 19), none, none, some (.getfield 124), none, none, some (.iload_n 1), some (.iaload), some (.ireturn), some (.aload_n 0), some (.getfield 19), none, none],
  [some (.getfield 127), none, none, some (.iload_n 1), some (.iaload), some (.ireturn), some (.aload_n 0), some (.getfield 19), none, none, some (.getfield 108), none, none, some (.iload_n 1), some (.iaload), some (.ireturn)],
  [some (.ldc 64), none, some (.ireturn), none, none, none, none, none, none, none, none, none, none, none, none, none]]
def nw_cd33 : List (List (Option Instr)) := [
  [some (.iload_n 1), some (.tableswitch 115 0 6 #[43, 51, 59, 67, 79, 91, 103]), none, none, none, none, none, none, none, none, none, none, none, none, none, none],
  [none, none, none, none, none, none, none, none, none, none, none, none, none, none, none, none],
  [none, none, none, none, none, none, none, none, none, none, none, none, some (.aload_n 0), some (.getfield 12), none, none],
  [some (.getfield 65), none, none, some (.ireturn), some (.aload_n 0), some (.getfield 19), none, none, some (.getfield 101), none, none, some (.ireturn), some (.aload_n 0), some (.getfield 12), none, none],
  [some (.getfield 130), none, none, some (.ireturn), some (.aload_n 0), some (.invokevirtual 133), none, none, some (.aload_n 0), some (.getfield 33), none, none, some (.getfield 136), none, none, some (.ireturn)],
  [some (.aload_n 0), some (.invokevirtual 133), none, none, some (.aload_n 0), some (.getfield 33), none, none, some (.getfield 139), none, none, some (.ireturn), some (.aload_n 0), some (.invokevirtual 142), none, none],
  [some (.aload_n 0), some (.getfield 54), none, none, some (.getfield 145), none, none, some (.ireturn), some (.aload_n 0), some (.invokevirtual 142), none, none, some (.aload_n 0), some (.getfield 58), none, none],
  [some (.getfield 145), none, none, some (.ireturn), some (.ldc 64), none, some (.ireturn), none, none, none, none, none, none, none, none, none]]
def nw_cd34 : List (List (Option Instr)) := [
  [some (.aload_n 0), some (.invokevirtual 133), none, none, some (.aload_n 0), some (.getfield 33), none, none, some (.getfield 136), none, none, some (.ifCond .ne 8), none, none, some (.ldc 146), none],
  [some (.goto 10), none, none, some (.aload_n 0), some (.getfield 33), none, none, some (.getfield 147), none, none, some (.ireturn), none, none, none, none, none]]
def nw_cd35 : List (List (Option Instr)) := [
  [some (.aload_n 0), some (.getfield 12), none, none, some (.iload_n 1), some (.invokevirtual 150), none, none, some (.ifCond .ne 6), none, none, some (.ldc 84), none, some (.ireturn), some (.aload_n 0), some (.invokevirtual 133)],
  [none, none, some (.aload_n 0), some (.getfield 33), none, none, some (.getfield 136), none, none, some (.ifCond .ne 8), none, none, some (.ldc 146), none, some (.goto 18), none],
  [none, some (.aload_n 0), some (.getfield 12), none, none, some (.aload_n 0), some (.getfield 33), none, none, some (.getfield 151), none, none, some (.iload_n 1), some (.invokevirtual 154), none, none],
  [some (.ireturn), none, none, none, none, none, none, none, none, none, none, none, none, none, none, none]]
def nw_cd36 : List (List (Option Instr)) := [
  [some (.aload_n 0), some (.getfield 12), none, none, some (.iload_n 1), some (.invokevirtual 150), none, none, some (.ifCond .ne 6), none, none, some (.ldc 84), none, some (.ireturn), some (.aload_n 0), some (.invokevirtual 133)],
  [none, none, some (.aload_n 0), some (.getfield 33), none, none, some (.getfield 136), none, none, some (.ifCond .ne 6), none, none, some (.ldc 146), none, some (.ireturn), some (.aload_n 0)],
  [some (.getfield 19), none, none, some (.iconst 1), some (.invokevirtual 157), none, none, some (.istore_n 2), some (.aload_n 0), some (.getfield 19), none, none, some (.iconst 2), some (.invokevirtual 157), none, none],
  [some (.istore_n 3), some (.aload_n 0), some (.getfield 12), none, none, some (.aload_n 0), some (.getfield 33), none, none, some (.getfield 151), none, none, some (.iload_n 1), some (.invokevirtual 154), none, none],
  [some (.istore 4), none, some (.aload_n 0), some (.getfield 33), none, none, some (.getfield 151), none, none, some (.iconst 1), some (.iadd), some (.istore 5), none, some (.iload 5), none, some (.aload_n 0)],
  [some (.getfield 12), none, none, some (.getfield 130), none, none, some (.if_icmp .ge 55), none, none, some (.aload_n 0), some (.getfield 23), none, none, some (.iload 5), none, some (.iaload)],
  [some (.iload_n 2), some (.iand), some (.ifCond .ne 37), none, none, some (.aload_n 0), some (.iload 5), none, some (.iload_n 3), some (.invokevirtual 161), none, none, some (.aload_n 0), some (.getfield 33), none, none],
  [some (.getfield 147), none, none, some (.if_icmp .ne 20), none, none, some (.aload_n 0), some (.getfield 12), none, none, some (.iload 5), none, some (.iload_n 1), some (.invokevirtual 154), none, none],
  [some (.iload 4), none, some (.if_icmp .eq 5), none, none, some (.iconst (-1)), some (.ireturn), some (.iinc 5 1), none, none, some (.goto (-61)), none, none, some (.iload 4), none, some (.ireturn)]]
def nw_cd37 : List (List (Option Instr)) := [
  [some (.aload_n 0), some (.getfield 12), none, none, some (.iload_n 1), some (.iload_n 2), some (.invokevirtual 80), none, none, some (.ifCond .ne 6), none, none, some (.ldc 84), none, some (.ireturn), some (.aload_n 0)],
  [some (.iload_n 1), some (.iload_n 2), some (.invokevirtual 164), none, none, some (.aload_n 0), some (.getfield 41), none, none, some (.getfield 136), none, none, some (.ifCond .ne 8), none, none, some (.ldc 146)],
  [none, some (.goto 10), none, none, some (.aload_n 0), some (.getfield 41), none, none, some (.getfield 147), none, none, some (.ireturn), none, none, none, none]]
def nw_cd38 : List (List (Option Instr)) := [
  [some (.aload_n 0), some (.getfield 12), none, none, some (.iload_n 1), some (.iload_n 2), some (.invokevirtual 80), none, none, some (.ifCond .eq 14), none, none, some (.aload_n 0), some (.getfield 12), none, none],
  [some (.iload_n 3), some (.invokevirtual 150), none, none, some (.ifCond .ne 6), none, none, some (.ldc 84), none, some (.ireturn), some (.aload_n 0), some (.iload_n 1), some (.iload_n 2), some (.invokevirtual 164), none, none],
  [some (.aload_n 0), some (.getfield 41), none, none, some (.getfield 136), none, none, some (.ifCond .ne 8), none, none, some (.ldc 146), none, some (.goto 18), none, none, some (.aload_n 0)],
  [some (.getfield 12), none, none, some (.aload_n 0), some (.getfield 41), none, none, some (.getfield 151), none, none, some (.iload_n 3), some (.invokevirtual 154), none, none, some (.ireturn), none]]
def nw_cd39 : List (List (Option Instr)) := [
  [some (.aload_n 0), some (.getfield 12), none, none, some (.iload_n 1), some (.iload_n 2), some (.invokevirtual 80), none, none, some (.ifCond .ne 6), none, none, some (.ldc 84), none, some (.ireturn), some (.aload_n 0)],
  [some (.iload_n 1), some (.iload_n 2), some (.invokevirtual 164), none, none, some (.aload_n 0), some (.getfield 44), none, none, some (.getfield 136), none, none, some (.ifCond .ne 8), none, none, some (.ldc 146)],
  [none, some (.goto 10), none, none, some (.aload_n 0), some (.getfield 44), none, none, some (.getfield 147), none, none, some (.ireturn), none, none, none, none]]
def nw_cd40 : List (List (Option Instr)) := [
  [some (.aload_n 0), some (.getfield 12), none, none, some (.iload_n 1), some (.iload_n 2), some (.invokevirtual 80), none, none, some (.ifCond .ne 6), none, none, some (.ldc 84), none, some (.ireturn), some (.aload_n 0)],
  [some (.iload_n 1), some (.iload_n 2), some (.invokevirtual 164), none, none, some (.aload_n 0), some (.getfield 41), none, none, some (.getfield 136), none, none, some (.ifCond .ne 8), none, none, some (.ldc 146)],
  [none, some (.goto 14), none, none, some (.aload_n 0), some (.getfield 41), none, none, some (.aload_n 0), some (.getfield 44), none, none, some (.invokevirtual 168), none, none, some (.ireturn)]]
def nw_cd41 : List (List (Option Instr)) := [
  [some (.aload_n 0), some (.getfield 12), none, none, some (.iload_n 1), some (.iload_n 2), some (.invokevirtual 80), none, none, some (.ifCond .ne 6), none, none, some (.ldc 84), none, some (.ireturn), some (.aload_n 0)],
  [some (.iload_n 1), some (.iload_n 2), some (.invokevirtual 164), none, none, some (.aload_n 0), some (.getfield 44), none, none, some (.getfield 136), none, none, some (.ifCond .ne 8), none, none, some (.ldc 146)],
  [none, some (.goto 14), none, none, some (.aload_n 0), some (.getfield 44), none, none, some (.aload_n 0), some (.getfield 41), none, none, some (.invokevirtual 168), none, none, some (.ireturn)]]
def nw_cd42 : List (List (Option Instr)) := [
  [some (.aload_n 0), some (.getfield 12), none, none, some (.iload_n 1), some (.iload_n 2), some (.invokevirtual 80), none, none, some (.ifCond .ne 6), none, none, some (.ldc 84), none, some (.ireturn), some (.aload_n 0)],
  [some (.getfield 19), none, none, some (.iconst 1), some (.invokevirtual 157), none, none, some (.istore_n 3), some (.iconst (-1)), some (.istore 4), none, some (.iconst 0), some (.istore 5), none, some (.iload 5), none],
  [some (.aload_n 0), some (.getfield 12), none, none, some (.getfield 130), none, none, some (.if_icmp .ge 58), none, none, some (.aload_n 0), some (.getfield 12), none, none, some (.iload 5), none],
  [some (.iload_n 1), some (.invokevirtual 154), none, none, some (.iload_n 2), some (.if_icmp .ne 38), none, none, some (.aload_n 0), some (.getfield 23), none, none, some (.iload 5), none, some (.iaload), some (.iload_n 3)],
  [some (.iand), some (.istore 6), none, some (.iload 4), none, some (.iconst (-1)), some (.if_icmp .eq 17), none, none, some (.aload_n 0), some (.getfield 19), none, none, some (.iload 6), none, some (.iload 4)],
  [none, some (.invokevirtual 172), none, none, some (.ifCond .eq 7), none, none, some (.iload 6), none, some (.istore 4), none, some (.iinc 5 1), none, none, some (.goto (-64)), none],
  [none, some (.iload 4), none, some (.ireturn), none, none, none, none, none, none, none, none, none, none, none, none]]
def nw_cd43 : List (List (Option Instr)) := [
  [some (.aload_n 0), some (.invokevirtual 142), none, none, some (.aload_n 0), some (.getfield 19), none, none, some (.iconst 1), some (.invokevirtual 157), none, none, some (.istore_n 1), some (.aload_n 0), some (.getfield 47), none],
  [none, some (.iload_n 1), some (.baload), some (.ifCond .eq 5), none, none, some (.iconst 0), some (.ireturn), some (.iconst 0), some (.istore_n 2), some (.iload_n 2), some (.aload_n 0), some (.getfield 19), none, none, some (.getfield 101)],
  [none, none, some (.if_icmp .ge 28), none, none, some (.iload_n 1), some (.iconst 1), some (.iload_n 2), some (.ishl), some (.iconst (-1)), some (.ixor), some (.iand), some (.istore_n 3), some (.aload_n 0), some (.getfield 47), none],
  [none, some (.iload_n 3), some (.baload), some (.ifCond .ne 5), none, none, some (.iload_n 3), some (.istore_n 1), some (.iinc 2 1), none, none, some (.goto (-33)), none, none, some (.iload_n 1), some (.ireturn)]]
def nw_cd44 : List (List (Option Instr)) := [
  [some (.aload_n 0), some (.invokevirtual 142), none, none, some (.aload_n 0), some (.getfield 54), none, none, some (.iload_n 1), some (.invokevirtual 175), none, none, some (.ireturn), none, none, none]]
def nw_cd45 : List (List (Option Instr)) := [
  [some (.aload_n 0), some (.invokevirtual 142), none, none, some (.aload_n 0), some (.getfield 58), none, none, some (.iload_n 1), some (.invokevirtual 175), none, none, some (.ireturn), none, none, none]]
def nw_cd46 : List (List (Option Instr)) := [
  [some (.iload_n 1), some (.ifCond .lt 14), none, none, some (.iload_n 1), some (.aload_n 0), some (.getfield 19), none, none, some (.invokevirtual 178), none, none, some (.if_icmp .lt 8), none, none, some (.ldc 84)],
  [none, some (.goto 12), none, none, some (.aload_n 0), some (.getfield 19), none, none, some (.getfield 182), none, none, some (.iload_n 1), some (.iaload), some (.ireturn), none, none]]
def nw_cd47 : List (List (Option Instr)) := [
  [some (.aload_n 0), some (.getfield 19), none, none, some (.iload_n 1), some (.invokevirtual 105), none, none, some (.ifCond .ne 6), none, none, some (.ldc 84), none, some (.ireturn), some (.aload_n 0), some (.invokevirtual 133)],
  [none, none, some (.aload_n 0), some (.getfield 33), none, none, some (.getfield 136), none, none, some (.ifCond .ne 6), none, none, some (.ldc 146), none, some (.ireturn), some (.iconst 1)],
  [some (.iload_n 1), some (.ishl), some (.iconst (-1)), some (.ixor), some (.istore_n 2), some (.aload_n 0), some (.aload_n 0), some (.getfield 44), none, none, some (.aload_n 0), some (.getfield 19), none, none, some (.iconst 1), some (.invokevirtual 157)],
  [none, none, some (.iload_n 2), some (.iand), some (.aload_n 0), some (.getfield 19), none, none, some (.iconst 2), some (.invokevirtual 157), none, none, some (.iload_n 2), some (.iand), some (.invokevirtual 185), none],
  [none, some (.aload_n 0), some (.getfield 44), none, none, some (.getfield 147), none, none, some (.aload_n 0), some (.getfield 33), none, none, some (.getfield 147), none, none, some (.isub)],
  [some (.ireturn), none, none, none, none, none, none, none, none, none, none, none, none, none, none, none]]
def nw_cd48 : List (List (Option Instr)) := [
  [some (.aload_n 0), some (.iload_n 1), some (.iload_n 2), some (.iload_n 3), some (.iload 4), none, some (.iload 5), none, some (.invokevirtual 189), none, none, some (.istore 6), none, some (.iload 6), none, some (.iconst (-1))],
  [some (.if_icmp .ne 8), none, none, some (.ldc 84), none, some (.goto 28), none, none, some (.aload_n 0), some (.getfield 23), none, none, some (.iload 6), none, some (.iaload), some (.aload_n 0)],
  [some (.getfield 19), none, none, some (.iconst 1), some (.invokevirtual 157), none, none, some (.aload_n 0), some (.getfield 19), none, none, some (.iconst 2), some (.invokevirtual 157), none, none, some (.ior)],
  [some (.iand), some (.ireturn), none, none, none, none, none, none, none, none, none, none, none, none, none, none]]
def nw_cd49 : List (List (Option Instr)) := [
  [some (.aload_n 0), some (.iload_n 1), some (.iload_n 2), some (.iload_n 3), some (.iload 4), none, some (.iload 5), none, some (.invokevirtual 189), none, none, some (.istore 6), none, some (.iload 6), none, some (.iconst (-1))],
  [some (.if_icmp .ne 8), none, none, some (.ldc 84), none, some (.goto 17), none, none, some (.aload_n 0), some (.iload 6), none, some (.aload_n 0), some (.getfield 19), none, none, some (.iconst 2)],
  [some (.invokevirtual 157), none, none, some (.invokevirtual 161), none, none, some (.ireturn), none, none, none, none, none, none, none, none, none]]
def nw_cd50 : List (List (Option Instr)) := [
  [some (.aload_n 0), some (.iconst 1), some (.putfield 37), none, none, some (.aload_n 0), some (.iconst 1), some (.putfield 61), none, none, some (.return_), none, none, none, none, none]]
def nw_cd51 : List (List (Option Instr)) := [
  [some (.iload_n 0), some (.iconst 1), some (.if_icmp .lt 14), none, none, some (.iload_n 0), some (.sipush 1000), none, none, some (.if_icmp .gt 7), none, none, some (.iconst 1), some (.goto 4), none, none],
  [some (.iconst 0), some (.ireturn), none, none, none, none, none, none, none, none, none, none, none, none, none, none]]
def nw_cd52 : List (List (Option Instr)) := [
  [some (.iload_n 1), some (.ifCond .ne 20), none, none, some (.aload_n 0), some (.getfield 12), none, none, some (.iload_n 2), some (.invokevirtual 150), none, none, some (.ifCond .ne 7), none, none, some (.iconst 1)],
  [some (.goto 4), none, none, some (.iconst 0), some (.ireturn), some (.iload_n 1), some (.iconst 1), some (.if_icmp .lt 34), none, none, some (.iload_n 1), some (.iconst 5), some (.if_icmp .gt 29), none, none, some (.aload_n 0)],
  [some (.getfield 12), none, none, some (.iload_n 2), some (.invokevirtual 150), none, none, some (.ifCond .eq 14), none, none, some (.aload_n 0), some (.getfield 12), none, none, some (.iload_n 3), some (.invokevirtual 150)],
  [none, none, some (.ifCond .ne 7), none, none, some (.iconst 1), some (.goto 4), none, none, some (.iconst 0), some (.ireturn), none, none, none, none, none]]
def nw_cd53 : List (List (Option Instr)) := [
  [some (.iload_n 0), some (.tableswitch 187 0 8 #[51, 67, 67, 78, 100, 120, 141, 141, 166]), none, none, none, none, none, none, none, none, none, none, none, none, none, none],
  [none, none, none, none, none, none, none, none, none, none, none, none, none, none, none, none],
  [none, none, none, none, none, none, none, none, none, none, none, none, none, none, none, none],
  [none, none, none, none, some (.iload_n 3), some (.ifCond .lt 13), none, none, some (.iload_n 3), some (.bipush 63), none, some (.if_icmp .gt 7), none, none, some (.iconst 1), some (.goto 4)],
  [none, none, some (.iconst 0), some (.ireturn), some (.iload_n 1), some (.iload_n 2), some (.if_icmp .eq 7), none, none, some (.iconst 1), some (.goto 4), none, none, some (.iconst 0), some (.ireturn), some (.iload_n 1)],
  [some (.iload_n 2), some (.if_icmp .eq 18), none, none, some (.iload_n 3), some (.bipush (-5)), none, some (.if_icmp .lt 12), none, none, some (.iload_n 3), some (.iconst 5), some (.if_icmp .gt 7), none, none, some (.iconst 1)],
  [some (.goto 4), none, none, some (.iconst 0), some (.ireturn), some (.iload_n 1), some (.iload_n 2), some (.if_icmp .eq 16), none, none, some (.iload_n 3), some (.ifCond .lt 12), none, none, some (.iload_n 3), some (.iconst 5)],
  [some (.if_icmp .gt 7), none, none, some (.iconst 1), some (.goto 4), none, none, some (.iconst 0), some (.ireturn), some (.iload_n 1), some (.iload_n 2), some (.if_icmp .eq 17), none, none, some (.iload_n 3), some (.ifCond .lt 13)],
  [none, none, some (.iload_n 3), some (.bipush 63), none, some (.if_icmp .gt 7), none, none, some (.iconst 1), some (.goto 4), none, none, some (.iconst 0), some (.ireturn), some (.iload_n 1), some (.ifCond .lt 22)],
  [none, none, some (.iload_n 1), some (.bipush 6), none, some (.if_icmp .ge 16), none, none, some (.iload_n 3), some (.ifCond .lt 12), none, none, some (.iload_n 3), some (.iconst 5), some (.if_icmp .gt 7), none],
  [none, some (.iconst 1), some (.goto 4), none, none, some (.iconst 0), some (.ireturn), some (.iload_n 1), some (.ifCond .lt 18), none, none, some (.iload_n 1), some (.iload_n 2), some (.if_icmp .gt 13), none, none],
  [some (.iload_n 2), some (.bipush 25), none, some (.if_icmp .gt 7), none, none, some (.iconst 1), some (.goto 4), none, none, some (.iconst 0), some (.ireturn), some (.iconst 0), some (.ireturn), none, none]]
def nw_cd54 : List (List (Option Instr)) := [
  [some (.iconst 1), some (.iload_n 1), some (.ishl), some (.iconst 1), some (.isub), some (.istore_n 2), some (.iconst 0), some (.istore_n 3), some (.iload_n 3), some (.aload_n 0), some (.getfield 12), none, none, some (.getfield 130), none, none],
  [some (.if_icmp .ge 92), none, none, some (.aload_n 0), some (.getfield 12), none, none, some (.iload_n 3), some (.aload_n 0), some (.getfield 27), none, none, some (.invokevirtual 192), none, none, some (.aload_n 0)],
  [some (.getfield 23), none, none, some (.iload_n 3), some (.iaload), some (.iload_n 2), some (.iand), some (.istore 4), none, some (.iload_n 1), some (.istore 5), none, some (.iload 5), none, some (.aload_n 0), some (.getfield 19)],
  [none, none, some (.getfield 101), none, none, some (.if_icmp .ge 41), none, none, some (.aload_n 0), some (.getfield 19), none, none, some (.iload 5), none, some (.aload_n 0), some (.getfield 27)],
  [none, none, some (.aload_n 0), some (.getfield 12), none, none, some (.getfield 65), none, none, some (.invokevirtual 196), none, none, some (.ifCond .ne 12), none, none, some (.iload 4)],
  [none, some (.iconst 1), some (.iload 5), none, some (.ishl), some (.ior), some (.istore 4), none, some (.iinc 5 1), none, none, some (.goto (-47)), none, none, some (.aload_n 0), some (.getfield 23)],
  [none, none, some (.iload_n 3), some (.iload 4), none, some (.iastore), some (.iinc 3 1), none, none, some (.goto (-97)), none, none, some (.return_), none, none, none]]
def nw_cd55 : List (List (Option Instr)) := [
  [some (.aload_n 0), some (.getfield 27), none, none, some (.iconst 0), some (.iload_n 1), some (.iastore), some (.aload_n 0), some (.getfield 27), none, none, some (.iconst 1), some (.iload_n 2), some (.iastore), some (.aload_n 0), some (.getfield 27)],
  [none, none, some (.iconst 2), some (.iload_n 3), some (.iastore), some (.aload_n 0), some (.getfield 27), none, none, some (.iconst 3), some (.iload 4), none, some (.iastore), some (.aload_n 0), some (.getfield 27), none],
  [none, some (.iconst 4), some (.iload 5), none, some (.iastore), some (.aload_n 0), some (.getfield 12), none, none, some (.aload_n 0), some (.getfield 27), none, none, some (.invokevirtual 200), none, none],
  [some (.ireturn), none, none, none, none, none, none, none, none, none, none, none, none, none, none, none]]
def nw_cd56 : List (List (Option Instr)) := [
  [some (.aload_n 0), some (.getfield 12), none, none, some (.getfield 204), none, none, some (.iload_n 1), some (.iaload), some (.aload_n 0), some (.getfield 19), none, none, some (.getfield 182), none, none],
  [some (.aload_n 0), some (.getfield 23), none, none, some (.iload_n 1), some (.iaload), some (.iload_n 2), some (.iand), some (.iaload), some (.isub), some (.ireturn), none, none, none, none, none]]
def nw_cd57 : List (List (Option Instr)) := [
  [some (.aload_n 1), some (.invokevirtual 207), none, none, some (.iconst 0), some (.istore 4), none, some (.iload 4), none, some (.aload_n 0), some (.getfield 12), none, none, some (.getfield 130), none, none],
  [some (.if_icmp .ge 34), none, none, some (.aload_n 0), some (.getfield 23), none, none, some (.iload 4), none, some (.iaload), some (.iload_n 2), some (.iand), some (.ifCond .ne 16), none, none, some (.aload_n 1)],
  [some (.iload 4), none, some (.aload_n 0), some (.iload 4), none, some (.iload_n 3), some (.invokevirtual 161), none, none, some (.invokevirtual 210), none, none, some (.iinc 4 1), none, none, some (.goto (-40))],
  [none, none, some (.return_), none, none, none, none, none, none, none, none, none, none, none, none, none]]
def nw_cd58 : List (List (Option Instr)) := [
  [some (.aload_n 0), some (.getfield 37), none, none, some (.ifCond .eq 32), none, none, some (.aload_n 0), some (.aload_n 0), some (.getfield 33), none, none, some (.aload_n 0), some (.getfield 19), none, none],
  [some (.iconst 1), some (.invokevirtual 157), none, none, some (.aload_n 0), some (.getfield 19), none, none, some (.iconst 2), some (.invokevirtual 157), none, none, some (.invokevirtual 185), none, none, some (.aload_n 0)],
  [some (.iconst 0), some (.putfield 37), none, none, some (.return_), none, none, none, none, none, none, none, none, none, none, none]]
def nw_cd59 : List (List (Option Instr)) := [
  [some (.aload_n 0), some (.getfield 19), none, none, some (.iconst 1), some (.invokevirtual 157), none, none, some (.istore_n 3), some (.aload_n 0), some (.getfield 19), none, none, some (.iconst 2), some (.invokevirtual 157), none],
  [none, some (.istore 4), none, some (.aload_n 0), some (.getfield 41), none, none, some (.invokevirtual 207), none, none, some (.aload_n 0), some (.getfield 44), none, none, some (.invokevirtual 207), none],
  [none, some (.iconst 0), some (.istore 5), none, some (.iload 5), none, some (.aload_n 0), some (.getfield 12), none, none, some (.getfield 130), none, none, some (.if_icmp .ge 63), none, none],
  [some (.aload_n 0), some (.getfield 23), none, none, some (.iload 5), none, some (.iaload), some (.iload_n 3), some (.iand), some (.ifCond .ne 45), none, none, some (.aload_n 0), some (.getfield 12), none, none],
  [some (.iload 5), none, some (.iload_n 1), some (.invokevirtual 154), none, none, some (.iload_n 2), some (.if_icmp .ne 10), none, none, some (.aload_n 0), some (.getfield 41), none, none, some (.goto 7), none],
  [none, some (.aload_n 0), some (.getfield 44), none, none, some (.astore 6), none, some (.aload 6), none, some (.iload 5), none, some (.aload_n 0), some (.iload 5), none, some (.iload 4), none],
  [some (.invokevirtual 161), none, none, some (.invokevirtual 210), none, none, some (.iinc 5 1), none, none, some (.goto (-69)), none, none, some (.return_), none, none, none]]
def nw_cd60 : List (List (Option Instr)) := [
  [some (.aload_n 0), some (.getfield 61), none, none, some (.ifCond .eq 27), none, none, some (.aload_n 0), some (.getfield 19), none, none, some (.iconst 1), some (.invokevirtual 157), none, none, some (.istore_n 1)],
  [some (.aload_n 0), some (.iload_n 1), some (.invokevirtual 213), none, none, some (.aload_n 0), some (.iload_n 1), some (.invokevirtual 216), none, none, some (.aload_n 0), some (.iconst 0), some (.putfield 61), none, none, some (.return_)]]
def nw_cd61 : List (List (Option Instr)) := [
  [some (.aload_n 0), some (.getfield 19), none, none, some (.invokevirtual 178), none, none, some (.istore_n 2), some (.iconst 0), some (.istore_n 3), some (.iload_n 3), some (.iload_n 2), some (.if_icmp .ge 16), none, none, some (.aload_n 0)],
  [some (.getfield 47), none, none, some (.iload_n 3), some (.iconst 0), some (.bastore), some (.iinc 3 1), none, none, some (.goto (-15)), none, none, some (.iconst 0), some (.istore_n 3), some (.iload_n 3), some (.aload_n 0)],
  [some (.getfield 12), none, none, some (.getfield 130), none, none, some (.if_icmp .ge 25), none, none, some (.aload_n 0), some (.getfield 47), none, none, some (.iload_n 1), some (.aload_n 0), some (.getfield 23)],
  [none, none, some (.iload_n 3), some (.iaload), some (.iconst (-1)), some (.ixor), some (.iand), some (.iconst 1), some (.bastore), some (.iinc 3 1), none, none, some (.goto (-30)), none, none, some (.iconst 0)],
  [some (.istore_n 3), some (.iload_n 3), some (.aload_n 0), some (.getfield 19), none, none, some (.getfield 101), none, none, some (.if_icmp .ge 58), none, none, some (.iconst 1), some (.iload_n 3), some (.ishl), some (.istore 4)],
  [none, some (.iconst 0), some (.istore 5), none, some (.iload 5), none, some (.iload_n 2), some (.if_icmp .ge 38), none, none, some (.aload_n 0), some (.getfield 47), none, none, some (.iload 5), none],
  [some (.baload), some (.ifCond .eq 22), none, none, some (.iload 5), none, some (.iload 4), none, some (.iand), some (.ifCond .eq 14), none, none, some (.aload_n 0), some (.getfield 47), none, none],
  [some (.iload 5), none, some (.iload 4), none, some (.ixor), some (.iconst 1), some (.bastore), some (.iinc 5 1), none, none, some (.goto (-38)), none, none, some (.iinc 3 1), none, none],
  [some (.goto (-63)), none, none, some (.return_), none, none, none, none, none, none, none, none, none, none, none, none]]
def nw_cd62 : List (List (Option Instr)) := [
  [some (.aload_n 0), some (.getfield 54), none, none, some (.invokevirtual 219), none, none, some (.aload_n 0), some (.getfield 58), none, none, some (.invokevirtual 219), none, none, some (.aload_n 0), some (.getfield 19)],
  [none, none, some (.invokevirtual 178), none, none, some (.istore_n 2), some (.iconst 0), some (.istore_n 3), some (.iload_n 3), some (.iload_n 2), some (.if_icmp .ge 63), none, none, some (.iload_n 3), some (.iload_n 1), some (.iconst (-1))],
  [some (.ixor), some (.iand), some (.ifCond .ne 49), none, none, some (.aload_n 0), some (.iload_n 3), some (.invokevirtual 220), none, none, some (.ifCond .eq 15), none, none, some (.aload_n 0), some (.getfield 54), none],
  [none, some (.iload_n 3), some (.iload_n 3), some (.invokestatic 223), none, none, some (.invokevirtual 228), none, none, some (.aload_n 0), some (.iload_n 3), some (.iload_n 1), some (.invokevirtual 231), none, none, some (.ifCond .eq 20)],
  [none, none, some (.aload_n 0), some (.getfield 58), none, none, some (.iload_n 3), some (.aload_n 0), some (.getfield 19), none, none, some (.getfield 182), none, none, some (.iload_n 3), some (.iaload)],
  [some (.invokevirtual 228), none, none, some (.iinc 3 1), none, none, some (.goto (-62)), none, none, some (.return_), none, none, none, none, none, none]]
def nw_cd63 : List (List (Option Instr)) := [
  [some (.aload_n 0), some (.getfield 47), none, none, some (.iload_n 1), some (.baload), some (.ifCond .eq 5), none, none, some (.iconst 0), some (.ireturn), some (.iconst 0), some (.istore_n 2), some (.iload_n 2), some (.aload_n 0), some (.getfield 19)],
  [none, none, some (.getfield 101), none, none, some (.if_icmp .ge 32), none, none, some (.iconst 1), some (.iload_n 2), some (.ishl), some (.istore_n 3), some (.iload_n 1), some (.iload_n 3), some (.iand), some (.ifCond .eq 16)],
  [none, none, some (.aload_n 0), some (.getfield 47), none, none, some (.iload_n 1), some (.iload_n 3), some (.ixor), some (.baload), some (.ifCond .ne 5), none, none, some (.iconst 0), some (.ireturn), some (.iinc 2 1)],
  [none, none, some (.goto (-37)), none, none, some (.iconst 1), some (.ireturn), none, none, none, none, none, none, none, none, none]]
def nw_cd64 : List (List (Option Instr)) := [
  [some (.iload_n 2), some (.iload_n 1), some (.iconst (-1)), some (.ixor), some (.iand), some (.istore_n 3), some (.aload_n 0), some (.getfield 47), none, none, some (.iload_n 3), some (.baload), some (.ifCond .ne 5), none, none, some (.iconst 0)],
  [some (.ireturn), some (.iconst 0), some (.istore 4), none, some (.iload 4), none, some (.aload_n 0), some (.getfield 19), none, none, some (.getfield 101), none, none, some (.if_icmp .ge 36), none, none],
  [some (.iconst 1), some (.iload 4), none, some (.ishl), some (.istore 5), none, some (.iload_n 1), some (.iload 5), none, some (.iand), some (.ifCond .eq 17), none, none, some (.aload_n 0), some (.getfield 47), none],
  [none, some (.iload_n 3), some (.iload 5), none, some (.ior), some (.baload), some (.ifCond .eq 5), none, none, some (.iconst 0), some (.ireturn), some (.iinc 4 1), none, none, some (.goto (-42)), none],
  [none, some (.iconst 1), some (.ireturn), none, none, none, none, none, none, none, none, none, none, none, none, none]]
def nw_cd66 : List (List (Option Instr)) := [
  [some (.iload_n 0), some (.iload_n 1), some (.if_icmp .lt 12), none, none, some (.iload_n 0), some (.iload_n 2), some (.if_icmp .gt 7), none, none, some (.iconst 1), some (.goto 4), none, none, some (.iconst 0), some (.ireturn)]]
def nw_cd67 : List (List (Option Instr)) := [
  [some (.iload_n 1), some (.iconst 0), some (.aload_n 0), some (.getfield 48), none, none, some (.iconst 1), some (.isub), some (.invokestatic 52), none, none, some (.ireturn), none, none, none, none]]
def nw_cd68 : List (List (Option Instr)) := [
  [some (.aload_n 0), some (.iload_n 1), some (.invokevirtual 56), none, none, some (.ifCond .eq 23), none, none, some (.iload_n 2), some (.iconst 0), some (.aload_n 0), some (.getfield 7), none, none, some (.iload_n 1), some (.iaload)],
  [some (.iconst 1), some (.isub), some (.invokestatic 52), none, none, some (.ifCond .eq 7), none, none, some (.iconst 1), some (.goto 4), none, none, some (.iconst 0), some (.ireturn), none, none]]
def nw_cd69 : List (List (Option Instr)) := [
  [some (.iload_n 1), some (.iconst 0), some (.aload_n 0), some (.getfield 60), none, none, some (.iconst 1), some (.isub), some (.invokestatic 52), none, none, some (.ireturn), none, none, none, none]]
def nw_cd70 : List (List (Option Instr)) := [
  [some (.iload_n 1), some (.iconst 1), some (.bipush 6), none, some (.invokestatic 52), none, none, some (.ifCond .ne 6), none, none, some (.ldc 63), none, some (.ireturn), some (.aload_n 0), some (.getfield 48), none],
  [none, some (.iconst 5), some (.if_icmp .ne 6), none, none, some (.ldc 64), none, some (.ireturn), some (.aload_n 0), some (.getfield 7), none, none, some (.aload_n 0), some (.getfield 48), none, none],
  [some (.iload_n 1), some (.iastore), some (.aload_n 0), some (.dup), some (.getfield 48), none, none, some (.iconst 1), some (.iadd), some (.putfield 48), none, none, some (.aload_n 0), some (.iconst 0), some (.putfield 44), none],
  [none, some (.aload_n 0), some (.getfield 48), none, none, some (.iconst 1), some (.isub), some (.ireturn), none, none, none, none, none, none, none, none]]
def nw_cd71 : List (List (Option Instr)) := [
  [some (.aload_n 0), some (.iload_n 1), some (.iload_n 2), some (.invokevirtual 65), none, none, some (.ifCond .ne 6), none, none, some (.ldc 69), none, some (.ireturn), some (.iload_n 3), some (.sipush (-1000)), none, none],
  [some (.sipush 1000), none, none, some (.invokestatic 52), none, none, some (.ifCond .ne 6), none, none, some (.ldc 63), none, some (.ireturn), some (.aload_n 0), some (.getfield 13), none, none],
  [some (.bipush 6), none, some (.iload_n 1), some (.imul), some (.iload_n 2), some (.iadd), some (.iaload), some (.istore 4), none, some (.aload_n 0), some (.getfield 13), none, none, some (.bipush 6), none, some (.iload_n 1)],
  [some (.imul), some (.iload_n 2), some (.iadd), some (.iload_n 3), some (.iastore), some (.iload 4), none, some (.ireturn), none, none, none, none, none, none, none, none]]
def nw_cd72 : List (List (Option Instr)) := [
  [some (.iload_n 0), some (.tableswitch 217 0 8 #[51, 59, 70, 81, 102, 122, 143, 167, 191]), none, none, none, none, none, none, none, none, none, none, none, none, none, none],
  [none, none, none, none, none, none, none, none, none, none, none, none, none, none, none, none],
  [none, none, none, none, none, none, none, none, none, none, none, none, none, none, none, none],
  [none, none, none, none, some (.iload_n 3), some (.iconst 0), some (.bipush 63), none, some (.invokestatic 52), none, none, some (.ireturn), some (.iload_n 1), some (.iload_n 2), some (.if_icmp .eq 7), none],
  [none, some (.iconst 1), some (.goto 4), none, none, some (.iconst 0), some (.ireturn), some (.iload_n 1), some (.iload_n 2), some (.if_icmp .eq 7), none, none, some (.iconst 1), some (.goto 4), none, none],
  [some (.iconst 0), some (.ireturn), some (.iload_n 1), some (.iload_n 2), some (.if_icmp .eq 17), none, none, some (.iload_n 3), some (.bipush (-5)), none, some (.iconst 5), some (.invokestatic 52), none, none, some (.ifCond .eq 7), none],
  [none, some (.iconst 1), some (.goto 4), none, none, some (.iconst 0), some (.ireturn), some (.iload_n 1), some (.iload_n 2), some (.if_icmp .eq 16), none, none, some (.iload_n 3), some (.iconst 0), some (.iconst 5), some (.invokestatic 52)],
  [none, none, some (.ifCond .eq 7), none, none, some (.iconst 1), some (.goto 4), none, none, some (.iconst 0), some (.ireturn), some (.iload_n 1), some (.iload_n 2), some (.if_icmp .eq 17), none, none],
  [some (.iload_n 3), some (.iconst 0), some (.bipush 63), none, some (.invokestatic 52), none, none, some (.ifCond .eq 7), none, none, some (.iconst 1), some (.goto 4), none, none, some (.iconst 0), some (.ireturn)],
  [some (.iload_n 1), some (.iconst 0), some (.iconst 5), some (.invokestatic 52), none, none, some (.ifCond .eq 16), none, none, some (.iload_n 3), some (.iconst 0), some (.iconst 5), some (.invokestatic 52), none, none, some (.ifCond .eq 7)],
  [none, none, some (.iconst 1), some (.goto 4), none, none, some (.iconst 0), some (.ireturn), some (.iload_n 1), some (.iconst 0), some (.iconst 5), some (.invokestatic 52), none, none, some (.ifCond .eq 16), none],
  [none, some (.iload_n 3), some (.iconst 0), some (.iconst 5), some (.invokestatic 52), none, none, some (.ifCond .eq 7), none, none, some (.iconst 1), some (.goto 4), none, none, some (.iconst 0), some (.ireturn)],
  [some (.iload_n 1), some (.iconst 0), some (.bipush 25), none, some (.invokestatic 52), none, none, some (.ifCond .eq 17), none, none, some (.iload_n 2), some (.iload_n 1), some (.bipush 25), none, some (.invokestatic 52), none],
  [none, some (.ifCond .eq 7), none, none, some (.iconst 1), some (.goto 4), none, none, some (.iconst 0), some (.ireturn), some (.iconst 0), some (.ireturn), none, none, none, none]]
def nw_cd73 : List (List (Option Instr)) := [
  [some (.iload_n 1), some (.iconst 0), some (.iconst 5), some (.invokestatic 52), none, none, some (.istore 6), none, some (.iload_n 1), some (.iconst 1), some (.iconst 5), some (.invokestatic 52), none, none, some (.istore 7), none],
  [some (.iload 6), none, some (.ifCond .eq 11), none, none, some (.aload_n 0), some (.iload_n 2), some (.invokevirtual 56), none, none, some (.ifCond .eq 16), none, none, some (.iload 7), none, some (.ifCond .eq 14)],
  [none, none, some (.aload_n 0), some (.iload_n 3), some (.invokevirtual 56), none, none, some (.ifCond .ne 6), none, none, some (.ldc 69), none, some (.ireturn), some (.iload_n 1), some (.iload_n 2), some (.iload_n 3)],
  [some (.iload 4), none, some (.invokestatic 70), none, none, some (.ifCond .eq 15), none, none, some (.iload 5), none, some (.iconst 1), some (.sipush 1000), none, none, some (.invokestatic 52), none],
  [none, some (.ifCond .ne 6), none, none, some (.ldc 63), none, some (.ireturn), some (.aload_n 0), some (.getfield 60), none, none, some (.bipush 12), none, some (.if_icmp .ne 6), none, none],
  [some (.ldc 64), none, some (.ireturn), some (.aload_n 0), some (.getfield 16), none, none, some (.aload_n 0), some (.getfield 60), none, none, some (.iload_n 1), some (.iastore), some (.aload_n 0), some (.getfield 19), none],
  [none, some (.aload_n 0), some (.getfield 60), none, none, some (.iload_n 2), some (.iastore), some (.aload_n 0), some (.getfield 22), none, none, some (.aload_n 0), some (.getfield 60), none, none, some (.iload_n 3)],
  [some (.iastore), some (.aload_n 0), some (.getfield 25), none, none, some (.aload_n 0), some (.getfield 60), none, none, some (.iload 4), none, some (.iastore), some (.aload_n 0), some (.getfield 28), none, none],
  [some (.aload_n 0), some (.getfield 60), none, none, some (.iload 5), none, some (.iastore), some (.aload_n 0), some (.getfield 31), none, none, some (.aload_n 0), some (.getfield 60), none, none, some (.iconst 1)],
  [some (.iastore), some (.aload_n 0), some (.dup), some (.getfield 60), none, none, some (.iconst 1), some (.iadd), some (.putfield 60), none, none, some (.aload_n 0), some (.iconst 0), some (.putfield 44), none, none],
  [some (.aload_n 0), some (.getfield 60), none, none, some (.iconst 1), some (.isub), some (.ireturn), none, none, none, none, none, none, none, none, none]]
def nw_cd74 : List (List (Option Instr)) := [
  [some (.aload_n 0), some (.iload_n 1), some (.invokevirtual 74), none, none, some (.ifCond .ne 6), none, none, some (.ldc 69), none, some (.ireturn), some (.iload_n 2), some (.iconst 0), some (.iconst 2), some (.invokestatic 52), none],
  [none, some (.ifCond .ne 6), none, none, some (.ldc 63), none, some (.ireturn), some (.aload_n 0), some (.getfield 31), none, none, some (.iload_n 1), some (.iaload), some (.istore_n 3), some (.aload_n 0), some (.getfield 31)],
  [none, none, some (.iload_n 1), some (.iload_n 2), some (.iastore), some (.iload_n 3), some (.ireturn), none, none, none, none, none, none, none, none, none]]
def nw_cd75 : List (List (Option Instr)) := [
  [some (.aload_n 0), some (.iload_n 1), some (.invokevirtual 74), none, none, some (.ifCond .ne 6), none, none, some (.ldc 69), none, some (.ireturn), some (.iload_n 2), some (.iconst 1), some (.sipush 1000), none, none],
  [some (.invokestatic 52), none, none, some (.ifCond .ne 6), none, none, some (.ldc 63), none, some (.ireturn), some (.aload_n 0), some (.getfield 28), none, none, some (.iload_n 1), some (.iaload), some (.istore_n 3)],
  [some (.aload_n 0), some (.getfield 28), none, none, some (.iload_n 1), some (.iload_n 2), some (.iastore), some (.iload_n 3), some (.ireturn), none, none, none, none, none, none, none]]
def nw_cd76 : List (List (Option Instr)) := [
  [some (.aload_n 0), some (.iload_n 1), some (.invokevirtual 74), none, none, some (.ifCond .ne 6), none, none, some (.ldc 69), none, some (.ireturn), some (.iload_n 2), some (.tableswitch 82 0 5 #[40, 47, 54, 61, 68, 75]), none, none, none],
  [none, none, none, none, none, none, none, none, none, none, none, none, none, none, none, none],
  [none, none, none, none, none, none, none, none, none, none, none, none, none, none, none, none],
  [none, none, none, none, some (.aload_n 0), some (.getfield 16), none, none, some (.iload_n 1), some (.iaload), some (.ireturn), some (.aload_n 0), some (.getfield 19), none, none, some (.iload_n 1)],
  [some (.iaload), some (.ireturn), some (.aload_n 0), some (.getfield 22), none, none, some (.iload_n 1), some (.iaload), some (.ireturn), some (.aload_n 0), some (.getfield 25), none, none, some (.iload_n 1), some (.iaload), some (.ireturn)],
  [some (.aload_n 0), some (.getfield 28), none, none, some (.iload_n 1), some (.iaload), some (.ireturn), some (.aload_n 0), some (.getfield 31), none, none, some (.iload_n 1), some (.iaload), some (.ireturn), some (.ldc 63), none],
  [some (.ireturn), none, none, none, none, none, none, none, none, none, none, none, none, none, none, none]]
def nw_cd77 : List (List (Option Instr)) := [
  [some (.iconst 1), some (.istore_n 1), some (.iconst 0), some (.istore_n 2), some (.iload_n 2), some (.aload_n 0), some (.getfield 48), none, none, some (.if_icmp .ge 18), none, none, some (.iload_n 1), some (.aload_n 0), some (.getfield 7), none],
  [none, some (.iload_n 2), some (.iaload), some (.imul), some (.istore_n 1), some (.iinc 2 1), none, none, some (.goto (-20)), none, none, some (.iload_n 1), some (.ireturn), none, none, none]]
def nw_cd78 : List (List (Option Instr)) := [
  [some (.iload_n 1), some (.istore_n 2), some (.aload_n 0), some (.getfield 48), none, none, some (.iconst 1), some (.isub), some (.istore_n 3), some (.iload_n 3), some (.ifCond .lt 32), none, none, some (.aload_n 0), some (.getfield 41), none],
  [none, some (.iload_n 3), some (.iload_n 2), some (.aload_n 0), some (.getfield 7), none, none, some (.iload_n 3), some (.iaload), some (.irem), some (.iastore), some (.iload_n 2), some (.aload_n 0), some (.getfield 7), none, none],
  [some (.iload_n 3), some (.iaload), some (.idiv), some (.istore_n 2), some (.iinc 3 (-1)), none, none, some (.goto (-30)), none, none, some (.return_), none, none, none, none, none]]
def nw_cd79 : List (List (Option Instr)) := [
  [some (.aload_n 0), some (.getfield 19), none, none, some (.iload_n 1), some (.iaload), some (.istore_n 2), some (.aload_n 0), some (.getfield 22), none, none, some (.iload_n 1), some (.iaload), some (.istore_n 3), some (.aload_n 0), some (.getfield 25)],
  [none, none, some (.iload_n 1), some (.iaload), some (.istore 4), none, some (.iconst 0), some (.istore 5), none, some (.iconst 0), some (.istore 6), none, some (.iconst 0), some (.istore 7), none, some (.iload 7)],
  [none, some (.aload_n 0), some (.getfield 48), none, none, some (.if_icmp .ge 42), none, none, some (.iload 5), none, some (.aload_n 0), some (.getfield 41), none, none, some (.iload 7), none],
  [some (.iaload), some (.iload_n 2), some (.if_icmp .ne 7), none, none, some (.iconst 1), some (.goto 4), none, none, some (.iconst 0), some (.iadd), some (.istore 5), none, some (.iload 6), none, some (.aload_n 0)],
  [some (.getfield 41), none, none, some (.iload 7), none, some (.iaload), some (.iadd), some (.istore 6), none, some (.iinc 7 1), none, none, some (.goto (-45)), none, none, some (.aload_n 0)],
  [some (.getfield 16), none, none, some (.iload_n 1), some (.iaload), some (.tableswitch 236 0 7 #[47, 68, 89, 110, 134, 176, 210, 223]), none, none, none, none, none, none, none, none, none, none],
  [none, none, none, none, none, none, none, none, none, none, none, none, none, none, none, none],
  [none, none, none, none, none, none, none, none, none, none, none, none, none, none, none, none],
  [none, none, none, none, some (.iload 4), none, some (.aload_n 0), some (.getfield 41), none, none, some (.iload_n 2), some (.iaload), some (.ishr), some (.iconst 1), some (.iand), some (.iconst 1)],
  [some (.if_icmp .ne 7), none, none, some (.iconst 1), some (.goto 4), none, none, some (.iconst 0), some (.ireturn), some (.aload_n 0), some (.getfield 41), none, none, some (.iload_n 2), some (.iaload), some (.aload_n 0)],
  [some (.getfield 41), none, none, some (.iload_n 3), some (.iaload), some (.if_icmp .eq 7), none, none, some (.iconst 1), some (.goto 4), none, none, some (.iconst 0), some (.ireturn), some (.aload_n 0), some (.getfield 41)],
  [none, none, some (.iload_n 2), some (.iaload), some (.aload_n 0), some (.getfield 41), none, none, some (.iload_n 3), some (.iaload), some (.if_icmp .ne 7), none, none, some (.iconst 1), some (.goto 4), none],
  [none, some (.iconst 0), some (.ireturn), some (.aload_n 0), some (.getfield 41), none, none, some (.iload_n 3), some (.iaload), some (.aload_n 0), some (.getfield 41), none, none, some (.iload_n 2), some (.iaload), some (.iload 4)],
  [none, some (.iadd), some (.if_icmp .lt 7), none, none, some (.iconst 1), some (.goto 4), none, none, some (.iconst 0), some (.ireturn), some (.aload_n 0), some (.getfield 41), none, none, some (.iload_n 2)],
  [some (.iaload), some (.aload_n 0), some (.getfield 41), none, none, some (.iload_n 3), some (.iaload), some (.isub), some (.iload 4), none, some (.if_icmp .gt 25), none, none, some (.aload_n 0), some (.getfield 41), none],
  [none, some (.iload_n 3), some (.iaload), some (.aload_n 0), some (.getfield 41), none, none, some (.iload_n 2), some (.iaload), some (.isub), some (.iload 4), none, some (.if_icmp .gt 7), none, none, some (.iconst 1)],
  [some (.goto 4), none, none, some (.iconst 0), some (.ireturn), some (.aload_n 0), some (.getfield 41), none, none, some (.iload_n 2), some (.iaload), some (.iload 4), none, some (.bipush 8), none, some (.idiv)],
  [some (.if_icmp .ne 17), none, none, some (.aload_n 0), some (.getfield 41), none, none, some (.iload_n 3), some (.iaload), some (.iload 4), none, some (.bipush 8), none, some (.irem), some (.if_icmp .ne 7), none],
  [none, some (.iconst 1), some (.goto 4), none, none, some (.iconst 0), some (.ireturn), some (.iload 5), none, some (.iload 4), none, some (.if_icmp .gt 7), none, none, some (.iconst 1), some (.goto 4)],
  [none, none, some (.iconst 0), some (.ireturn), some (.iload 5), none, some (.iload 4), none, some (.if_icmp .lt 7), none, none, some (.iconst 1), some (.goto 4), none, none, some (.iconst 0)],
  [some (.ireturn), some (.iload 6), none, some (.iload_n 2), some (.if_icmp .lt 13), none, none, some (.iload 6), none, some (.iload_n 3), some (.if_icmp .gt 7), none, none, some (.iconst 1), some (.goto 4), none],
  [none, some (.iconst 0), some (.ireturn), none, none, none, none, none, none, none, none, none, none, none, none, none]]
def nw_cd80 : List (List (Option Instr)) := [
  [some (.iconst 0), some (.istore_n 1), some (.iconst 0), some (.istore_n 2), some (.iload_n 2), some (.aload_n 0), some (.getfield 60), none, none, some (.if_icmp .ge 27), none, none, some (.iload_n 1), some (.aload_n 0), some (.iload_n 2), some (.invokevirtual 77)],
  [none, none, some (.ifCond .eq 7), none, none, some (.iconst 0), some (.goto 6), none, none, some (.iconst 1), some (.iload_n 2), some (.ishl), some (.ior), some (.istore_n 1), some (.iinc 2 1), none],
  [none, some (.goto (-29)), none, none, some (.iload_n 1), some (.ireturn), none, none, none, none, none, none, none, none, none, none]]
def nw_cd81 : List (List (Option Instr)) := [
  [some (.aload_n 0), some (.getfield 44), none, none, some (.ifCond .ne 41), none, none, some (.aload_n 0), some (.iconst 1), some (.putfield 44), none, none, some (.aload_n 0), some (.invokevirtual 80), none, none],
  [some (.istore_n 1), some (.iconst 0), some (.istore_n 2), some (.iload_n 2), some (.iload_n 1), some (.if_icmp .ge 24), none, none, some (.aload_n 0), some (.iload_n 2), some (.invokevirtual 84), none, none, some (.aload_n 0), some (.getfield 34), none],
  [none, some (.iload_n 2), some (.aload_n 0), some (.invokevirtual 88), none, none, some (.iastore), some (.iinc 2 1), none, none, some (.goto (-23)), none, none, some (.return_), none, none]]
def nw_cd82 : List (List (Option Instr)) := [
  [some (.iconst 0), some (.istore_n 2), some (.iconst 0), some (.istore_n 3), some (.iload_n 3), some (.aload_n 0), some (.getfield 60), none, none, some (.if_icmp .ge 29), none, none, some (.iload_n 2), some (.aload_n 0), some (.getfield 31), none],
  [none, some (.iload_n 3), some (.iaload), some (.iload_n 1), some (.if_icmp .ne 9), none, none, some (.iconst 1), some (.iload_n 3), some (.ishl), some (.goto 4), none, none, some (.iconst 0), some (.ior), some (.istore_n 2)],
  [some (.iinc 3 1), none, none, some (.goto (-31)), none, none, some (.iload_n 2), some (.ireturn), none, none, none, none, none, none, none, none]]
def nw_cd83 : List (List (Option Instr)) := [
  [some (.iconst 0), some (.istore_n 2), some (.iconst 0), some (.istore_n 3), some (.iload_n 3), some (.aload_n 0), some (.getfield 60), none, none, some (.if_icmp .ge 31), none, none, some (.iload_n 2), some (.iload_n 1), some (.iload_n 3), some (.ishr)],
  [some (.iconst 1), some (.iand), some (.iconst 1), some (.if_icmp .ne 12), none, none, some (.aload_n 0), some (.getfield 28), none, none, some (.iload_n 3), some (.iaload), some (.goto 4), none, none, some (.iconst 0)],
  [some (.iadd), some (.istore_n 2), some (.iinc 3 1), none, none, some (.goto (-33)), none, none, some (.iload_n 2), some (.ireturn), none, none, none, none, none, none]]
def nw_cd84 : List (List (Option Instr)) := [
  [some (.aload_n 0), some (.iload_n 1), some (.invokevirtual 84), none, none, some (.aload_n 0), some (.getfield 41), none, none, some (.iload_n 2), some (.iaload), some (.ireturn), none, none, none, none]]
def nw_cd85 : List (List (Option Instr)) := [
  [some (.iconst 0), some (.istore_n 3), some (.iconst 0), some (.istore 4), none, some (.iload 4), none, some (.aload_n 0), some (.getfield 48), none, none, some (.if_icmp .ge 30), none, none, some (.iload_n 3), some (.aload_n 0)],
  [some (.getfield 13), none, none, some (.bipush 6), none, some (.iload 4), none, some (.imul), some (.aload_n 0), some (.getfield 41), none, none, some (.iload 4), none, some (.iaload), some (.iadd)],
  [some (.iaload), some (.iadd), some (.istore_n 3), some (.iinc 4 1), none, none, some (.goto (-33)), none, none, some (.iload_n 3), some (.aload_n 0), some (.iload_n 1), some (.iload_n 2), some (.iand), some (.invokevirtual 91), none],
  [none, some (.isub), some (.ireturn), none, none, none, none, none, none, none, none, none, none, none, none, none]]
def nw_cd86 : List (List (Option Instr)) := [
  [some (.aload_n 0), some (.iload_n 1), some (.invokevirtual 84), none, none, some (.aload_n 0), some (.aload_n 0), some (.getfield 34), none, none, some (.iload_n 1), some (.iaload), some (.iload_n 2), some (.invokevirtual 95), none, none],
  [some (.ireturn), none, none, none, none, none, none, none, none, none, none, none, none, none, none, none]]
def nw_cd87 : List (List (Option Instr)) := [
  [some (.aload_n 0), some (.invokevirtual 99), none, none, some (.iconst (-1)), some (.istore 6), none, some (.aload_n 0), some (.invokevirtual 80), none, none, some (.istore 7), none, some (.iconst 0), some (.istore 8), none],
  [some (.iload 8), none, some (.iload 7), none, some (.if_icmp .ge 103), none, none, some (.aload_n 0), some (.getfield 34), none, none, some (.iload 8), none, some (.iaload), some (.iload_n 1), some (.iand)],
  [some (.ifCond .ne 43), none, none, some (.iload 5), none, some (.ifCond .eq 34), none, none, some (.aload_n 0), some (.iload 8), none, some (.iload_n 3), some (.invokevirtual 102), none, none, some (.iload 4)],
  [none, some (.if_icmp .ne 7), none, none, some (.iconst 1), some (.goto 4), none, none, some (.iconst 0), some (.iload 5), none, some (.iconst 1), some (.if_icmp .ne 7), none, none, some (.iconst 1)],
  [some (.goto 4), none, none, some (.iconst 0), some (.if_icmp .ne 7), none, none, some (.iconst 1), some (.goto 4), none, none, some (.iconst 0), some (.istore 9), none, some (.iload 9), none],
  [some (.ifCond .eq 37), none, none, some (.aload_n 0), some (.iload 8), none, some (.iload_n 2), some (.invokevirtual 105), none, none, some (.istore 10), none, some (.iload 6), none, some (.iconst (-1)), some (.if_icmp .eq 12)],
  [none, none, some (.iload 10), none, some (.aload_n 0), some (.getfield 108), none, none, some (.if_icmp .le 13), none, none, some (.iload 8), none, some (.istore 6), none, some (.aload_n 0)],
  [some (.iload 10), none, some (.putfield 108), none, none, some (.iinc 8 1), none, none, some (.goto (-104)), none, none, some (.iload 6), none, some (.ireturn), none, none]]
def nw_cd88 : List (List (Option Instr)) := [
  [some (.aload_n 0), some (.aload_n 0), some (.iconst 1), some (.invokevirtual 111), none, none, some (.aload_n 0), some (.iconst 2), some (.invokevirtual 111), none, none, some (.iconst 0), some (.iconst 0), some (.iconst 0), some (.invokevirtual 114), none],
  [none, some (.ireturn), none, none, none, none, none, none, none, none, none, none, none, none, none, none]]
def nw_cd89 : List (List (Option Instr)) := [
  [some (.aload_n 0), some (.invokevirtual 99), none, none, some (.aload_n 0), some (.iconst 1), some (.invokevirtual 111), none, none, some (.istore_n 1), some (.iconst 0), some (.istore_n 2), some (.iload_n 2), some (.sipush 4096), none, none],
  [some (.if_icmp .ge 16), none, none, some (.aload_n 0), some (.getfield 37), none, none, some (.iload_n 2), some (.iconst 0), some (.bastore), some (.iinc 2 1), none, none, some (.goto (-17)), none, none],
  [some (.aload_n 0), some (.invokevirtual 80), none, none, some (.istore_n 2), some (.iconst 0), some (.istore_n 3), some (.iload_n 3), some (.iload_n 2), some (.if_icmp .ge 25), none, none, some (.aload_n 0), some (.getfield 37), none, none],
  [some (.iload_n 1), some (.aload_n 0), some (.getfield 34), none, none, some (.iload_n 3), some (.iaload), some (.iconst (-1)), some (.ixor), some (.iand), some (.iconst 1), some (.bastore), some (.iinc 3 1), none, none, some (.goto (-24))],
  [none, none, some (.sipush 4095), none, none, some (.istore_n 3), some (.iload_n 3), some (.ifCond .lt 48), none, none, some (.iconst 0), some (.istore 4), none, some (.iload 4), none, some (.bipush 12)],
  [none, some (.if_icmp .ge 32), none, none, some (.aload_n 0), some (.getfield 37), none, none, some (.iload_n 3), some (.baload), some (.ifCond .eq 23), none, none, some (.aload_n 0), some (.getfield 37), none],
  [none, some (.iload_n 3), some (.iconst 1), some (.iload 4), none, some (.ishl), some (.iconst (-1)), some (.ixor), some (.iand), some (.iconst 1), some (.bastore), some (.iinc 4 1), none, none, some (.goto (-33)), none],
  [none, some (.iinc 3 (-1)), none, none, some (.goto (-46)), none, none, some (.return_), none, none, none, none, none, none, none, none]]
def nw_cd90 : List (List (Option Instr)) := [
  [some (.iload_n 1), some (.iload_n 2), some (.iconst (-1)), some (.ixor), some (.iand), some (.ifCond .ne 16), none, none, some (.aload_n 0), some (.getfield 37), none, none, some (.iload_n 1), some (.baload), some (.ifCond .ne 7), none],
  [none, some (.iconst 1), some (.goto 4), none, none, some (.iconst 0), some (.istore_n 3), some (.iconst 0), some (.istore 4), none, some (.iload 4), none, some (.bipush 12), none, some (.if_icmp .ge 42), none],
  [none, some (.iload_n 3), some (.ifCond .eq 38), none, none, some (.iload_n 1), some (.iload 4), none, some (.ishr), some (.iconst 1), some (.iand), some (.ifCond .eq 17), none, none, some (.aload_n 0), some (.getfield 37)],
  [none, none, some (.iload_n 1), some (.iconst 1), some (.iload 4), none, some (.ishl), some (.ixor), some (.baload), some (.ifCond .eq 7), none, none, some (.iconst 1), some (.goto 4), none, none],
  [some (.iconst 0), some (.istore_n 3), some (.iinc 4 1), none, none, some (.goto (-43)), none, none, some (.iload_n 3), some (.ireturn), none, none, none, none, none, none]]
def nw_cd91 : List (List (Option Instr)) := [
  [some (.iload_n 1), some (.iload_n 2), some (.iconst (-1)), some (.ixor), some (.iand), some (.ifCond .ne 20), none, none, some (.aload_n 0), some (.getfield 37), none, none, some (.iload_n 2), some (.iload_n 1), some (.iconst (-1)), some (.ixor)],
  [some (.iand), some (.baload), some (.ifCond .eq 7), none, none, some (.iconst 1), some (.goto 4), none, none, some (.iconst 0), some (.istore_n 3), some (.iconst 0), some (.istore 4), none, some (.iload 4), none],
  [some (.bipush 12), none, some (.if_icmp .ge 46), none, none, some (.iload_n 3), some (.ifCond .eq 42), none, none, some (.iload_n 1), some (.iload 4), none, some (.ishr), some (.iconst 1), some (.iand), some (.ifCond .eq 21)],
  [none, none, some (.aload_n 0), some (.getfield 37), none, none, some (.iload_n 2), some (.iload_n 1), some (.iconst (-1)), some (.ixor), some (.iand), some (.iconst 1), some (.iload 4), none, some (.ishl), some (.ior)],
  [some (.baload), some (.ifCond .ne 7), none, none, some (.iconst 1), some (.goto 4), none, none, some (.iconst 0), some (.istore_n 3), some (.iinc 4 1), none, none, some (.goto (-47)), none, none],
  [some (.iload_n 3), some (.ireturn), none, none, none, none, none, none, none, none, none, none, none, none, none, none]]
def nw_cd92 : List (List (Option Instr)) := [
  [some (.iconst 0), some (.istore_n 1), some (.iconst 0), some (.istore_n 2), some (.iload_n 2), some (.bipush 12), none, some (.if_icmp .ge 17), none, none, some (.iload_n 1), some (.iload_n 0), some (.iload_n 2), some (.ishr), some (.iconst 1), some (.iand)],
  [some (.iadd), some (.istore_n 1), some (.iinc 2 1), none, none, some (.goto (-17)), none, none, some (.iload_n 1), some (.ireturn), none, none, none, none, none, none]]
def nw_cd93 : List (List (Option Instr)) := [
  [some (.iload_n 2), some (.ifCond .eq 10), none, none, some (.iload_n 1), some (.invokestatic 118), none, none, some (.goto 8), none, none, some (.aload_n 0), some (.iload_n 1), some (.invokevirtual 91), none, none],
  [some (.ireturn), none, none, none, none, none, none, none, none, none, none, none, none, none, none, none]]
def nw_cd94 : List (List (Option Instr)) := [
  [some (.aload_n 0), some (.invokevirtual 121), none, none, some (.aload_n 0), some (.iconst 1), some (.invokevirtual 111), none, none, some (.istore_n 2), some (.iconst 0), some (.istore_n 3), some (.iconst 0), some (.istore 4), none, some (.iload 4)],
  [none, some (.sipush 4096), none, none, some (.if_icmp .ge 44), none, none, some (.iload_n 3), some (.iload_n 1), some (.ifCond .eq 16), none, none, some (.aload_n 0), some (.iload 4), none, some (.iload_n 2)],
  [some (.invokevirtual 124), none, none, some (.ifCond .eq 20), none, none, some (.goto 13), none, none, some (.aload_n 0), some (.iload 4), none, some (.iload_n 2), some (.invokevirtual 127), none, none],
  [some (.ifCond .eq 7), none, none, some (.iconst 1), some (.goto 4), none, none, some (.iconst 0), some (.iadd), some (.istore_n 3), some (.iinc 4 1), none, none, some (.goto (-46)), none, none],
  [some (.iload_n 3), some (.ireturn), none, none, none, none, none, none, none, none, none, none, none, none, none, none]]
def nw_cd95 : List (List (Option Instr)) := [
  [some (.iload_n 1), some (.ifCond .ge 6), none, none, some (.ldc 130), none, some (.ireturn), some (.aload_n 0), some (.invokevirtual 121), none, none, some (.aload_n 0), some (.iconst 1), some (.invokevirtual 111), none, none],
  [some (.istore_n 3), some (.iconst (-1)), some (.istore 4), none, some (.iconst 0), some (.istore 5), none, some (.iload 5), none, some (.iload_n 1), some (.if_icmp .gt 154), none, none, some (.iconst (-1)), some (.istore 6), none],
  [some (.iconst 0), some (.istore 7), none, some (.iload 7), none, some (.sipush 4096), none, none, some (.if_icmp .ge 121), none, none, some (.iload_n 2), some (.ifCond .eq 16), none, none, some (.aload_n 0)],
  [some (.iload 7), none, some (.iload_n 3), some (.invokevirtual 124), none, none, some (.ifCond .eq 101), none, none, some (.goto 13), none, none, some (.aload_n 0), some (.iload 7), none, some (.iload_n 3)],
  [some (.invokevirtual 127), none, none, some (.ifCond .eq 88), none, none, some (.aload_n 0), some (.iload 7), none, some (.iload_n 2), some (.invokevirtual 131), none, none, some (.istore 8), none, some (.iload 4)],
  [none, some (.iconst (-1)), some (.if_icmp .eq 34), none, none, some (.iload 8), none, some (.aload_n 0), some (.iload 4), none, some (.iload_n 2), some (.invokevirtual 131), none, none, some (.if_icmp .gt 22), none],
  [none, some (.iload 8), none, some (.aload_n 0), some (.iload 4), none, some (.iload_n 2), some (.invokevirtual 131), none, none, some (.if_icmp .ne 14), none, none, some (.iload 7), none, some (.iload 4)],
  [none, some (.if_icmp .le 7), none, none, some (.iconst 1), some (.goto 4), none, none, some (.iconst 0), some (.istore 9), none, some (.iload 9), none, some (.ifCond .eq 26), none, none],
  [some (.iload 6), none, some (.iconst (-1)), some (.if_icmp .eq 15), none, none, some (.iload 8), none, some (.aload_n 0), some (.iload 6), none, some (.iload_n 2), some (.invokevirtual 131), none, none, some (.if_icmp .ge 8)],
  [none, none, some (.iload 7), none, some (.goto 5), none, none, some (.iload 6), none, some (.istore 6), none, some (.iinc 7 1), none, none, some (.goto (-123)), none],
  [none, some (.iload 6), none, some (.iconst (-1)), some (.if_icmp .ne 6), none, none, some (.ldc 130), none, some (.ireturn), some (.iload 6), none, some (.istore 4), none, some (.iinc 5 1), none],
  [none, some (.goto (-154)), none, none, some (.iload 4), none, some (.ireturn), none, none, none, none, none, none, none, none, none]]
def nw_cd96 : List (List (Option Instr)) := [
  [some (.aload_n 0), some (.invokevirtual 99), none, none, some (.aload_n 0), some (.iconst 1), some (.invokevirtual 111), none, none, some (.istore_n 3), some (.aload_n 0), some (.iconst 2), some (.invokevirtual 111), none, none, some (.istore 4)],
  [none, some (.iconst 0), some (.istore 5), none, some (.aload_n 0), some (.invokevirtual 80), none, none, some (.istore 6), none, some (.iconst 0), some (.istore 7), none, some (.iload 7), none, some (.iload 6)],
  [none, some (.if_icmp .ge 47), none, none, some (.iload 5), none, some (.aload_n 0), some (.getfield 34), none, none, some (.iload 7), none, some (.iaload), some (.iload_n 3), some (.iand), some (.ifCond .ne 23)],
  [none, none, some (.iload_n 1), some (.ifCond .eq 15), none, none, some (.aload_n 0), some (.iload 7), none, some (.iload 4), none, some (.invokevirtual 105), none, none, some (.iload_n 2), some (.if_icmp .ne 7)],
  [none, none, some (.iconst 1), some (.goto 4), none, none, some (.iconst 0), some (.iadd), some (.istore 5), none, some (.iinc 7 1), none, none, some (.goto (-48)), none, none],
  [some (.iload 5), none, some (.ireturn), none, none, none, none, none, none, none, none, none, none, none, none, none]]
def nw_cd97 : List (List (Option Instr)) := [
  [some (.iload_n 1), some (.tableswitch 99 0 6 #[43, 48, 53, 58, 65, 87, 93]), none, none, none, none, none, none, none, none, none, none, none, none, none, none],
  [none, none, none, none, none, none, none, none, none, none, none, none, none, none, none, none],
  [none, none, none, none, none, none, none, none, none, none, none, none, some (.aload_n 0), some (.getfield 48), none, none],
  [some (.ireturn), some (.aload_n 0), some (.getfield 60), none, none, some (.ireturn), some (.aload_n 0), some (.invokevirtual 80), none, none, some (.ireturn), some (.aload_n 0), some (.iconst 0), some (.iconst 0), some (.invokevirtual 135), none],
  [none, some (.ireturn), some (.aload_n 0), some (.invokevirtual 139), none, none, some (.iconst (-1)), some (.if_icmp .ne 7), none, none, some (.iconst 0), some (.goto 12), none, none, some (.aload_n 0), some (.iconst 1)],
  [some (.aload_n 0), some (.getfield 108), none, none, some (.invokevirtual 135), none, none, some (.ireturn), some (.aload_n 0), some (.iconst 1), some (.invokevirtual 142), none, none, some (.ireturn), some (.aload_n 0), some (.iconst 0)],
  [some (.invokevirtual 142), none, none, some (.ireturn), some (.ldc 63), none, some (.ireturn), none, none, none, none, none, none, none, none, none]]
def nw_cd98 : List (List (Option Instr)) := [
  [some (.aload_n 0), some (.invokevirtual 139), none, none, some (.iconst (-1)), some (.if_icmp .ne 8), none, none, some (.ldc 130), none, some (.goto 7), none, none, some (.aload_n 0), some (.getfield 108), none],
  [none, some (.ireturn), none, none, none, none, none, none, none, none, none, none, none, none, none, none]]
def nw_cd99 : List (List (Option Instr)) := [
  [some (.aload_n 0), some (.iload_n 1), some (.invokevirtual 56), none, none, some (.ifCond .ne 6), none, none, some (.ldc 69), none, some (.ireturn), some (.aload_n 0), some (.invokevirtual 139), none, none, some (.istore_n 2)],
  [some (.iload_n 2), some (.iconst (-1)), some (.if_icmp .ne 8), none, none, some (.ldc 130), none, some (.goto 9), none, none, some (.aload_n 0), some (.iload_n 2), some (.iload_n 1), some (.invokevirtual 102), none, none],
  [some (.ireturn), none, none, none, none, none, none, none, none, none, none, none, none, none, none, none]]
def nw_cd100 : List (List (Option Instr)) := [
  [some (.aload_n 0), some (.iload_n 1), some (.invokevirtual 56), none, none, some (.ifCond .ne 6), none, none, some (.ldc 69), none, some (.ireturn), some (.aload_n 0), some (.invokevirtual 139), none, none, some (.istore_n 2)],
  [some (.iload_n 2), some (.iconst (-1)), some (.if_icmp .ne 6), none, none, some (.ldc 130), none, some (.ireturn), some (.aload_n 0), some (.iconst 1), some (.invokevirtual 111), none, none, some (.istore_n 3), some (.aload_n 0), some (.iconst 2)],
  [some (.invokevirtual 111), none, none, some (.istore 4), none, some (.aload_n 0), some (.iload_n 2), some (.iload_n 1), some (.invokevirtual 102), none, none, some (.istore 5), none, some (.aload_n 0), some (.invokevirtual 80), none],
  [none, some (.istore 6), none, some (.iload_n 2), some (.istore 7), none, some (.iload 7), none, some (.iload 6), none, some (.if_icmp .ge 50), none, none, some (.aload_n 0), some (.getfield 34), none],
  [none, some (.iload 7), none, some (.iaload), some (.iload_n 3), some (.iand), some (.ifCond .ne 32), none, none, some (.aload_n 0), some (.iload 7), none, some (.iload 4), none, some (.invokevirtual 105), none],
  [none, some (.aload_n 0), some (.getfield 108), none, none, some (.if_icmp .ne 17), none, none, some (.aload_n 0), some (.iload 7), none, some (.iload_n 1), some (.invokevirtual 102), none, none, some (.iload 5)],
  [none, some (.if_icmp .eq 5), none, none, some (.iconst (-1)), some (.ireturn), some (.iinc 7 1), none, none, some (.goto (-51)), none, none, some (.iload 5), none, some (.ireturn), none]]
def nw_cd101 : List (List (Option Instr)) := [
  [some (.aload_n 0), some (.iload_n 1), some (.iload_n 2), some (.invokevirtual 65), none, none, some (.ifCond .ne 6), none, none, some (.ldc 69), none, some (.ireturn), some (.aload_n 0), some (.aload_n 0), some (.iconst 1), some (.invokevirtual 111)],
  [none, none, some (.aload_n 0), some (.iconst 2), some (.invokevirtual 111), none, none, some (.iload_n 1), some (.iload_n 2), some (.iconst 1), some (.invokevirtual 114), none, none, some (.iconst (-1)), some (.if_icmp .ne 8), none],
  [none, some (.ldc 130), none, some (.goto 7), none, none, some (.aload_n 0), some (.getfield 108), none, none, some (.ireturn), none, none, none, none, none]]
def nw_cd102 : List (List (Option Instr)) := [
  [some (.aload_n 0), some (.iload_n 1), some (.iload_n 2), some (.invokevirtual 65), none, none, some (.ifCond .eq 11), none, none, some (.aload_n 0), some (.iload_n 3), some (.invokevirtual 56), none, none, some (.ifCond .ne 6), none],
  [none, some (.ldc 69), none, some (.ireturn), some (.aload_n 0), some (.aload_n 0), some (.iconst 1), some (.invokevirtual 111), none, none, some (.aload_n 0), some (.iconst 2), some (.invokevirtual 111), none, none, some (.iload_n 1)],
  [some (.iload_n 2), some (.iconst 1), some (.invokevirtual 114), none, none, some (.istore 4), none, some (.iload 4), none, some (.iconst (-1)), some (.if_icmp .ne 8), none, none, some (.ldc 130), none, some (.goto 10)],
  [none, none, some (.aload_n 0), some (.iload 4), none, some (.iload_n 3), some (.invokevirtual 102), none, none, some (.ireturn), none, none, none, none, none, none]]
def nw_cd103 : List (List (Option Instr)) := [
  [some (.aload_n 0), some (.iload_n 1), some (.iload_n 2), some (.invokevirtual 65), none, none, some (.ifCond .ne 6), none, none, some (.ldc 69), none, some (.ireturn), some (.aload_n 0), some (.aload_n 0), some (.iconst 1), some (.invokevirtual 111)],
  [none, none, some (.aload_n 0), some (.iconst 2), some (.invokevirtual 111), none, none, some (.iload_n 1), some (.iload_n 2), some (.iconst 2), some (.invokevirtual 114), none, none, some (.iconst (-1)), some (.if_icmp .ne 8), none],
  [none, some (.ldc 130), none, some (.goto 7), none, none, some (.aload_n 0), some (.getfield 108), none, none, some (.ireturn), none, none, none, none, none]]
def nw_cd104 : List (List (Option Instr)) := [
  [some (.aload_n 0), some (.iload_n 1), some (.iload_n 2), some (.invokevirtual 65), none, none, some (.ifCond .ne 6), none, none, some (.ldc 69), none, some (.ireturn), some (.aload_n 0), some (.aload_n 0), some (.iconst 1), some (.invokevirtual 111)],
  [none, none, some (.aload_n 0), some (.iconst 2), some (.invokevirtual 111), none, none, some (.iload_n 1), some (.iload_n 2), some (.iconst 1), some (.invokevirtual 114), none, none, some (.istore_n 3), some (.aload_n 0), some (.getfield 108)],
  [none, none, some (.istore 4), none, some (.aload_n 0), some (.aload_n 0), some (.iconst 1), some (.invokevirtual 111), none, none, some (.aload_n 0), some (.iconst 2), some (.invokevirtual 111), none, none, some (.iload_n 1)],
  [some (.iload_n 2), some (.iconst 2), some (.invokevirtual 114), none, none, some (.istore 5), none, some (.aload_n 0), some (.getfield 108), none, none, some (.istore 6), none, some (.iload_n 3), some (.iconst (-1)), some (.if_icmp .ne 6)],
  [none, none, some (.ldc 130), none, some (.ireturn), some (.iload 5), none, some (.iconst (-1)), some (.if_icmp .ne 5), none, none, some (.iconst 0), some (.ireturn), some (.iconst 0), some (.istore 7), none],
  [some (.iload 4), none, some (.iload 7), none, some (.iadd), some (.iload 6), none, some (.if_icmp .lt 19), none, none, some (.iload 4), none, some (.iload 7), none, some (.iadd), some (.iload 6)],
  [none, some (.if_icmp .ne 15), none, none, some (.iload 5), none, some (.iload_n 3), some (.if_icmp .ge 9), none, none, some (.iinc 7 1), none, none, some (.goto (-29)), none, none],
  [some (.iload 7), none, some (.ireturn), none, none, none, none, none, none, none, none, none, none, none, none, none]]
def nw_cd105 : List (List (Option Instr)) := [
  [some (.aload_n 0), some (.iload_n 1), some (.iload_n 2), some (.invokevirtual 65), none, none, some (.ifCond .ne 6), none, none, some (.ldc 69), none, some (.ireturn), some (.aload_n 0), some (.aload_n 0), some (.iconst 1), some (.invokevirtual 111)],
  [none, none, some (.aload_n 0), some (.iconst 2), some (.invokevirtual 111), none, none, some (.iload_n 1), some (.iload_n 2), some (.iconst 1), some (.invokevirtual 114), none, none, some (.istore_n 3), some (.aload_n 0), some (.getfield 108)],
  [none, none, some (.istore 4), none, some (.aload_n 0), some (.aload_n 0), some (.iconst 1), some (.invokevirtual 111), none, none, some (.aload_n 0), some (.iconst 2), some (.invokevirtual 111), none, none, some (.iload_n 1)],
  [some (.iload_n 2), some (.iconst 2), some (.invokevirtual 114), none, none, some (.istore 5), none, some (.aload_n 0), some (.getfield 108), none, none, some (.istore 6), none, some (.iload 5), none, some (.iconst (-1))],
  [some (.if_icmp .ne 6), none, none, some (.ldc 130), none, some (.ireturn), some (.iload_n 3), some (.iconst (-1)), some (.if_icmp .ne 5), none, none, some (.iconst 0), some (.ireturn), some (.iconst 0), some (.istore 7), none],
  [some (.iload 4), none, some (.iload 7), none, some (.isub), some (.iload 6), none, some (.if_icmp .gt 19), none, none, some (.iload 4), none, some (.iload 7), none, some (.isub), some (.iload 6)],
  [none, some (.if_icmp .ne 15), none, none, some (.iload_n 3), some (.iload 5), none, some (.if_icmp .ge 9), none, none, some (.iinc 7 1), none, none, some (.goto (-29)), none, none],
  [some (.iload 7), none, some (.ireturn), none, none, none, none, none, none, none, none, none, none, none, none, none]]
def nw_cd106 : List (List (Option Instr)) := [
  [some (.aload_n 0), some (.iload_n 1), some (.iload_n 2), some (.invokevirtual 65), none, none, some (.ifCond .ne 6), none, none, some (.ldc 69), none, some (.ireturn), some (.aload_n 0), some (.invokevirtual 99), none, none],
  [some (.aload_n 0), some (.iconst 1), some (.invokevirtual 111), none, none, some (.istore_n 3), some (.iconst (-1)), some (.istore 4), none, some (.aload_n 0), some (.invokevirtual 80), none, none, some (.istore 5), none, some (.iconst 0)],
  [some (.istore 6), none, some (.iload 6), none, some (.iload 5), none, some (.if_icmp .ge 95), none, none, some (.aload_n 0), some (.iload 6), none, some (.iload_n 1), some (.invokevirtual 102), none, none],
  [some (.iload_n 2), some (.if_icmp .ne 78), none, none, some (.aload_n 0), some (.getfield 34), none, none, some (.iload 6), none, some (.iaload), some (.iload_n 3), some (.iand), some (.istore 7), none, some (.iload 4)],
  [none, some (.iconst (-1)), some (.if_icmp .eq 40), none, none, some (.aload_n 0), some (.iload 7), none, some (.invokevirtual 91), none, none, some (.aload_n 0), some (.iload 4), none, some (.invokevirtual 91), none],
  [none, some (.if_icmp .lt 25), none, none, some (.aload_n 0), some (.iload 7), none, some (.invokevirtual 91), none, none, some (.aload_n 0), some (.iload 4), none, some (.invokevirtual 91), none, none],
  [some (.if_icmp .ne 14), none, none, some (.iload 7), none, some (.iload 4), none, some (.if_icmp .ge 7), none, none, some (.iconst 1), some (.goto 4), none, none, some (.iconst 0), some (.istore 8)],
  [none, some (.iload 8), none, some (.ifCond .eq 8), none, none, some (.iload 7), none, some (.goto 5), none, none, some (.iload 4), none, some (.istore 4), none, some (.iinc 6 1)],
  [none, none, some (.goto (-96)), none, none, some (.iload 4), none, some (.ireturn), none, none, none, none, none, none, none, none]]
def nw_cd107 : List (List (Option Instr)) := [
  [some (.aload_n 0), some (.invokevirtual 121), none, none, some (.aload_n 0), some (.iconst 1), some (.invokevirtual 111), none, none, some (.istore_n 1), some (.aload_n 0), some (.getfield 37), none, none, some (.iload_n 1), some (.baload)],
  [some (.ifCond .eq 5), none, none, some (.iconst 0), some (.ireturn), some (.iconst 0), some (.istore_n 2), some (.iload_n 2), some (.aload_n 0), some (.getfield 60), none, none, some (.if_icmp .ge 41), none, none, some (.iload_n 1)],
  [some (.iload_n 2), some (.ishr), some (.iconst 1), some (.iand), some (.iconst 1), some (.if_icmp .ne 24), none, none, some (.aload_n 0), some (.getfield 37), none, none, some (.iload_n 1), some (.iconst 1), some (.iload_n 2), some (.ishl)],
  [some (.ixor), some (.baload), some (.ifCond .ne 11), none, none, some (.iload_n 1), some (.iconst 1), some (.iload_n 2), some (.ishl), some (.ixor), some (.goto 4), none, none, some (.iload_n 1), some (.istore_n 1), some (.iinc 2 1)],
  [none, none, some (.goto (-43)), none, none, some (.iload_n 1), some (.ireturn), none, none, none, none, none, none, none, none, none]]
def nw_cd108 : List (List (Option Instr)) := [
  [some (.aload_n 0), some (.iload_n 1), some (.iconst 1), some (.invokevirtual 146), none, none, some (.ireturn), none, none, none, none, none, none, none, none, none]]
def nw_cd109 : List (List (Option Instr)) := [
  [some (.aload_n 0), some (.iload_n 1), some (.iconst 0), some (.invokevirtual 146), none, none, some (.ireturn), none, none, none, none, none, none, none, none, none]]
def nw_cd110 : List (List (Option Instr)) := [
  [some (.iload_n 1), some (.ifCond .lt 12), none, none, some (.iload_n 1), some (.aload_n 0), some (.getfield 60), none, none, some (.ishr), some (.ifCond .eq 8), none, none, some (.ldc 69), none, some (.goto 8)],
  [none, none, some (.aload_n 0), some (.iload_n 1), some (.invokevirtual 91), none, none, some (.ireturn), none, none, none, none, none, none, none, none]]
def nw_cd111 : List (List (Option Instr)) := [
  [some (.aload_n 0), some (.iload_n 1), some (.invokevirtual 74), none, none, some (.ifCond .ne 6), none, none, some (.ldc 69), none, some (.ireturn), some (.aload_n 0), some (.invokevirtual 139), none, none, some (.iconst (-1))],
  [some (.if_icmp .ne 6), none, none, some (.ldc 130), none, some (.ireturn), some (.aload_n 0), some (.getfield 108), none, none, some (.istore_n 2), some (.aload_n 0), some (.getfield 31), none, none, some (.iload_n 1)],
  [some (.iaload), some (.istore_n 3), some (.aload_n 0), some (.getfield 31), none, none, some (.iload_n 1), some (.iconst 0), some (.iastore), some (.aload_n 0), some (.invokevirtual 139), none, none, some (.istore 4), none, some (.aload_n 0)],
  [some (.getfield 31), none, none, some (.iload_n 1), some (.iload_n 3), some (.iastore), some (.iload 4), none, some (.iconst (-1)), some (.if_icmp .ne 8), none, none, some (.ldc 130), none, some (.goto 9), none],
  [none, some (.aload_n 0), some (.getfield 108), none, none, some (.iload_n 2), some (.isub), some (.ireturn), none, none, none, none, none, none, none, none]]
def nw_cd112 : List (List (Option Instr)) := [
  [some (.iconst 0), some (.istore 6), none, some (.iload 6), none, some (.aload_n 0), some (.getfield 48), none, none, some (.if_icmp .ge 76), none, none, some (.aload_n 0), some (.getfield 41), none, none],
  [some (.iload 6), none, some (.iload 6), none, some (.ifCond .ne 7), none, none, some (.iload_n 1), some (.goto 36), none, none, some (.iload 6), none, some (.iconst 1), some (.if_icmp .ne 7), none],
  [none, some (.iload_n 2), some (.goto 26), none, none, some (.iload 6), none, some (.iconst 2), some (.if_icmp .ne 7), none, none, some (.iload_n 3), some (.goto 16), none, none, some (.iload 6)],
  [none, some (.iconst 3), some (.if_icmp .ne 8), none, none, some (.iload 4), none, some (.goto 5), none, none, some (.iload 5), none, some (.iastore), some (.aload_n 0), some (.iload 6), none],
  [some (.aload_n 0), some (.getfield 41), none, none, some (.iload 6), none, some (.iaload), some (.invokevirtual 65), none, none, some (.ifCond .ne 5), none, none, some (.iconst 0), some (.ireturn), some (.iinc 6 1)],
  [none, none, some (.goto (-79)), none, none, some (.iconst 1), some (.ireturn), none, none, none, none, none, none, none, none, none]]
def nw_cd113 : List (List (Option Instr)) := [
  [some (.aload_n 0), some (.iload_n 1), some (.iload_n 2), some (.iload_n 3), some (.iload 4), none, some (.iload 5), none, some (.invokevirtual 149), none, none, some (.ifCond .ne 6), none, none, some (.ldc 69), none],
  [some (.ireturn), some (.aload_n 0), some (.invokevirtual 88), none, none, some (.aload_n 0), some (.iconst 1), some (.invokevirtual 111), none, none, some (.aload_n 0), some (.iconst 2), some (.invokevirtual 111), none, none, some (.ior)],
  [some (.iand), some (.ireturn), none, none, none, none, none, none, none, none, none, none, none, none, none, none]]
def nw_cd114 : List (List (Option Instr)) := [
  [some (.aload_n 0), some (.iload_n 1), some (.iload_n 2), some (.iload_n 3), some (.iload 4), none, some (.iload 5), none, some (.invokevirtual 149), none, none, some (.ifCond .ne 6), none, none, some (.ldc 69), none],
  [some (.ireturn), some (.aload_n 0), some (.aload_n 0), some (.invokevirtual 88), none, none, some (.aload_n 0), some (.iconst 2), some (.invokevirtual 111), none, none, some (.invokevirtual 95), none, none, some (.ireturn), none]]
def nw_cd115 : List (List (Option Instr)) := [
  [some (.iload_n 0), some (.iload_n 0), some (.iconst 1), some (.iushr), some (.ldc_w 265), none, none, some (.iand), some (.isub), some (.istore_n 0), some (.iload_n 0), some (.ldc_w 266), none, none, some (.iand), some (.iload_n 0)],
  [some (.iconst 2), some (.iushr), some (.ldc_w 266), none, none, some (.iand), some (.iadd), some (.istore_n 0), some (.iload_n 0), some (.iload_n 0), some (.iconst 4), some (.iushr), some (.iadd), some (.ldc_w 267), none, none],
  [some (.iand), some (.istore_n 0), some (.iload_n 0), some (.iload_n 0), some (.bipush 8), none, some (.iushr), some (.iadd), some (.istore_n 0), some (.iload_n 0), some (.iload_n 0), some (.bipush 16), none, some (.iushr), some (.iadd), some (.istore_n 0)],
  [some (.iload_n 0), some (.bipush 63), none, some (.iand), some (.ireturn), none, none, none, none, none, none, none, none, none, none, none]]
def nw_cd116 : List (List (Option Instr)) := [
  [some (.iload_n 0), some (.ifCond .ge 8), none, none, some (.iload_n 0), some (.ineg), some (.goto 4), none, none, some (.iload_n 0), some (.ireturn), none, none, none, none, none]]
def nw_cd117 : List (List (Option Instr)) := [
  [some (.iload_n 0), some (.iload_n 1), some (.if_icmp .lt 7), none, none, some (.iload_n 0), some (.goto 4), none, none, some (.iload_n 1), some (.ireturn), none, none, none, none, none]]
def nw_cd118 : List (List (Option Instr)) := [
  [none, none, none, some (.dup), none, none, none, some (.astore_n 1), none, none, none, some (.dup), none, none, none, some (.astore_n 2)],
  [some (.iconst 0), some (.istore_n 3), some (.iload_n 3), some (.aload_n 0), some (.arraylength), some (.bipush 6), none, some (.isub), some (.if_icmp .gt 871), none, none, some (.aload_n 0), some (.iload_n 3), some (.iaload), some (.bipush 31), none],
  [some (.iand), some (.tableswitch 856 0 22 #[107, 130, 173, 236, 269, 302, 335, 358, 371, 394, 417, 450, 493, 526, 559, 592, 625, 638, 661, 684, 707, 730, 793]), none, none, none, none, none, none, none, none, none, none, none, none, none, none],
  [none, none, none, none, none, none, none, none, none, none, none, none, none, none, none, none],
  [none, none, none, none, none, none, none, none, none, none, none, none, none, none, none, none],
  [none, none, none, none, none, none, none, none, none, none, none, none, none, none, none, none],
  [none, none, none, none, none, none, none, none, none, none, none, none, none, none, none, none],
  [none, none, none, none, none, none, none, none, none, none, none, none, none, none, none, none],
  [none, none, none, none, none, none, none, none, none, none, none, none, some (.aload_n 1), some (.aload_n 0), some (.iload_n 3), some (.iconst 1)],
  [some (.iadd), some (.iaload), some (.invokevirtual 13), none, none, some (.aload_n 2), some (.aload_n 0), some (.iload_n 3), some (.iconst 1), some (.iadd), some (.iaload), some (.invokevirtual 17), none, none, some (.if_icmp .eq 731), none],
  [none, some (.iconst 0), some (.ireturn), some (.aload_n 1), some (.aload_n 0), some (.iload_n 3), some (.iconst 1), some (.iadd), some (.iaload), some (.aload_n 0), some (.iload_n 3), some (.iconst 2), some (.iadd), some (.iaload), some (.aload_n 0), some (.iload_n 3)],
  [some (.iconst 3), some (.iadd), some (.iaload), some (.invokevirtual 18), none, none, some (.aload_n 2), some (.aload_n 0), some (.iload_n 3), some (.iconst 1), some (.iadd), some (.iaload), some (.aload_n 0), some (.iload_n 3), some (.iconst 2), some (.iadd)],
  [some (.iaload), some (.aload_n 0), some (.iload_n 3), some (.iconst 3), some (.iadd), some (.iaload), some (.invokevirtual 22), none, none, some (.if_icmp .eq 688), none, none, some (.iconst 0), some (.ireturn), some (.aload_n 1), some (.aload_n 0)],
  [some (.iload_n 3), some (.iconst 1), some (.iadd), some (.iaload), some (.aload_n 0), some (.iload_n 3), some (.iconst 2), some (.iadd), some (.iaload), some (.aload_n 0), some (.iload_n 3), some (.iconst 3), some (.iadd), some (.iaload), some (.aload_n 0), some (.iload_n 3)],
  [some (.iconst 4), some (.iadd), some (.iaload), some (.aload_n 0), some (.iload_n 3), some (.iconst 5), some (.iadd), some (.iaload), some (.invokevirtual 23), none, none, some (.aload_n 2), some (.aload_n 0), some (.iload_n 3), some (.iconst 1), some (.iadd)],
  [some (.iaload), some (.aload_n 0), some (.iload_n 3), some (.iconst 2), some (.iadd), some (.iaload), some (.aload_n 0), some (.iload_n 3), some (.iconst 3), some (.iadd), some (.iaload), some (.aload_n 0), some (.iload_n 3), some (.iconst 4), some (.iadd), some (.iaload)],
  [some (.aload_n 0), some (.iload_n 3), some (.iconst 5), some (.iadd), some (.iaload), some (.invokevirtual 27), none, none, some (.if_icmp .eq 625), none, none, some (.iconst 0), some (.ireturn), some (.aload_n 1), some (.aload_n 0), some (.iload_n 3)],
  [some (.iconst 1), some (.iadd), some (.iaload), some (.aload_n 0), some (.iload_n 3), some (.iconst 2), some (.iadd), some (.iaload), some (.invokevirtual 28), none, none, some (.aload_n 2), some (.aload_n 0), some (.iload_n 3), some (.iconst 1), some (.iadd)],
  [some (.iaload), some (.aload_n 0), some (.iload_n 3), some (.iconst 2), some (.iadd), some (.iaload), some (.invokevirtual 32), none, none, some (.if_icmp .eq 592), none, none, some (.iconst 0), some (.ireturn), some (.aload_n 1), some (.aload_n 0)],
  [some (.iload_n 3), some (.iconst 1), some (.iadd), some (.iaload), some (.aload_n 0), some (.iload_n 3), some (.iconst 2), some (.iadd), some (.iaload), some (.invokevirtual 33), none, none, some (.aload_n 2), some (.aload_n 0), some (.iload_n 3), some (.iconst 1)],
  [some (.iadd), some (.iaload), some (.aload_n 0), some (.iload_n 3), some (.iconst 2), some (.iadd), some (.iaload), some (.invokevirtual 36), none, none, some (.if_icmp .eq 559), none, none, some (.iconst 0), some (.ireturn), some (.aload_n 1)],
  [some (.aload_n 0), some (.iload_n 3), some (.iconst 1), some (.iadd), some (.iaload), some (.aload_n 0), some (.iload_n 3), some (.iconst 2), some (.iadd), some (.iaload), some (.invokevirtual 37), none, none, some (.aload_n 2), some (.aload_n 0), some (.iload_n 3)],
  [some (.iconst 1), some (.iadd), some (.iaload), some (.aload_n 0), some (.iload_n 3), some (.iconst 2), some (.iadd), some (.iaload), some (.invokevirtual 40), none, none, some (.if_icmp .eq 526), none, none, some (.iconst 0), some (.ireturn)],
  [some (.aload_n 1), some (.aload_n 0), some (.iload_n 3), some (.iconst 1), some (.iadd), some (.iaload), some (.invokevirtual 41), none, none, some (.aload_n 2), some (.aload_n 0), some (.iload_n 3), some (.iconst 1), some (.iadd), some (.iaload), some (.invokevirtual 44)],
  [none, none, some (.if_icmp .eq 503), none, none, some (.iconst 0), some (.ireturn), some (.aload_n 1), some (.invokevirtual 45), none, none, some (.aload_n 2), some (.invokevirtual 49), none, none, some (.if_icmp .eq 490)],
  [none, none, some (.iconst 0), some (.ireturn), some (.aload_n 1), some (.aload_n 0), some (.iload_n 3), some (.iconst 1), some (.iadd), some (.iaload), some (.invokevirtual 50), none, none, some (.aload_n 2), some (.aload_n 0), some (.iload_n 3)],
  [some (.iconst 1), some (.iadd), some (.iaload), some (.invokevirtual 53), none, none, some (.if_icmp .eq 467), none, none, some (.iconst 0), some (.ireturn), some (.aload_n 1), some (.aload_n 0), some (.iload_n 3), some (.iconst 1), some (.iadd)],
  [some (.iaload), some (.invokevirtual 54), none, none, some (.aload_n 2), some (.aload_n 0), some (.iload_n 3), some (.iconst 1), some (.iadd), some (.iaload), some (.invokevirtual 57), none, none, some (.if_icmp .eq 444), none, none],
  [some (.iconst 0), some (.ireturn), some (.aload_n 1), some (.aload_n 0), some (.iload_n 3), some (.iconst 1), some (.iadd), some (.iaload), some (.aload_n 0), some (.iload_n 3), some (.iconst 2), some (.iadd), some (.iaload), some (.invokevirtual 58), none, none],
  [some (.aload_n 2), some (.aload_n 0), some (.iload_n 3), some (.iconst 1), some (.iadd), some (.iaload), some (.aload_n 0), some (.iload_n 3), some (.iconst 2), some (.iadd), some (.iaload), some (.invokevirtual 61), none, none, some (.if_icmp .eq 411), none],
  [none, some (.iconst 0), some (.ireturn), some (.aload_n 1), some (.aload_n 0), some (.iload_n 3), some (.iconst 1), some (.iadd), some (.iaload), some (.aload_n 0), some (.iload_n 3), some (.iconst 2), some (.iadd), some (.iaload), some (.aload_n 0), some (.iload_n 3)],
  [some (.iconst 3), some (.iadd), some (.iaload), some (.invokevirtual 62), none, none, some (.aload_n 2), some (.aload_n 0), some (.iload_n 3), some (.iconst 1), some (.iadd), some (.iaload), some (.aload_n 0), some (.iload_n 3), some (.iconst 2), some (.iadd)],
  [some (.iaload), some (.aload_n 0), some (.iload_n 3), some (.iconst 3), some (.iadd), some (.iaload), some (.invokevirtual 65), none, none, some (.if_icmp .eq 368), none, none, some (.iconst 0), some (.ireturn), some (.aload_n 1), some (.aload_n 0)],
  [some (.iload_n 3), some (.iconst 1), some (.iadd), some (.iaload), some (.aload_n 0), some (.iload_n 3), some (.iconst 2), some (.iadd), some (.iaload), some (.invokevirtual 66), none, none, some (.aload_n 2), some (.aload_n 0), some (.iload_n 3), some (.iconst 1)],
  [some (.iadd), some (.iaload), some (.aload_n 0), some (.iload_n 3), some (.iconst 2), some (.iadd), some (.iaload), some (.invokevirtual 69), none, none, some (.if_icmp .eq 335), none, none, some (.iconst 0), some (.ireturn), some (.aload_n 1)],
  [some (.aload_n 0), some (.iload_n 3), some (.iconst 1), some (.iadd), some (.iaload), some (.aload_n 0), some (.iload_n 3), some (.iconst 2), some (.iadd), some (.iaload), some (.invokevirtual 70), none, none, some (.aload_n 2), some (.aload_n 0), some (.iload_n 3)],
  [some (.iconst 1), some (.iadd), some (.iaload), some (.aload_n 0), some (.iload_n 3), some (.iconst 2), some (.iadd), some (.iaload), some (.invokevirtual 73), none, none, some (.if_icmp .eq 302), none, none, some (.iconst 0), some (.ireturn)],
  [some (.aload_n 1), some (.aload_n 0), some (.iload_n 3), some (.iconst 1), some (.iadd), some (.iaload), some (.aload_n 0), some (.iload_n 3), some (.iconst 2), some (.iadd), some (.iaload), some (.invokevirtual 74), none, none, some (.aload_n 2), some (.aload_n 0)],
  [some (.iload_n 3), some (.iconst 1), some (.iadd), some (.iaload), some (.aload_n 0), some (.iload_n 3), some (.iconst 2), some (.iadd), some (.iaload), some (.invokevirtual 77), none, none, some (.if_icmp .eq 269), none, none, some (.iconst 0)],
  [some (.ireturn), some (.aload_n 1), some (.aload_n 0), some (.iload_n 3), some (.iconst 1), some (.iadd), some (.iaload), some (.aload_n 0), some (.iload_n 3), some (.iconst 2), some (.iadd), some (.iaload), some (.invokevirtual 78), none, none, some (.aload_n 2)],
  [some (.aload_n 0), some (.iload_n 3), some (.iconst 1), some (.iadd), some (.iaload), some (.aload_n 0), some (.iload_n 3), some (.iconst 2), some (.iadd), some (.iaload), some (.invokevirtual 81), none, none, some (.if_icmp .eq 236), none, none],
  [some (.iconst 0), some (.ireturn), some (.aload_n 1), some (.invokevirtual 82), none, none, some (.aload_n 2), some (.invokevirtual 85), none, none, some (.if_icmp .eq 223), none, none, some (.iconst 0), some (.ireturn), some (.aload_n 1)],
  [some (.aload_n 0), some (.iload_n 3), some (.iconst 1), some (.iadd), some (.iaload), some (.invokevirtual 86), none, none, some (.aload_n 2), some (.aload_n 0), some (.iload_n 3), some (.iconst 1), some (.iadd), some (.iaload), some (.invokevirtual 89), none],
  [none, some (.if_icmp .eq 200), none, none, some (.iconst 0), some (.ireturn), some (.aload_n 1), some (.aload_n 0), some (.iload_n 3), some (.iconst 1), some (.iadd), some (.iaload), some (.invokevirtual 90), none, none, some (.aload_n 2)],
  [some (.aload_n 0), some (.iload_n 3), some (.iconst 1), some (.iadd), some (.iaload), some (.invokevirtual 93), none, none, some (.if_icmp .eq 177), none, none, some (.iconst 0), some (.ireturn), some (.aload_n 1), some (.aload_n 0), some (.iload_n 3)],
  [some (.iconst 1), some (.iadd), some (.iaload), some (.invokevirtual 94), none, none, some (.aload_n 2), some (.aload_n 0), some (.iload_n 3), some (.iconst 1), some (.iadd), some (.iaload), some (.invokevirtual 97), none, none, some (.if_icmp .eq 154)],
  [none, none, some (.iconst 0), some (.ireturn), some (.aload_n 1), some (.aload_n 0), some (.iload_n 3), some (.iconst 1), some (.iadd), some (.iaload), some (.invokevirtual 98), none, none, some (.aload_n 2), some (.aload_n 0), some (.iload_n 3)],
  [some (.iconst 1), some (.iadd), some (.iaload), some (.invokevirtual 101), none, none, some (.if_icmp .eq 131), none, none, some (.iconst 0), some (.ireturn), some (.aload_n 1), some (.aload_n 0), some (.iload_n 3), some (.iconst 1), some (.iadd)],
  [some (.iaload), some (.aload_n 0), some (.iload_n 3), some (.iconst 2), some (.iadd), some (.iaload), some (.aload_n 0), some (.iload_n 3), some (.iconst 3), some (.iadd), some (.iaload), some (.aload_n 0), some (.iload_n 3), some (.iconst 4), some (.iadd), some (.iaload)],
  [some (.aload_n 0), some (.iload_n 3), some (.iconst 5), some (.iadd), some (.iaload), some (.invokevirtual 102), none, none, some (.aload_n 2), some (.aload_n 0), some (.iload_n 3), some (.iconst 1), some (.iadd), some (.iaload), some (.aload_n 0), some (.iload_n 3)],
  [some (.iconst 2), some (.iadd), some (.iaload), some (.aload_n 0), some (.iload_n 3), some (.iconst 3), some (.iadd), some (.iaload), some (.aload_n 0), some (.iload_n 3), some (.iconst 4), some (.iadd), some (.iaload), some (.aload_n 0), some (.iload_n 3), some (.iconst 5)],
  [some (.iadd), some (.iaload), some (.invokevirtual 105), none, none, some (.if_icmp .eq 68), none, none, some (.iconst 0), some (.ireturn), some (.aload_n 1), some (.aload_n 0), some (.iload_n 3), some (.iconst 1), some (.iadd), some (.iaload)],
  [some (.aload_n 0), some (.iload_n 3), some (.iconst 2), some (.iadd), some (.iaload), some (.aload_n 0), some (.iload_n 3), some (.iconst 3), some (.iadd), some (.iaload), some (.aload_n 0), some (.iload_n 3), some (.iconst 4), some (.iadd), some (.iaload), some (.aload_n 0)],
  [some (.iload_n 3), some (.iconst 5), some (.iadd), some (.iaload), some (.invokevirtual 106), none, none, some (.aload_n 2), some (.aload_n 0), some (.iload_n 3), some (.iconst 1), some (.iadd), some (.iaload), some (.aload_n 0), some (.iload_n 3), some (.iconst 2)],
  [some (.iadd), some (.iaload), some (.aload_n 0), some (.iload_n 3), some (.iconst 3), some (.iadd), some (.iaload), some (.aload_n 0), some (.iload_n 3), some (.iconst 4), some (.iadd), some (.iaload), some (.aload_n 0), some (.iload_n 3), some (.iconst 5), some (.iadd)],
  [some (.iaload), some (.invokevirtual 109), none, none, some (.if_icmp .eq 5), none, none, some (.iconst 0), some (.ireturn), some (.iinc 3 6), none, none, some (.goto (-874)), none, none, some (.iconst 1)],
  [some (.ireturn), none, none, none, none, none, none, none, none, none, none, none, none, none, none, none]]
def nw_codes : List (List (List (Option Instr))) := [[], nw_cd1, nw_cd2, nw_cd3, nw_cd4, nw_cd5, nw_cd6, nw_cd7, [], nw_cd9, nw_cd10, nw_cd11, [], nw_cd13, nw_cd14, nw_cd15, nw_cd16, nw_cd17, nw_cd18, nw_cd19, nw_cd20, nw_cd21, [], nw_cd23, nw_cd24, nw_cd25, [], nw_cd27, nw_cd28, nw_cd29, nw_cd30, nw_cd31, nw_cd32, nw_cd33, nw_cd34, nw_cd35, nw_cd36, nw_cd37, nw_cd38, nw_cd39, nw_cd40, nw_cd41, nw_cd42, nw_cd43, nw_cd44, nw_cd45, nw_cd46, nw_cd47, nw_cd48, nw_cd49, nw_cd50, nw_cd51, nw_cd52, nw_cd53, nw_cd54, nw_cd55, nw_cd56, nw_cd57, nw_cd58, nw_cd59, nw_cd60, nw_cd61, nw_cd62, nw_cd63, nw_cd64, [], nw_cd66, nw_cd67, nw_cd68, nw_cd69, nw_cd70, nw_cd71, nw_cd72, nw_cd73, nw_cd74, nw_cd75, nw_cd76, nw_cd77, nw_cd78, nw_cd79, nw_cd80, nw_cd81, nw_cd82, nw_cd83, nw_cd84, nw_cd85, nw_cd86, nw_cd87, nw_cd88, nw_cd89, nw_cd90, nw_cd91, nw_cd92, nw_cd93, nw_cd94, nw_cd95, nw_cd96, nw_cd97, nw_cd98, nw_cd99, nw_cd100, nw_cd101, nw_cd102, nw_cd103, nw_cd104, nw_cd105, nw_cd106, nw_cd107, nw_cd108, nw_cd109, nw_cd110, nw_cd111, nw_cd112, nw_cd113, nw_cd114, nw_cd115, nw_cd116, nw_cd117, nw_cd118]
/-- own number: pool number, number of the object's kind, field, its type (0 int, 1 boolean, 2 a cell) -/
def nw_fTab : List (List (Nat × Nat × Nat × Nat)) := [[(9, 0, 0, 0), (15, 0, 1, 0), (18, 0, 2, 2), (22, 0, 3, 2), (25, 0, 4, 2), (28, 0, 5, 2)],
  [(9, 1, 0, 0), (15, 1, 1, 2), (19, 1, 2, 2)],
  [(9, 2, 0, 0), (15, 2, 1, 2), (19, 2, 2, 2), (22, 2, 3, 2), (25, 2, 4, 2), (28, 2, 5, 2), (31, 2, 6, 2), (34, 2, 7, 2)],
  [(7, 3, 0, 0), (13, 3, 1, 0), (16, 3, 2, 0), (19, 3, 3, 0)],
  [(12, 4, 0, 2), (19, 4, 1, 2), (23, 4, 2, 2), (27, 4, 3, 2), (33, 4, 4, 2), (37, 4, 5, 1), (41, 4, 6, 2), (44, 4, 7, 2), (47, 4, 8, 2), (54, 4, 9, 2), (58, 4, 10, 2), (61, 4, 11, 1), (65, 0, 0, 0), (101, 2, 0, 0), (108, 2, 6, 2), (115, 2, 1, 2), (118, 2, 2, 2), (121, 2, 3, 2), (124, 2, 4, 2), (127, 2, 5, 2), (130, 0, 1, 0), (136, 3, 0, 0), (139, 3, 3, 0), (145, 1, 0, 0), (147, 3, 1, 0), (151, 3, 2, 0), (182, 2, 7, 2), (204, 0, 5, 2)],
  [(7, 5, 1, 2), (13, 5, 2, 2), (16, 5, 4, 2), (19, 5, 5, 2), (22, 5, 6, 2), (25, 5, 7, 2), (28, 5, 8, 2), (31, 5, 9, 2), (34, 5, 10, 2), (37, 5, 12, 2), (41, 5, 13, 2), (44, 5, 11, 1), (48, 5, 0, 0), (60, 5, 3, 0), (108, 5, 14, 0)],
  [],
  [],
  []]
def nw_cTab : List (List (Nat × Nat)) := [[(31, 1), (35, 5), (39, 2)],
  [],
  [(37, 14), (41, 116), (47, 20), (51, 21)],
  [(22, 117)],
  [(70, 3), (74, 54), (77, 50), (80, 2), (85, 4), (89, 52), (93, 53), (97, 51), (102, 15), (105, 13), (111, 16), (133, 58), (142, 60), (150, 1), (154, 5), (157, 17), (161, 56), (164, 59), (168, 25), (172, 18), (175, 11), (178, 14), (185, 57), (189, 55), (192, 6), (196, 19), (200, 7), (207, 23), (210, 24), (213, 61), (216, 62), (219, 9), (220, 63), (223, 115), (228, 10), (231, 64)],
  [(52, 66), (56, 67), (65, 68), (70, 72), (74, 69), (77, 79), (80, 77), (84, 78), (88, 80), (91, 83), (95, 85), (99, 81), (102, 84), (105, 86), (111, 82), (114, 87), (118, 92), (121, 89), (124, 90), (127, 91), (131, 93), (135, 96), (139, 88), (142, 94), (146, 95), (149, 112)],
  [],
  [],
  [(13, 27), (17, 70), (18, 28), (22, 71), (23, 29), (27, 73), (28, 30), (32, 74), (33, 31), (36, 75), (37, 32), (40, 76), (41, 33), (44, 97), (45, 34), (49, 98), (50, 35), (53, 99), (54, 36), (57, 100), (58, 37), (61, 101), (62, 38), (65, 102), (66, 39), (69, 103), (70, 40), (73, 104), (74, 41), (77, 105), (78, 42), (81, 106), (82, 43), (85, 107), (86, 44), (89, 108), (90, 45), (93, 109), (94, 46), (97, 110), (98, 47), (101, 111), (102, 48), (105, 113), (106, 49), (109, 114)]]
def nw_kTab : List (List (Nat × Int)) := [[],
  [(22, -1000004)],
  [],
  [],
  [(64, -1000002), (69, -1000003), (84, -1000001), (146, -1000004)],
  [(63, -1000002), (64, -1000003), (69, -1000001), (130, -1000004)],
  [(265, 1431655765), (266, 858993459), (267, 252645135)],
  [],
  []]
abbrev nw_sh : Type := (Nat × Bool) ⊕ (Nat × List Nat)
def nw_shp : List nw_sh := [
  .inr (4, [3, 8, 16, 17, 18, 1, 19, 20, 21, 22, 25, 1]),
  .inr (0, [0, 0, 4, 5, 6, 7]),
  .inl (5, false),
  .inl (5, false),
  .inl (30, false),
  .inl (7776, false),
  .inr (2, [0, 9, 10, 11, 12, 13, 14, 15]),
  .inl (12, false),
  .inl (12, false),
  .inl (12, false),
  .inl (12, false),
  .inl (12, false),
  .inl (12, false),
  .inl (4096, false),
  .inl (7776, false),
  .inl (5, false),
  .inr (3, [0, 0, 0, 0]),
  .inr (3, [0, 0, 0, 0]),
  .inr (3, [0, 0, 0, 0]),
  .inl (4096, true),
  .inr (1, [0, 23, 24]),
  .inl (924, false),
  .inl (924, false),
  .inr (1, [0, 26, 27]),
  .inl (924, false),
  .inl (924, false),
  .inr (5, [0, 29, 30, 0, 31, 32, 33, 34, 35, 36, 37, 1, 38, 39, 0]),
  .inl (5, false),
  .inl (30, false),
  .inl (12, false),
  .inl (12, false),
  .inl (12, false),
  .inl (12, false),
  .inl (12, false),
  .inl (12, false),
  .inl (7776, false),
  .inl (4096, true),
  .inl (5, false)]
