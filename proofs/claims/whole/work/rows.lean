section
-- ===== PART A: goes FIRST, ahead of the names: the tables' words, and 'selects' of the private methods out of them =====
/-- a private method of a class that the tables say can be made, by its rows of tables_1 -/
def lw_okq (q : MethodName × Nat) : Prop := (q.1.cls ≠ "java/lang/invoke/MethodHandle" ∧ q.1.cls ≠ "java/lang/invoke/VarHandle") ∧ Cond.instantiable q.1.cls q.2 ∈ tables_1 ∧ Cond.privateMethod q.1 ∈ tables_1 ∧ Cond.instanceMethod q.1 ∈ tables_1
theorem lw_p0 : lw_okq (⟨"WhyNots", "judgeFrom", "(I)V"⟩, 12) := ⟨⟨by decide +kernel, by decide +kernel⟩, List.mem_of_getElem? (i := 10) (by decide +kernel), List.mem_of_getElem? (i := 174) (by decide +kernel), List.mem_of_getElem? (i := 175) (by decide +kernel)⟩
theorem lw_p1 : lw_okq (⟨"WhyNots", "forgetAll", "()V"⟩, 12) := ⟨⟨by decide +kernel, by decide +kernel⟩, List.mem_of_getElem? (i := 10) (by decide +kernel), List.mem_of_getElem? (i := 199) (by decide +kernel), List.mem_of_getElem? (i := 200) (by decide +kernel)⟩
theorem lw_p2 : lw_okq (⟨"WhyNots", "namesNoChoice", "(III)Z"⟩, 12) := ⟨⟨by decide +kernel, by decide +kernel⟩, List.mem_of_getElem? (i := 10) (by decide +kernel), List.mem_of_getElem? (i := 224) (by decide +kernel), List.mem_of_getElem? (i := 225) (by decide +kernel)⟩
theorem lw_p3 : lw_okq (⟨"WhyNots", "findWhole", "()V"⟩, 12) := ⟨⟨by decide +kernel, by decide +kernel⟩, List.mem_of_getElem? (i := 10) (by decide +kernel), List.mem_of_getElem? (i := 267) (by decide +kernel), List.mem_of_getElem? (i := 268) (by decide +kernel)⟩
theorem lw_p4 : lw_okq (⟨"WhyNots", "lookAtAll", "(LWhyNots$Top;II)V"⟩, 12) := ⟨⟨by decide +kernel, by decide +kernel⟩, List.mem_of_getElem? (i := 10) (by decide +kernel), List.mem_of_getElem? (i := 275) (by decide +kernel), List.mem_of_getElem? (i := 276) (by decide +kernel)⟩
theorem lw_p5 : lw_okq (⟨"WhyNots", "scoreWith", "(II)I"⟩, 12) := ⟨⟨by decide +kernel, by decide +kernel⟩, List.mem_of_getElem? (i := 10) (by decide +kernel), List.mem_of_getElem? (i := 283) (by decide +kernel), List.mem_of_getElem? (i := 284) (by decide +kernel)⟩
theorem lw_p6 : lw_okq (⟨"WhyNots", "findSets", "()V"⟩, 12) := ⟨⟨by decide +kernel, by decide +kernel⟩, List.mem_of_getElem? (i := 10) (by decide +kernel), List.mem_of_getElem? (i := 291) (by decide +kernel), List.mem_of_getElem? (i := 292) (by decide +kernel)⟩
theorem lw_p7 : lw_okq (⟨"WhyNots", "findPossible", "(I)V"⟩, 12) := ⟨⟨by decide +kernel, by decide +kernel⟩, List.mem_of_getElem? (i := 10) (by decide +kernel), List.mem_of_getElem? (i := 295) (by decide +kernel), List.mem_of_getElem? (i := 296) (by decide +kernel)⟩
theorem lw_p8 : lw_okq (⟨"WhyNots", "listSets", "(I)V"⟩, 12) := ⟨⟨by decide +kernel, by decide +kernel⟩, List.mem_of_getElem? (i := 10) (by decide +kernel), List.mem_of_getElem? (i := 300) (by decide +kernel), List.mem_of_getElem? (i := 301) (by decide +kernel)⟩
theorem lw_p9 : lw_okq (⟨"WhyNots", "isClash", "(I)Z"⟩, 12) := ⟨⟨by decide +kernel, by decide +kernel⟩, List.mem_of_getElem? (i := 10) (by decide +kernel), List.mem_of_getElem? (i := 308) (by decide +kernel), List.mem_of_getElem? (i := 309) (by decide +kernel)⟩
theorem lw_p10 : lw_okq (⟨"WhyNots", "isRelaxation", "(II)Z"⟩, 12) := ⟨⟨by decide +kernel, by decide +kernel⟩, List.mem_of_getElem? (i := 10) (by decide +kernel), List.mem_of_getElem? (i := 322) (by decide +kernel), List.mem_of_getElem? (i := 323) (by decide +kernel)⟩
theorem lw_p11 : lw_okq (⟨"WhyNots", "findParts", "(II)V"⟩, 12) := ⟨⟨by decide +kernel, by decide +kernel⟩, List.mem_of_getElem? (i := 10) (by decide +kernel), List.mem_of_getElem? (i := 344) (by decide +kernel), List.mem_of_getElem? (i := 345) (by decide +kernel)⟩
theorem lw_p12 : lw_okq (⟨"WhyNots", "planOf", "(IIIII)I"⟩, 12) := ⟨⟨by decide +kernel, by decide +kernel⟩, List.mem_of_getElem? (i := 10) (by decide +kernel), List.mem_of_getElem? (i := 408) (by decide +kernel), List.mem_of_getElem? (i := 409) (by decide +kernel)⟩
theorem lw_p13 : lw_okq (⟨"WhyNotsModel", "isCandidate", "(II)Z"⟩, 15) := ⟨⟨by decide +kernel, by decide +kernel⟩, List.mem_of_getElem? (i := 421) (by decide +kernel), List.mem_of_getElem? (i := 486) (by decide +kernel), List.mem_of_getElem? (i := 487) (by decide +kernel)⟩
theorem lw_p14 : lw_okq (⟨"WhyNotsModel", "isChoice", "(I)Z"⟩, 15) := ⟨⟨by decide +kernel, by decide +kernel⟩, List.mem_of_getElem? (i := 421) (by decide +kernel), List.mem_of_getElem? (i := 490) (by decide +kernel), List.mem_of_getElem? (i := 491) (by decide +kernel)⟩
theorem lw_p15 : lw_okq (⟨"WhyNotsModel", "isRule", "(I)Z"⟩, 15) := ⟨⟨by decide +kernel, by decide +kernel⟩, List.mem_of_getElem? (i := 421) (by decide +kernel), List.mem_of_getElem? (i := 506) (by decide +kernel), List.mem_of_getElem? (i := 507) (by decide +kernel)⟩
def lw_privs_1 : List (MethodName × Nat) := [(⟨"WhyNots", "judgeFrom", "(I)V"⟩, 12), (⟨"WhyNots", "forgetAll", "()V"⟩, 12), (⟨"WhyNots", "namesNoChoice", "(III)Z"⟩, 12), (⟨"WhyNots", "findWhole", "()V"⟩, 12), (⟨"WhyNots", "lookAtAll", "(LWhyNots$Top;II)V"⟩, 12), (⟨"WhyNots", "scoreWith", "(II)I"⟩, 12), (⟨"WhyNots", "findSets", "()V"⟩, 12), (⟨"WhyNots", "findPossible", "(I)V"⟩, 12), (⟨"WhyNots", "listSets", "(I)V"⟩, 12), (⟨"WhyNots", "isClash", "(I)Z"⟩, 12), (⟨"WhyNots", "isRelaxation", "(II)Z"⟩, 12), (⟨"WhyNots", "findParts", "(II)V"⟩, 12), (⟨"WhyNots", "planOf", "(IIIII)I"⟩, 12), (⟨"WhyNotsModel", "isCandidate", "(II)Z"⟩, 15), (⟨"WhyNotsModel", "isChoice", "(I)Z"⟩, 15), (⟨"WhyNotsModel", "isRule", "(I)Z"⟩, 15)]
theorem lw_r1 : ∀ q ∈ lw_privs_1, lw_okq q := List.forall_mem_cons.mpr ⟨lw_p0, List.forall_mem_cons.mpr ⟨lw_p1, List.forall_mem_cons.mpr ⟨lw_p2, List.forall_mem_cons.mpr ⟨lw_p3, List.forall_mem_cons.mpr ⟨lw_p4, List.forall_mem_cons.mpr ⟨lw_p5, List.forall_mem_cons.mpr ⟨lw_p6, List.forall_mem_cons.mpr ⟨lw_p7, List.forall_mem_cons.mpr ⟨lw_p8, List.forall_mem_cons.mpr ⟨lw_p9, List.forall_mem_cons.mpr ⟨lw_p10, List.forall_mem_cons.mpr ⟨lw_p11, List.forall_mem_cons.mpr ⟨lw_p12, List.forall_mem_cons.mpr ⟨lw_p13, List.forall_mem_cons.mpr ⟨lw_p14, List.forall_mem_cons.mpr ⟨lw_p15, fun _ h => absurd h List.not_mem_nil⟩⟩⟩⟩⟩⟩⟩⟩⟩⟩⟩⟩⟩⟩⟩⟩
theorem lw_p16 : lw_okq (⟨"WhyNotsModel", "plans", "()I"⟩, 15) := ⟨⟨by decide +kernel, by decide +kernel⟩, List.mem_of_getElem? (i := 421) (by decide +kernel), List.mem_of_getElem? (i := 522) (by decide +kernel), List.mem_of_getElem? (i := 523) (by decide +kernel)⟩
theorem lw_p17 : lw_okq (⟨"WhyNotsModel", "standing", "(ZI)I"⟩, 15) := ⟨⟨by decide +kernel, by decide +kernel⟩, List.mem_of_getElem? (i := 421) (by decide +kernel), List.mem_of_getElem? (i := 526) (by decide +kernel), List.mem_of_getElem? (i := 527) (by decide +kernel)⟩
theorem lw_p18 : lw_okq (⟨"WhyNotsModel", "freshen", "()V"⟩, 15) := ⟨⟨by decide +kernel, by decide +kernel⟩, List.mem_of_getElem? (i := 421) (by decide +kernel), List.mem_of_getElem? (i := 530) (by decide +kernel), List.mem_of_getElem? (i := 531) (by decide +kernel)⟩
theorem lw_p19 : lw_okq (⟨"WhyNotsModel", "lay", "(I)V"⟩, 15) := ⟨⟨by decide +kernel, by decide +kernel⟩, List.mem_of_getElem? (i := 421) (by decide +kernel), List.mem_of_getElem? (i := 534) (by decide +kernel), List.mem_of_getElem? (i := 535) (by decide +kernel)⟩
theorem lw_p20 : lw_okq (⟨"WhyNotsModel", "breaksNow", "()I"⟩, 15) := ⟨⟨by decide +kernel, by decide +kernel⟩, List.mem_of_getElem? (i := 421) (by decide +kernel), List.mem_of_getElem? (i := 538) (by decide +kernel), List.mem_of_getElem? (i := 539) (by decide +kernel)⟩
theorem lw_p21 : lw_okq (⟨"WhyNotsModel", "keeps", "(I)Z"⟩, 15) := ⟨⟨by decide +kernel, by decide +kernel⟩, List.mem_of_getElem? (i := 421) (by decide +kernel), List.mem_of_getElem? (i := 542) (by decide +kernel), List.mem_of_getElem? (i := 543) (by decide +kernel)⟩
theorem lw_p22 : lw_okq (⟨"WhyNotsModel", "ofMode", "(I)I"⟩, 15) := ⟨⟨by decide +kernel, by decide +kernel⟩, List.mem_of_getElem? (i := 421) (by decide +kernel), List.mem_of_getElem? (i := 546) (by decide +kernel), List.mem_of_getElem? (i := 547) (by decide +kernel)⟩
theorem lw_p23 : lw_okq (⟨"WhyNotsModel", "scoreOf", "(II)I"⟩, 15) := ⟨⟨by decide +kernel, by decide +kernel⟩, List.mem_of_getElem? (i := 421) (by decide +kernel), List.mem_of_getElem? (i := 550) (by decide +kernel), List.mem_of_getElem? (i := 551) (by decide +kernel)⟩
theorem lw_p24 : lw_okq (⟨"WhyNotsModel", "scoreNow", "(II)I"⟩, 15) := ⟨⟨by decide +kernel, by decide +kernel⟩, List.mem_of_getElem? (i := 421) (by decide +kernel), List.mem_of_getElem? (i := 554) (by decide +kernel), List.mem_of_getElem? (i := 555) (by decide +kernel)⟩
theorem lw_p25 : lw_okq (⟨"WhyNotsModel", "costOf", "(I)I"⟩, 15) := ⟨⟨by decide +kernel, by decide +kernel⟩, List.mem_of_getElem? (i := 421) (by decide +kernel), List.mem_of_getElem? (i := 558) (by decide +kernel), List.mem_of_getElem? (i := 559) (by decide +kernel)⟩
theorem lw_p26 : lw_okq (⟨"WhyNotsModel", "firstBest", "()I"⟩, 15) := ⟨⟨by decide +kernel, by decide +kernel⟩, List.mem_of_getElem? (i := 421) (by decide +kernel), List.mem_of_getElem? (i := 562) (by decide +kernel), List.mem_of_getElem? (i := 563) (by decide +kernel)⟩
theorem lw_p27 : lw_okq (⟨"WhyNotsModel", "first", "(IIIII)I"⟩, 15) := ⟨⟨by decide +kernel, by decide +kernel⟩, List.mem_of_getElem? (i := 421) (by decide +kernel), List.mem_of_getElem? (i := 566) (by decide +kernel), List.mem_of_getElem? (i := 567) (by decide +kernel)⟩
theorem lw_p28 : lw_okq (⟨"WhyNotsModel", "takes", "(II)I"⟩, 15) := ⟨⟨by decide +kernel, by decide +kernel⟩, List.mem_of_getElem? (i := 421) (by decide +kernel), List.mem_of_getElem? (i := 570) (by decide +kernel), List.mem_of_getElem? (i := 571) (by decide +kernel)⟩
theorem lw_p29 : lw_okq (⟨"WhyNotsModel", "manySets", "(Z)I"⟩, 15) := ⟨⟨by decide +kernel, by decide +kernel⟩, List.mem_of_getElem? (i := 421) (by decide +kernel), List.mem_of_getElem? (i := 574) (by decide +kernel), List.mem_of_getElem? (i := 575) (by decide +kernel)⟩
theorem lw_p30 : lw_okq (⟨"WhyNotsModel", "findCan", "()V"⟩, 15) := ⟨⟨by decide +kernel, by decide +kernel⟩, List.mem_of_getElem? (i := 421) (by decide +kernel), List.mem_of_getElem? (i := 578) (by decide +kernel), List.mem_of_getElem? (i := 579) (by decide +kernel)⟩
theorem lw_p31 : lw_okq (⟨"WhyNotsModel", "isClash", "(II)Z"⟩, 15) := ⟨⟨by decide +kernel, by decide +kernel⟩, List.mem_of_getElem? (i := 421) (by decide +kernel), List.mem_of_getElem? (i := 582) (by decide +kernel), List.mem_of_getElem? (i := 583) (by decide +kernel)⟩
def lw_privs_2 : List (MethodName × Nat) := [(⟨"WhyNotsModel", "plans", "()I"⟩, 15), (⟨"WhyNotsModel", "standing", "(ZI)I"⟩, 15), (⟨"WhyNotsModel", "freshen", "()V"⟩, 15), (⟨"WhyNotsModel", "lay", "(I)V"⟩, 15), (⟨"WhyNotsModel", "breaksNow", "()I"⟩, 15), (⟨"WhyNotsModel", "keeps", "(I)Z"⟩, 15), (⟨"WhyNotsModel", "ofMode", "(I)I"⟩, 15), (⟨"WhyNotsModel", "scoreOf", "(II)I"⟩, 15), (⟨"WhyNotsModel", "scoreNow", "(II)I"⟩, 15), (⟨"WhyNotsModel", "costOf", "(I)I"⟩, 15), (⟨"WhyNotsModel", "firstBest", "()I"⟩, 15), (⟨"WhyNotsModel", "first", "(IIIII)I"⟩, 15), (⟨"WhyNotsModel", "takes", "(II)I"⟩, 15), (⟨"WhyNotsModel", "manySets", "(Z)I"⟩, 15), (⟨"WhyNotsModel", "findCan", "()V"⟩, 15), (⟨"WhyNotsModel", "isClash", "(II)Z"⟩, 15)]
theorem lw_r2 : ∀ q ∈ lw_privs_2, lw_okq q := List.forall_mem_cons.mpr ⟨lw_p16, List.forall_mem_cons.mpr ⟨lw_p17, List.forall_mem_cons.mpr ⟨lw_p18, List.forall_mem_cons.mpr ⟨lw_p19, List.forall_mem_cons.mpr ⟨lw_p20, List.forall_mem_cons.mpr ⟨lw_p21, List.forall_mem_cons.mpr ⟨lw_p22, List.forall_mem_cons.mpr ⟨lw_p23, List.forall_mem_cons.mpr ⟨lw_p24, List.forall_mem_cons.mpr ⟨lw_p25, List.forall_mem_cons.mpr ⟨lw_p26, List.forall_mem_cons.mpr ⟨lw_p27, List.forall_mem_cons.mpr ⟨lw_p28, List.forall_mem_cons.mpr ⟨lw_p29, List.forall_mem_cons.mpr ⟨lw_p30, List.forall_mem_cons.mpr ⟨lw_p31, fun _ h => absurd h List.not_mem_nil⟩⟩⟩⟩⟩⟩⟩⟩⟩⟩⟩⟩⟩⟩⟩⟩
theorem lw_p32 : lw_okq (⟨"WhyNotsModel", "isRelaxation", "(II)Z"⟩, 15) := ⟨⟨by decide +kernel, by decide +kernel⟩, List.mem_of_getElem? (i := 421) (by decide +kernel), List.mem_of_getElem? (i := 586) (by decide +kernel), List.mem_of_getElem? (i := 587) (by decide +kernel)⟩
theorem lw_p33 : lw_okq (⟨"WhyNotsModel", "setAt", "(IZ)I"⟩, 15) := ⟨⟨by decide +kernel, by decide +kernel⟩, List.mem_of_getElem? (i := 421) (by decide +kernel), List.mem_of_getElem? (i := 635) (by decide +kernel), List.mem_of_getElem? (i := 636) (by decide +kernel)⟩
theorem lw_p34 : lw_okq (⟨"WhyNotsModel", "rankOf", "(IZ)I"⟩, 15) := ⟨⟨by decide +kernel, by decide +kernel⟩, List.mem_of_getElem? (i := 421) (by decide +kernel), List.mem_of_getElem? (i := 639) (by decide +kernel), List.mem_of_getElem? (i := 640) (by decide +kernel)⟩
theorem lw_p35 : lw_okq (⟨"WhyNotsModel", "isPlan", "(IIIII)Z"⟩, 15) := ⟨⟨by decide +kernel, by decide +kernel⟩, List.mem_of_getElem? (i := 421) (by decide +kernel), List.mem_of_getElem? (i := 662) (by decide +kernel), List.mem_of_getElem? (i := 663) (by decide +kernel)⟩
def lw_privs_3 : List (MethodName × Nat) := [(⟨"WhyNotsModel", "isRelaxation", "(II)Z"⟩, 15), (⟨"WhyNotsModel", "setAt", "(IZ)I"⟩, 15), (⟨"WhyNotsModel", "rankOf", "(IZ)I"⟩, 15), (⟨"WhyNotsModel", "isPlan", "(IIIII)Z"⟩, 15)]
theorem lw_r3 : ∀ q ∈ lw_privs_3, lw_okq q := List.forall_mem_cons.mpr ⟨lw_p32, List.forall_mem_cons.mpr ⟨lw_p33, List.forall_mem_cons.mpr ⟨lw_p34, List.forall_mem_cons.mpr ⟨lw_p35, fun _ h => absurd h List.not_mem_nil⟩⟩⟩⟩
def lw_privs : List (MethodName × Nat) := lw_privs_1 ++ (lw_privs_2 ++ (lw_privs_3))
def lw_tbl : List Cond := k2_sels lw_privs ++ tables_1
theorem lw_privs_ok : ∀ q ∈ lw_privs, lw_okq q := by
  show ∀ q ∈ lw_privs_1 ++ (lw_privs_2 ++ (lw_privs_3)), lw_okq q
  exact List.forall_mem_append.mpr ⟨lw_r1, List.forall_mem_append.mpr ⟨lw_r2, lw_r3⟩⟩
def RX0 : String := "WhyNots$Choices"
def TX0 : u_T := fun k => match k with
  | 0 => ("WhyNots$Choices", "size", "I", false)
  | 1 => ("WhyNots$Choices", "plans", "I", false)
  | 2 => ("WhyNots$Choices", "candidates", "[I", true)
  | 3 => ("WhyNots$Choices", "steps", "[I", true)
  | 4 => ("WhyNots$Choices", "worths", "[I", true)
  | _ => ("WhyNots$Choices", "sums", "[I", true)
def tyX0 : Nat → FieldType := fun k => match k with
  | 0 => .int
  | 1 => .int
  | 2 => .array .int
  | 3 => .array .int
  | 4 => .array .int
  | _ => .array .int
theorem nmX0 : ∀ a, a < 6 → ∀ b, b < 6 → a ≠ b → (TX0 a).2.1 ≠ (TX0 b).2.1 := by decide +kernel
theorem tyX0_ok : ∀ k, k < 6 → parseFieldDescriptor (TX0 k).2.2.1 = some (tyX0 k) := by decide +kernel
abbrev cX0_init : ByteArray := prog_2_method_1_code
def yX0_init : MethodName := ⟨RX0, "<init>", "()V"⟩
abbrev cX0_has : ByteArray := prog_2_method_2_code
def yX0_has : MethodName := ⟨RX0, "has", "(I)Z"⟩
abbrev cX0_hasCandidate : ByteArray := prog_2_method_3_code
def yX0_hasCandidate : MethodName := ⟨RX0, "hasCandidate", "(II)Z"⟩
abbrev cX0_add : ByteArray := prog_2_method_4_code
def yX0_add : MethodName := ⟨RX0, "add", "(I)V"⟩
abbrev cX0_changeWorth : ByteArray := prog_2_method_5_code
def yX0_changeWorth : MethodName := ⟨RX0, "changeWorth", "(III)I"⟩
abbrev cX0_taken : ByteArray := prog_2_method_6_code
def yX0_taken : MethodName := ⟨RX0, "taken", "(II)I"⟩
abbrev cX0_read : ByteArray := prog_2_method_7_code
def yX0_read : MethodName := ⟨RX0, "read", "(I[I)V"⟩
abbrev cX0_numberOf : ByteArray := prog_2_method_8_code
def yX0_numberOf : MethodName := ⟨RX0, "numberOf", "([I)I"⟩
def RX1 : String := "WhyNots$Listing"
def TX1 : u_T := fun k => match k with
  | 0 => ("WhyNots$Listing", "size", "I", false)
  | 1 => ("WhyNots$Listing", "members", "[I", true)
  | _ => ("WhyNots$Listing", "keys", "[I", true)
def tyX1 : Nat → FieldType := fun k => match k with
  | 0 => .int
  | 1 => .array .int
  | _ => .array .int
theorem nmX1 : ∀ a, a < 3 → ∀ b, b < 3 → a ≠ b → (TX1 a).2.1 ≠ (TX1 b).2.1 := by decide +kernel
theorem tyX1_ok : ∀ k, k < 3 → parseFieldDescriptor (TX1 k).2.2.1 = some (tyX1 k) := by decide +kernel
abbrev cX1_init : ByteArray := prog_3_method_1_code
def yX1_init : MethodName := ⟨RX1, "<init>", "()V"⟩
abbrev cX1_clear : ByteArray := prog_3_method_2_code
def yX1_clear : MethodName := ⟨RX1, "clear", "()V"⟩
abbrev cX1_put : ByteArray := prog_3_method_3_code
def yX1_put : MethodName := ⟨RX1, "put", "(II)V"⟩
abbrev cX1_at : ByteArray := prog_3_method_4_code
def yX1_at : MethodName := ⟨RX1, "at", "(I)I"⟩
def RX2 : String := "WhyNots$Rules"
def TX2 : u_T := fun k => match k with
  | 0 => ("WhyNots$Rules", "size", "I", false)
  | 1 => ("WhyNots$Rules", "kinds", "[I", true)
  | 2 => ("WhyNots$Rules", "as", "[I", true)
  | 3 => ("WhyNots$Rules", "bs", "[I", true)
  | 4 => ("WhyNots$Rules", "ns", "[I", true)
  | 5 => ("WhyNots$Rules", "weights", "[I", true)
  | 6 => ("WhyNots$Rules", "modes", "[I", true)
  | _ => ("WhyNots$Rules", "costs", "[I", true)
def tyX2 : Nat → FieldType := fun k => match k with
  | 0 => .int
  | 1 => .array .int
  | 2 => .array .int
  | 3 => .array .int
  | 4 => .array .int
  | 5 => .array .int
  | 6 => .array .int
  | _ => .array .int
theorem nmX2 : ∀ a, a < 8 → ∀ b, b < 8 → a ≠ b → (TX2 a).2.1 ≠ (TX2 b).2.1 := by decide +kernel
theorem tyX2_ok : ∀ k, k < 8 → parseFieldDescriptor (TX2 k).2.2.1 = some (tyX2 k) := by decide +kernel
abbrev cX2_init : ByteArray := prog_4_method_1_code
def yX2_init : MethodName := ⟨RX2, "<init>", "()V"⟩
abbrev cX2_has : ByteArray := prog_4_method_2_code
def yX2_has : MethodName := ⟨RX2, "has", "(I)Z"⟩
abbrev cX2_sets : ByteArray := prog_4_method_3_code
def yX2_sets : MethodName := ⟨RX2, "sets", "()I"⟩
abbrev cX2_add : ByteArray := prog_4_method_4_code
def yX2_add : MethodName := ⟨RX2, "add", "(IIIII)I"⟩
abbrev cX2_changeWeight : ByteArray := prog_4_method_5_code
def yX2_changeWeight : MethodName := ⟨RX2, "changeWeight", "(II)I"⟩
abbrev cX2_inMode : ByteArray := prog_4_method_6_code
def yX2_inMode : MethodName := ⟨RX2, "inMode", "(I)I"⟩
abbrev cX2_isCheaper : ByteArray := prog_4_method_7_code
def yX2_isCheaper : MethodName := ⟨RX2, "isCheaper", "(II)Z"⟩
abbrev cX2_isKept : ByteArray := prog_4_method_8_code
def yX2_isKept : MethodName := ⟨RX2, "isKept", "(I[II)Z"⟩
abbrev cX2_howMany : ByteArray := prog_4_method_9_code
def yX2_howMany : MethodName := ⟨RX2, "howMany", "(I[II)I"⟩
abbrev cX2_together : ByteArray := prog_4_method_10_code
def yX2_together : MethodName := ⟨RX2, "together", "([II)I"⟩
def RX3 : String := "WhyNots$Top"
def TX3 : u_T := fun k => match k with
  | 0 => ("WhyNots$Top", "seen", "I", false)
  | 1 => ("WhyNots$Top", "greatest", "I", false)
  | 2 => ("WhyNots$Top", "first", "I", false)
  | _ => ("WhyNots$Top", "alike", "I", false)
def tyX3 : Nat → FieldType := fun k => match k with
  | 0 => .int
  | 1 => .int
  | 2 => .int
  | _ => .int
theorem nmX3 : ∀ a, a < 4 → ∀ b, b < 4 → a ≠ b → (TX3 a).2.1 ≠ (TX3 b).2.1 := by decide +kernel
theorem tyX3_ok : ∀ k, k < 4 → parseFieldDescriptor (TX3 k).2.2.1 = some (tyX3 k) := by decide +kernel
abbrev cX3_init : ByteArray := prog_5_method_1_code
def yX3_init : MethodName := ⟨RX3, "<init>", "()V"⟩
abbrev cX3_clear : ByteArray := prog_5_method_2_code
def yX3_clear : MethodName := ⟨RX3, "clear", "()V"⟩
abbrev cX3_see : ByteArray := prog_5_method_3_code
def yX3_see : MethodName := ⟨RX3, "see", "(II)V"⟩
abbrev cX3_lacksAgainst : ByteArray := prog_5_method_4_code
def yX3_lacksAgainst : MethodName := ⟨RX3, "lacksAgainst", "(LWhyNots$Top;)I"⟩
def RX4 : String := "WhyNots"
def TX4 : u_T := fun k => match k with
  | 0 => ("WhyNots", "choices", "LWhyNots$Choices;", true)
  | 1 => ("WhyNots", "rules", "LWhyNots$Rules;", true)
  | 2 => ("WhyNots", "broken", "[I", true)
  | 3 => ("WhyNots", "row", "[I", true)
  | 4 => ("WhyNots", "whole", "LWhyNots$Top;", true)
  | 5 => ("WhyNots", "wholeIsStale", "Z", false)
  | 6 => ("WhyNots", "with", "LWhyNots$Top;", true)
  | 7 => ("WhyNots", "without", "LWhyNots$Top;", true)
  | 8 => ("WhyNots", "possible", "[Z", true)
  | 9 => ("WhyNots", "clashes", "LWhyNots$Listing;", true)
  | 10 => ("WhyNots", "relaxations", "LWhyNots$Listing;", true)
  | _ => ("WhyNots", "setsAreStale", "Z", false)
def tyX4 : Nat → FieldType := fun k => match k with
  | 0 => .object "WhyNots$Choices"
  | 1 => .object "WhyNots$Rules"
  | 2 => .array .int
  | 3 => .array .int
  | 4 => .object "WhyNots$Top"
  | 5 => .boolean
  | 6 => .object "WhyNots$Top"
  | 7 => .object "WhyNots$Top"
  | 8 => .array .boolean
  | 9 => .object "WhyNots$Listing"
  | 10 => .object "WhyNots$Listing"
  | _ => .boolean
theorem nmX4 : ∀ a, a < 12 → ∀ b, b < 12 → a ≠ b → (TX4 a).2.1 ≠ (TX4 b).2.1 := by decide +kernel
theorem tyX4_ok : ∀ k, k < 12 → parseFieldDescriptor (TX4 k).2.2.1 = some (tyX4 k) := by decide +kernel
abbrev cX4_init : ByteArray := prog_1_method_1_code
def yX4_init : MethodName := ⟨RX4, "<init>", "()V"⟩
abbrev cX4_choice : ByteArray := prog_1_method_2_code
def yX4_choice : MethodName := ⟨RX4, "choice", "(I)I"⟩
abbrev cX4_worth : ByteArray := prog_1_method_3_code
def yX4_worth : MethodName := ⟨RX4, "worth", "(III)I"⟩
abbrev cX4_rule : ByteArray := prog_1_method_4_code
def yX4_rule : MethodName := ⟨RX4, "rule", "(IIIII)I"⟩
abbrev cX4_mode : ByteArray := prog_1_method_5_code
def yX4_mode : MethodName := ⟨RX4, "mode", "(II)I"⟩
abbrev cX4_weigh : ByteArray := prog_1_method_6_code
def yX4_weigh : MethodName := ⟨RX4, "weigh", "(II)I"⟩
abbrev cX4_told : ByteArray := prog_1_method_7_code
def yX4_told : MethodName := ⟨RX4, "told", "(II)I"⟩
abbrev cX4_count : ByteArray := prog_1_method_8_code
def yX4_count : MethodName := ⟨RX4, "count", "(I)I"⟩
abbrev cX4_best : ByteArray := prog_1_method_9_code
def yX4_best : MethodName := ⟨RX4, "best", "()I"⟩
abbrev cX4_pick : ByteArray := prog_1_method_10_code
def yX4_pick : MethodName := ⟨RX4, "pick", "(I)I"⟩
abbrev cX4_fixed : ByteArray := prog_1_method_11_code
def yX4_fixed : MethodName := ⟨RX4, "fixed", "(I)I"⟩
abbrev cX4_force : ByteArray := prog_1_method_12_code
def yX4_force : MethodName := ⟨RX4, "force", "(II)I"⟩
abbrev cX4_forced : ByteArray := prog_1_method_13_code
def yX4_forced : MethodName := ⟨RX4, "forced", "(III)I"⟩
abbrev cX4_avoid : ByteArray := prog_1_method_14_code
def yX4_avoid : MethodName := ⟨RX4, "avoid", "(II)I"⟩
abbrev cX4_raise : ByteArray := prog_1_method_15_code
def yX4_raise : MethodName := ⟨RX4, "raise", "(II)I"⟩
abbrev cX4_lower : ByteArray := prog_1_method_16_code
def yX4_lower : MethodName := ⟨RX4, "lower", "(II)I"⟩
abbrev cX4_needs : ByteArray := prog_1_method_17_code
def yX4_needs : MethodName := ⟨RX4, "needs", "(II)I"⟩
abbrev cX4_clash : ByteArray := prog_1_method_18_code
def yX4_clash : MethodName := ⟨RX4, "clash", "()I"⟩
abbrev cX4_clashAt : ByteArray := prog_1_method_19_code
def yX4_clashAt : MethodName := ⟨RX4, "clashAt", "(I)I"⟩
abbrev cX4_relaxAt : ByteArray := prog_1_method_20_code
def yX4_relaxAt : MethodName := ⟨RX4, "relaxAt", "(I)I"⟩
abbrev cX4_cost : ByteArray := prog_1_method_21_code
def yX4_cost : MethodName := ⟨RX4, "cost", "(I)I"⟩
abbrev cX4_price : ByteArray := prog_1_method_22_code
def yX4_price : MethodName := ⟨RX4, "price", "(I)I"⟩
abbrev cX4_breaks : ByteArray := prog_1_method_23_code
def yX4_breaks : MethodName := ⟨RX4, "breaks", "(IIIII)I"⟩
abbrev cX4_score : ByteArray := prog_1_method_24_code
def yX4_score : MethodName := ⟨RX4, "score", "(IIIII)I"⟩
abbrev cX4_forgetAll : ByteArray := prog_1_method_25_code
def yX4_forgetAll : MethodName := ⟨RX4, "forgetAll", "()V"⟩
abbrev cX4_isWeight : ByteArray := prog_1_method_26_code
def yX4_isWeight : MethodName := ⟨RX4, "isWeight", "(I)Z"⟩
abbrev cX4_namesNoChoice : ByteArray := prog_1_method_27_code
def yX4_namesNoChoice : MethodName := ⟨RX4, "namesNoChoice", "(III)Z"⟩
abbrev cX4_isWellTold : ByteArray := prog_1_method_28_code
def yX4_isWellTold : MethodName := ⟨RX4, "isWellTold", "(IIII)Z"⟩
abbrev cX4_judgeFrom : ByteArray := prog_1_method_29_code
def yX4_judgeFrom : MethodName := ⟨RX4, "judgeFrom", "(I)V"⟩
abbrev cX4_planOf : ByteArray := prog_1_method_30_code
def yX4_planOf : MethodName := ⟨RX4, "planOf", "(IIIII)I"⟩
abbrev cX4_scoreWith : ByteArray := prog_1_method_31_code
def yX4_scoreWith : MethodName := ⟨RX4, "scoreWith", "(II)I"⟩
abbrev cX4_lookAtAll : ByteArray := prog_1_method_32_code
def yX4_lookAtAll : MethodName := ⟨RX4, "lookAtAll", "(LWhyNots$Top;II)V"⟩
abbrev cX4_findWhole : ByteArray := prog_1_method_33_code
def yX4_findWhole : MethodName := ⟨RX4, "findWhole", "()V"⟩
abbrev cX4_findParts : ByteArray := prog_1_method_34_code
def yX4_findParts : MethodName := ⟨RX4, "findParts", "(II)V"⟩
abbrev cX4_findSets : ByteArray := prog_1_method_35_code
def yX4_findSets : MethodName := ⟨RX4, "findSets", "()V"⟩
abbrev cX4_findPossible : ByteArray := prog_1_method_36_code
def yX4_findPossible : MethodName := ⟨RX4, "findPossible", "(I)V"⟩
abbrev cX4_listSets : ByteArray := prog_1_method_37_code
def yX4_listSets : MethodName := ⟨RX4, "listSets", "(I)V"⟩
abbrev cX4_isClash : ByteArray := prog_1_method_38_code
def yX4_isClash : MethodName := ⟨RX4, "isClash", "(I)Z"⟩
abbrev cX4_isRelaxation : ByteArray := prog_1_method_39_code
def yX4_isRelaxation : MethodName := ⟨RX4, "isRelaxation", "(II)Z"⟩
def RX5 : String := "WhyNotsModel"
def TX5 : u_T := fun k => match k with
  | 0 => ("WhyNotsModel", "choices", "I", false)
  | 1 => ("WhyNotsModel", "many", "[I", true)
  | 2 => ("WhyNotsModel", "worths", "[I", true)
  | 3 => ("WhyNotsModel", "rules", "I", false)
  | 4 => ("WhyNotsModel", "kinds", "[I", true)
  | 5 => ("WhyNotsModel", "as", "[I", true)
  | 6 => ("WhyNotsModel", "bs", "[I", true)
  | 7 => ("WhyNotsModel", "ns", "[I", true)
  | 8 => ("WhyNotsModel", "weights", "[I", true)
  | 9 => ("WhyNotsModel", "modes", "[I", true)
  | 10 => ("WhyNotsModel", "broken", "[I", true)
  | 11 => ("WhyNotsModel", "isFresh", "Z", false)
  | 12 => ("WhyNotsModel", "can", "[Z", true)
  | 13 => ("WhyNotsModel", "x", "[I", true)
  | _ => ("WhyNotsModel", "greatest", "I", false)
def tyX5 : Nat → FieldType := fun k => match k with
  | 0 => .int
  | 1 => .array .int
  | 2 => .array .int
  | 3 => .int
  | 4 => .array .int
  | 5 => .array .int
  | 6 => .array .int
  | 7 => .array .int
  | 8 => .array .int
  | 9 => .array .int
  | 10 => .array .int
  | 11 => .boolean
  | 12 => .array .boolean
  | 13 => .array .int
  | _ => .int
theorem nmX5 : ∀ a, a < 15 → ∀ b, b < 15 → a ≠ b → (TX5 a).2.1 ≠ (TX5 b).2.1 := by decide +kernel
theorem tyX5_ok : ∀ k, k < 15 → parseFieldDescriptor (TX5 k).2.2.1 = some (tyX5 k) := by decide +kernel
abbrev cX5_init : ByteArray := prog_7_method_1_code
def yX5_init : MethodName := ⟨RX5, "<init>", "()V"⟩
abbrev cX5_in : ByteArray := prog_7_method_2_code
def yX5_in : MethodName := ⟨RX5, "in", "(III)Z"⟩
abbrev cX5_isChoice : ByteArray := prog_7_method_3_code
def yX5_isChoice : MethodName := ⟨RX5, "isChoice", "(I)Z"⟩
abbrev cX5_isCandidate : ByteArray := prog_7_method_4_code
def yX5_isCandidate : MethodName := ⟨RX5, "isCandidate", "(II)Z"⟩
abbrev cX5_isRule : ByteArray := prog_7_method_5_code
def yX5_isRule : MethodName := ⟨RX5, "isRule", "(I)Z"⟩
abbrev cX5_choice : ByteArray := prog_7_method_6_code
def yX5_choice : MethodName := ⟨RX5, "choice", "(I)I"⟩
abbrev cX5_worth : ByteArray := prog_7_method_7_code
def yX5_worth : MethodName := ⟨RX5, "worth", "(III)I"⟩
abbrev cX5_isRight : ByteArray := prog_7_method_8_code
def yX5_isRight : MethodName := ⟨RX5, "isRight", "(IIII)Z"⟩
abbrev cX5_rule : ByteArray := prog_7_method_9_code
def yX5_rule : MethodName := ⟨RX5, "rule", "(IIIII)I"⟩
abbrev cX5_mode : ByteArray := prog_7_method_10_code
def yX5_mode : MethodName := ⟨RX5, "mode", "(II)I"⟩
abbrev cX5_weigh : ByteArray := prog_7_method_11_code
def yX5_weigh : MethodName := ⟨RX5, "weigh", "(II)I"⟩
abbrev cX5_told : ByteArray := prog_7_method_12_code
def yX5_told : MethodName := ⟨RX5, "told", "(II)I"⟩
abbrev cX5_plans : ByteArray := prog_7_method_13_code
def yX5_plans : MethodName := ⟨RX5, "plans", "()I"⟩
abbrev cX5_lay : ByteArray := prog_7_method_14_code
def yX5_lay : MethodName := ⟨RX5, "lay", "(I)V"⟩
abbrev cX5_keeps : ByteArray := prog_7_method_15_code
def yX5_keeps : MethodName := ⟨RX5, "keeps", "(I)Z"⟩
abbrev cX5_breaksNow : ByteArray := prog_7_method_16_code
def yX5_breaksNow : MethodName := ⟨RX5, "breaksNow", "()I"⟩
abbrev cX5_freshen : ByteArray := prog_7_method_17_code
def yX5_freshen : MethodName := ⟨RX5, "freshen", "()V"⟩
abbrev cX5_ofMode : ByteArray := prog_7_method_18_code
def yX5_ofMode : MethodName := ⟨RX5, "ofMode", "(I)I"⟩
abbrev cX5_costOf : ByteArray := prog_7_method_19_code
def yX5_costOf : MethodName := ⟨RX5, "costOf", "(I)I"⟩
abbrev cX5_takes : ByteArray := prog_7_method_20_code
def yX5_takes : MethodName := ⟨RX5, "takes", "(II)I"⟩
abbrev cX5_scoreNow : ByteArray := prog_7_method_21_code
def yX5_scoreNow : MethodName := ⟨RX5, "scoreNow", "(II)I"⟩
abbrev cX5_scoreOf : ByteArray := prog_7_method_22_code
def yX5_scoreOf : MethodName := ⟨RX5, "scoreOf", "(II)I"⟩
abbrev cX5_first : ByteArray := prog_7_method_23_code
def yX5_first : MethodName := ⟨RX5, "first", "(IIIII)I"⟩
abbrev cX5_firstBest : ByteArray := prog_7_method_24_code
def yX5_firstBest : MethodName := ⟨RX5, "firstBest", "()I"⟩
abbrev cX5_findCan : ByteArray := prog_7_method_25_code
def yX5_findCan : MethodName := ⟨RX5, "findCan", "()V"⟩
abbrev cX5_isClash : ByteArray := prog_7_method_26_code
def yX5_isClash : MethodName := ⟨RX5, "isClash", "(II)Z"⟩
abbrev cX5_isRelaxation : ByteArray := prog_7_method_27_code
def yX5_isRelaxation : MethodName := ⟨RX5, "isRelaxation", "(II)Z"⟩
abbrev cX5_sizeOf : ByteArray := prog_7_method_28_code
def yX5_sizeOf : MethodName := ⟨RX5, "sizeOf", "(I)I"⟩
abbrev cX5_rankOf : ByteArray := prog_7_method_29_code
def yX5_rankOf : MethodName := ⟨RX5, "rankOf", "(IZ)I"⟩
abbrev cX5_manySets : ByteArray := prog_7_method_30_code
def yX5_manySets : MethodName := ⟨RX5, "manySets", "(Z)I"⟩
abbrev cX5_setAt : ByteArray := prog_7_method_31_code
def yX5_setAt : MethodName := ⟨RX5, "setAt", "(IZ)I"⟩
abbrev cX5_standing : ByteArray := prog_7_method_32_code
def yX5_standing : MethodName := ⟨RX5, "standing", "(ZI)I"⟩
abbrev cX5_count : ByteArray := prog_7_method_33_code
def yX5_count : MethodName := ⟨RX5, "count", "(I)I"⟩
abbrev cX5_best : ByteArray := prog_7_method_34_code
def yX5_best : MethodName := ⟨RX5, "best", "()I"⟩
abbrev cX5_pick : ByteArray := prog_7_method_35_code
def yX5_pick : MethodName := ⟨RX5, "pick", "(I)I"⟩
abbrev cX5_fixed : ByteArray := prog_7_method_36_code
def yX5_fixed : MethodName := ⟨RX5, "fixed", "(I)I"⟩
abbrev cX5_force : ByteArray := prog_7_method_37_code
def yX5_force : MethodName := ⟨RX5, "force", "(II)I"⟩
abbrev cX5_forced : ByteArray := prog_7_method_38_code
def yX5_forced : MethodName := ⟨RX5, "forced", "(III)I"⟩
abbrev cX5_avoid : ByteArray := prog_7_method_39_code
def yX5_avoid : MethodName := ⟨RX5, "avoid", "(II)I"⟩
abbrev cX5_raise : ByteArray := prog_7_method_40_code
def yX5_raise : MethodName := ⟨RX5, "raise", "(II)I"⟩
abbrev cX5_lower : ByteArray := prog_7_method_41_code
def yX5_lower : MethodName := ⟨RX5, "lower", "(II)I"⟩
abbrev cX5_needs : ByteArray := prog_7_method_42_code
def yX5_needs : MethodName := ⟨RX5, "needs", "(II)I"⟩
abbrev cX5_clash : ByteArray := prog_7_method_43_code
def yX5_clash : MethodName := ⟨RX5, "clash", "()I"⟩
abbrev cX5_clashAt : ByteArray := prog_7_method_44_code
def yX5_clashAt : MethodName := ⟨RX5, "clashAt", "(I)I"⟩
abbrev cX5_relaxAt : ByteArray := prog_7_method_45_code
def yX5_relaxAt : MethodName := ⟨RX5, "relaxAt", "(I)I"⟩
abbrev cX5_cost : ByteArray := prog_7_method_46_code
def yX5_cost : MethodName := ⟨RX5, "cost", "(I)I"⟩
abbrev cX5_price : ByteArray := prog_7_method_47_code
def yX5_price : MethodName := ⟨RX5, "price", "(I)I"⟩
abbrev cX5_isPlan : ByteArray := prog_7_method_48_code
def yX5_isPlan : MethodName := ⟨RX5, "isPlan", "(IIIII)Z"⟩
abbrev cX5_breaks : ByteArray := prog_7_method_49_code
def yX5_breaks : MethodName := ⟨RX5, "breaks", "(IIIII)I"⟩
abbrev cX5_score : ByteArray := prog_7_method_50_code
def yX5_score : MethodName := ⟨RX5, "score", "(IIIII)I"⟩
def RJ6 : String := "java/lang/Integer"
abbrev cJ6_bitCount_0f7a4 : ByteArray := prog_8_method_49_code
def yJ6_bitCount_0f7a4 : MethodName := ⟨RJ6, "bitCount", "(I)I"⟩
def RJ9 : String := "java/lang/Math"
abbrev cJ9_abs_0f7a4 : ByteArray := prog_9_method_59_code
def yJ9_abs_0f7a4 : MethodName := ⟨RJ9, "abs", "(I)I"⟩
abbrev cJ9_max_7cf53 : ByteArray := prog_9_method_65_code
def yJ9_max_7cf53 : MethodName := ⟨RJ9, "max", "(II)I"⟩
def RL : String := "WhyNotsLaw"
abbrev cL_law : ByteArray := code
def yL_law : MethodName := ⟨RL, "law", "([I)Z"⟩
abbrev vwCl : List vw_C := [(RX0, TX0, 6), (RX1, TX1, 3), (RX2, TX2, 8), (RX3, TX3, 4), (RX4, TX4, 12), (RX5, TX5, 15)]
abbrev nw_Own : List String := [RX0, RX1, RX2, RX3, RX4, RX5, RJ6, RJ9, RL]
/-- a method: name, code, locals, answer, how many parameters, static, own number, level of calls -/
abbrev nw_MT : Type := MethodName × ByteArray × Nat × Option FieldType × Nat × Bool × Nat × Nat
def nw_mTab : List nw_MT := [
  (yX0_init, cX0_init, 1, none, 0, false, 0, 0),
  (yX0_has, cX0_has, 2, (some .boolean), 1, false, 0, 0),
  (yX0_hasCandidate, cX0_hasCandidate, 3, (some .boolean), 2, false, 0, 1),
  (yX0_add, cX0_add, 4, none, 1, false, 0, 0),
  (yX0_changeWorth, cX0_changeWorth, 7, (some .int), 3, false, 0, 1),
  (yX0_taken, cX0_taken, 5, (some .int), 2, false, 0, 0),
  (yX0_read, cX0_read, 4, none, 2, false, 0, 1),
  (yX0_numberOf, cX0_numberOf, 4, (some .int), 1, false, 0, 2),
  (yX1_init, cX1_init, 1, none, 0, false, 1, 0),
  (yX1_clear, cX1_clear, 1, none, 0, false, 1, 0),
  (yX1_put, cX1_put, 4, none, 2, false, 1, 0),
  (yX1_at, cX1_at, 2, (some .int), 1, false, 1, 0),
  (yX2_init, cX2_init, 1, none, 0, false, 2, 0),
  (yX2_has, cX2_has, 2, (some .boolean), 1, false, 2, 0),
  (yX2_sets, cX2_sets, 1, (some .int), 0, false, 2, 0),
  (yX2_add, cX2_add, 9, (some .int), 5, false, 2, 1),
  (yX2_changeWeight, cX2_changeWeight, 6, (some .int), 2, false, 2, 1),
  (yX2_inMode, cX2_inMode, 4, (some .int), 1, false, 2, 0),
  (yX2_isCheaper, cX2_isCheaper, 3, (some .boolean), 2, false, 2, 0),
  (yX2_isKept, cX2_isKept, 8, (some .boolean), 3, false, 2, 1),
  (yX2_howMany, cX2_howMany, 5, (some .int), 3, true, 2, 0),
  (yX2_together, cX2_together, 4, (some .int), 2, true, 2, 0),
  (yX3_init, cX3_init, 1, none, 0, false, 3, 0),
  (yX3_clear, cX3_clear, 1, none, 0, false, 3, 0),
  (yX3_see, cX3_see, 3, none, 2, false, 3, 0),
  (yX3_lacksAgainst, cX3_lacksAgainst, 3, (some .int), 1, false, 3, 1),
  (yX4_init, cX4_init, 1, none, 0, false, 4, 0),
  (yX4_choice, cX4_choice, 2, (some .int), 1, false, 4, 3),
  (yX4_worth, cX4_worth, 4, (some .int), 3, false, 4, 2),
  (yX4_rule, cX4_rule, 7, (some .int), 5, false, 4, 3),
  (yX4_mode, cX4_mode, 4, (some .int), 2, false, 4, 1),
  (yX4_weigh, cX4_weigh, 3, (some .int), 2, false, 4, 2),
  (yX4_told, cX4_told, 3, (some .int), 2, false, 4, 1),
  (yX4_count, cX4_count, 2, (some .int), 1, false, 4, 3),
  (yX4_best, cX4_best, 1, (some .int), 0, false, 4, 3),
  (yX4_pick, cX4_pick, 2, (some .int), 1, false, 4, 3),
  (yX4_fixed, cX4_fixed, 6, (some .int), 1, false, 4, 3),
  (yX4_force, cX4_force, 3, (some .int), 2, false, 4, 2),
  (yX4_forced, cX4_forced, 4, (some .int), 3, false, 4, 2),
  (yX4_avoid, cX4_avoid, 3, (some .int), 2, false, 4, 2),
  (yX4_raise, cX4_raise, 3, (some .int), 2, false, 4, 2),
  (yX4_lower, cX4_lower, 3, (some .int), 2, false, 4, 2),
  (yX4_needs, cX4_needs, 7, (some .int), 2, false, 4, 2),
  (yX4_clash, cX4_clash, 4, (some .int), 0, false, 4, 3),
  (yX4_clashAt, cX4_clashAt, 2, (some .int), 1, false, 4, 3),
  (yX4_relaxAt, cX4_relaxAt, 2, (some .int), 1, false, 4, 3),
  (yX4_cost, cX4_cost, 2, (some .int), 1, false, 4, 1),
  (yX4_price, cX4_price, 3, (some .int), 1, false, 4, 3),
  (yX4_breaks, cX4_breaks, 7, (some .int), 5, false, 4, 4),
  (yX4_score, cX4_score, 7, (some .int), 5, false, 4, 4),
  (yX4_forgetAll, cX4_forgetAll, 1, none, 0, false, 4, 0),
  (yX4_isWeight, cX4_isWeight, 1, (some .boolean), 1, true, 4, 0),
  (yX4_namesNoChoice, cX4_namesNoChoice, 4, (some .boolean), 3, false, 4, 1),
  (yX4_isWellTold, cX4_isWellTold, 4, (some .boolean), 4, true, 4, 0),
  (yX4_judgeFrom, cX4_judgeFrom, 6, none, 1, false, 4, 2),
  (yX4_planOf, cX4_planOf, 6, (some .int), 5, false, 4, 3),
  (yX4_scoreWith, cX4_scoreWith, 3, (some .int), 2, false, 4, 0),
  (yX4_lookAtAll, cX4_lookAtAll, 5, none, 3, false, 4, 1),
  (yX4_findWhole, cX4_findWhole, 1, none, 0, false, 4, 2),
  (yX4_findParts, cX4_findParts, 7, none, 2, false, 4, 1),
  (yX4_findSets, cX4_findSets, 2, none, 0, false, 4, 2),
  (yX4_findPossible, cX4_findPossible, 6, none, 1, false, 4, 1),
  (yX4_listSets, cX4_listSets, 4, none, 1, false, 4, 1),
  (yX4_isClash, cX4_isClash, 4, (some .boolean), 1, false, 4, 0),
  (yX4_isRelaxation, cX4_isRelaxation, 6, (some .boolean), 2, false, 4, 0),
  (yX5_init, cX5_init, 1, none, 0, false, 5, 0),
  (yX5_in, cX5_in, 3, (some .boolean), 3, true, 5, 0),
  (yX5_isChoice, cX5_isChoice, 2, (some .boolean), 1, false, 5, 1),
  (yX5_isCandidate, cX5_isCandidate, 3, (some .boolean), 2, false, 5, 2),
  (yX5_isRule, cX5_isRule, 2, (some .boolean), 1, false, 5, 1),
  (yX5_choice, cX5_choice, 2, (some .int), 1, false, 5, 1),
  (yX5_worth, cX5_worth, 5, (some .int), 3, false, 5, 3),
  (yX5_isRight, cX5_isRight, 4, (some .boolean), 4, true, 5, 1),
  (yX5_rule, cX5_rule, 8, (some .int), 5, false, 5, 2),
  (yX5_mode, cX5_mode, 4, (some .int), 2, false, 5, 2),
  (yX5_weigh, cX5_weigh, 4, (some .int), 2, false, 5, 2),
  (yX5_told, cX5_told, 3, (some .int), 2, false, 5, 2),
  (yX5_plans, cX5_plans, 3, (some .int), 0, false, 5, 0),
  (yX5_lay, cX5_lay, 4, none, 1, false, 5, 0),
  (yX5_keeps, cX5_keeps, 8, (some .boolean), 1, false, 5, 0),
  (yX5_breaksNow, cX5_breaksNow, 3, (some .int), 0, false, 5, 1),
  (yX5_freshen, cX5_freshen, 3, none, 0, false, 5, 2),
  (yX5_ofMode, cX5_ofMode, 4, (some .int), 1, false, 5, 0),
  (yX5_costOf, cX5_costOf, 4, (some .int), 1, false, 5, 0),
  (yX5_takes, cX5_takes, 3, (some .int), 2, false, 5, 1),
  (yX5_scoreNow, cX5_scoreNow, 5, (some .int), 2, false, 5, 1),
  (yX5_scoreOf, cX5_scoreOf, 3, (some .int), 2, false, 5, 2),
  (yX5_first, cX5_first, 11, (some .int), 5, false, 5, 3),
  (yX5_firstBest, cX5_firstBest, 1, (some .int), 0, false, 5, 4),
  (yX5_findCan, cX5_findCan, 5, none, 0, false, 5, 3),
  (yX5_isClash, cX5_isClash, 5, (some .boolean), 2, false, 5, 0),
  (yX5_isRelaxation, cX5_isRelaxation, 5, (some .boolean), 2, false, 5, 0),
  (yX5_sizeOf, cX5_sizeOf, 3, (some .int), 1, true, 5, 0),
  (yX5_rankOf, cX5_rankOf, 3, (some .int), 2, false, 5, 1),
  (yX5_manySets, cX5_manySets, 5, (some .int), 1, false, 5, 4),
  (yX5_setAt, cX5_setAt, 10, (some .int), 2, false, 5, 4),
  (yX5_standing, cX5_standing, 8, (some .int), 2, false, 5, 3),
  (yX5_count, cX5_count, 2, (some .int), 1, false, 5, 5),
  (yX5_best, cX5_best, 1, (some .int), 0, false, 5, 5),
  (yX5_pick, cX5_pick, 3, (some .int), 1, false, 5, 5),
  (yX5_fixed, cX5_fixed, 8, (some .int), 1, false, 5, 5),
  (yX5_force, cX5_force, 3, (some .int), 2, false, 5, 4),
  (yX5_forced, cX5_forced, 5, (some .int), 3, false, 5, 4),
  (yX5_avoid, cX5_avoid, 3, (some .int), 2, false, 5, 4),
  (yX5_raise, cX5_raise, 8, (some .int), 2, false, 5, 4),
  (yX5_lower, cX5_lower, 8, (some .int), 2, false, 5, 4),
  (yX5_needs, cX5_needs, 9, (some .int), 2, false, 5, 3),
  (yX5_clash, cX5_clash, 3, (some .int), 0, false, 5, 4),
  (yX5_clashAt, cX5_clashAt, 2, (some .int), 1, false, 5, 5),
  (yX5_relaxAt, cX5_relaxAt, 2, (some .int), 1, false, 5, 5),
  (yX5_cost, cX5_cost, 2, (some .int), 1, false, 5, 1),
  (yX5_price, cX5_price, 5, (some .int), 1, false, 5, 5),
  (yX5_isPlan, cX5_isPlan, 7, (some .boolean), 5, false, 5, 3),
  (yX5_breaks, cX5_breaks, 6, (some .int), 5, false, 5, 4),
  (yX5_score, cX5_score, 6, (some .int), 5, false, 5, 4),
  (yJ6_bitCount_0f7a4, cJ6_bitCount_0f7a4, 1, (some .int), 1, true, 6, 0),
  (yJ9_abs_0f7a4, cJ9_abs_0f7a4, 1, (some .int), 1, true, 7, 0),
  (yJ9_max_7cf53, cJ9_max_7cf53, 2, (some .int), 2, true, 7, 0),
  (yL_law, cL_law, 4, (some .boolean), 1, true, 8, 6)]
def nw_cd1 : List (List (Option Instr)) := [
  [some (.iload_n 1), some (.ifCond .lt 15), none, none, some (.iload_n 1), some (.aload_n 0), some (.getfield 9), none, none, some (.if_icmp .ge 7), none, none, some (.iconst 1), some (.goto 4), none, none],
  [some (.iconst 0), some (.ireturn), none, none, none, none, none, none, none, none, none, none, none, none, none, none]]
def nw_cd2 : List (List (Option Instr)) := [
  [some (.aload_n 0), some (.iload_n 1), some (.invokevirtual 31), none, none, some (.ifCond .eq 21), none, none, some (.iload_n 2), some (.ifCond .lt 17), none, none, some (.iload_n 2), some (.aload_n 0), some (.getfield 18), none],
  [none, some (.iload_n 1), some (.iaload), some (.if_icmp .ge 7), none, none, some (.iconst 1), some (.goto 4), none, none, some (.iconst 0), some (.ireturn), none, none, none, none]]
def nw_cd3 : List (List (Option Instr)) := [
  [some (.aload_n 0), some (.getfield 15), none, none, some (.iconst 1), some (.isub), some (.istore_n 2), some (.iload_n 2), some (.ifCond .lt 39), none, none, some (.iload_n 1), some (.iconst 1), some (.isub), some (.istore_n 3), some (.iload_n 3)],
  [some (.ifCond .lt 25), none, none, some (.aload_n 0), some (.getfield 28), none, none, some (.iload_n 2), some (.iload_n 1), some (.imul), some (.iload_n 3), some (.iadd), some (.aload_n 0), some (.getfield 28), none, none],
  [some (.iload_n 2), some (.iaload), some (.iastore), some (.iinc 3 (-1)), none, none, some (.goto (-23)), none, none, some (.iinc 2 (-1)), none, none, some (.goto (-37)), none, none, some (.iconst 0)],
  [some (.istore_n 2), some (.iload_n 2), some (.aload_n 0), some (.getfield 9), none, none, some (.if_icmp .ge 19), none, none, some (.aload_n 0), some (.getfield 22), none, none, some (.iload_n 2), some (.dup2), some (.iaload)],
  [some (.iload_n 1), some (.imul), some (.iastore), some (.iinc 2 1), none, none, some (.goto (-21)), none, none, some (.aload_n 0), some (.getfield 18), none, none, some (.aload_n 0), some (.getfield 9), none],
  [none, some (.iload_n 1), some (.iastore), some (.aload_n 0), some (.getfield 22), none, none, some (.aload_n 0), some (.getfield 9), none, none, some (.iconst 1), some (.iastore), some (.aload_n 0), some (.dup), some (.getfield 9)],
  [none, none, some (.iconst 1), some (.iadd), some (.putfield 9), none, none, some (.aload_n 0), some (.dup), some (.getfield 15), none, none, some (.iload_n 1), some (.imul), some (.putfield 15), none],
  [none, some (.return_), none, none, none, none, none, none, none, none, none, none, none, none, none, none]]
def nw_cd4 : List (List (Option Instr)) := [
  [some (.iload_n 1), some (.bipush 6), none, some (.imul), some (.iload_n 2), some (.iadd), some (.istore 4), none, some (.aload_n 0), some (.getfield 25), none, none, some (.iload 4), none, some (.iaload), some (.istore 5)],
  [none, some (.aload_n 0), some (.getfield 25), none, none, some (.iload 4), none, some (.iload_n 3), some (.iastore), some (.iconst 0), some (.istore 6), none, some (.iload 6), none, some (.aload_n 0), some (.getfield 15)],
  [none, none, some (.if_icmp .ge 34), none, none, some (.aload_n 0), some (.iload 6), none, some (.iload_n 1), some (.invokevirtual 35), none, none, some (.iload_n 2), some (.if_icmp .ne 17), none, none],
  [some (.aload_n 0), some (.getfield 28), none, none, some (.iload 6), none, some (.dup2), some (.iaload), some (.iload_n 3), some (.iload 5), none, some (.isub), some (.iadd), some (.iastore), some (.iinc 6 1), none],
  [none, some (.goto (-37)), none, none, some (.iload 5), none, some (.ireturn), none, none, none, none, none, none, none, none, none]]
def nw_cd5 : List (List (Option Instr)) := [
  [some (.aload_n 0), some (.getfield 22), none, none, some (.iload_n 2), some (.iaload), some (.istore_n 3), some (.aload_n 0), some (.getfield 18), none, none, some (.iload_n 2), some (.iaload), some (.istore 4), none, some (.iload_n 3)],
  [some (.iconst 1), some (.if_icmp .lt 9), none, none, some (.iload 4), none, some (.iconst 1), some (.if_icmp .ge 7), none, none, some (.iconst 0), some (.goto 9), none, none, some (.iload_n 1), some (.iload_n 3)],
  [some (.idiv), some (.iload 4), none, some (.irem), some (.ireturn), none, none, none, none, none, none, none, none, none, none, none]]
def nw_cd6 : List (List (Option Instr)) := [
  [some (.iconst 0), some (.istore_n 3), some (.iload_n 3), some (.aload_n 0), some (.getfield 9), none, none, some (.if_icmp .ge 18), none, none, some (.aload_n 2), some (.iload_n 3), some (.aload_n 0), some (.iload_n 1), some (.iload_n 3), some (.invokevirtual 35)],
  [none, none, some (.iastore), some (.iinc 3 1), none, none, some (.goto (-20)), none, none, some (.return_), none, none, none, none, none, none]]
def nw_cd7 : List (List (Option Instr)) := [
  [some (.iconst 0), some (.istore_n 2), some (.iconst 0), some (.istore_n 3), some (.iload_n 3), some (.aload_n 0), some (.getfield 9), none, none, some (.if_icmp .ge 35), none, none, some (.aload_n 0), some (.iload_n 3), some (.aload_n 1), some (.iload_n 3)],
  [some (.iaload), some (.invokevirtual 39), none, none, some (.ifCond .ne 5), none, none, some (.iconst (-1)), some (.ireturn), some (.iload_n 2), some (.aload_n 1), some (.iload_n 3), some (.iaload), some (.aload_n 0), some (.getfield 22), none],
  [none, some (.iload_n 3), some (.iaload), some (.imul), some (.iadd), some (.istore_n 2), some (.iinc 3 1), none, none, some (.goto (-37)), none, none, some (.iload_n 2), some (.ireturn), none, none]]
def nw_cd9 : List (List (Option Instr)) := [
  [some (.aload_n 0), some (.iconst 0), some (.putfield 9), none, none, some (.return_), none, none, none, none, none, none, none, none, none, none]]
def nw_cd10 : List (List (Option Instr)) := [
  [some (.aload_n 0), some (.getfield 9), none, none, some (.sipush 924), none, none, some (.if_icmp .lt 4), none, none, some (.return_), some (.aload_n 0), some (.getfield 9), none, none, some (.istore_n 3)],
  [some (.iload_n 3), some (.ifCond .le 49), none, none, some (.aload_n 0), some (.getfield 19), none, none, some (.iload_n 3), some (.iconst 1), some (.isub), some (.iaload), some (.iload_n 2), some (.if_icmp .le 37), none, none],
  [some (.aload_n 0), some (.getfield 15), none, none, some (.iload_n 3), some (.aload_n 0), some (.getfield 15), none, none, some (.iload_n 3), some (.iconst 1), some (.isub), some (.iaload), some (.iastore), some (.aload_n 0), some (.getfield 19)],
  [none, none, some (.iload_n 3), some (.aload_n 0), some (.getfield 19), none, none, some (.iload_n 3), some (.iconst 1), some (.isub), some (.iaload), some (.iastore), some (.iinc 3 (-1)), none, none, some (.goto (-47))],
  [none, none, some (.aload_n 0), some (.getfield 15), none, none, some (.iload_n 3), some (.iload_n 1), some (.iastore), some (.aload_n 0), some (.getfield 19), none, none, some (.iload_n 3), some (.iload_n 2), some (.iastore)],
  [some (.aload_n 0), some (.dup), some (.getfield 9), none, none, some (.iconst 1), some (.iadd), some (.putfield 9), none, none, some (.return_), none, none, none, none, none]]
def nw_cd11 : List (List (Option Instr)) := [
  [some (.iload_n 1), some (.ifCond .lt 11), none, none, some (.iload_n 1), some (.aload_n 0), some (.getfield 9), none, none, some (.if_icmp .lt 8), none, none, some (.ldc 22), none, some (.goto 9), none],
  [none, some (.aload_n 0), some (.getfield 15), none, none, some (.iload_n 1), some (.iaload), some (.ireturn), none, none, none, none, none, none, none, none]]
def nw_cd13 : List (List (Option Instr)) := [
  [some (.iload_n 1), some (.ifCond .lt 15), none, none, some (.iload_n 1), some (.aload_n 0), some (.getfield 9), none, none, some (.if_icmp .ge 7), none, none, some (.iconst 1), some (.goto 4), none, none],
  [some (.iconst 0), some (.ireturn), none, none, none, none, none, none, none, none, none, none, none, none, none, none]]
def nw_cd14 : List (List (Option Instr)) := [
  [some (.iconst 1), some (.aload_n 0), some (.getfield 9), none, none, some (.ishl), some (.ireturn), none, none, none, none, none, none, none, none, none]]
def nw_cd15 : List (List (Option Instr)) := [
  [some (.aload_n 0), some (.getfield 9), none, none, some (.istore 6), none, some (.aload_n 0), some (.getfield 15), none, none, some (.iload 6), none, some (.iload_n 1), some (.iastore), some (.aload_n 0), some (.getfield 19)],
  [none, none, some (.iload 6), none, some (.iload_n 2), some (.iastore), some (.aload_n 0), some (.getfield 22), none, none, some (.iload 6), none, some (.iload_n 3), some (.iastore), some (.aload_n 0), some (.getfield 25)],
  [none, none, some (.iload 6), none, some (.iload 4), none, some (.iastore), some (.aload_n 0), some (.getfield 28), none, none, some (.iload 6), none, some (.iload 5), none, some (.iastore)],
  [some (.aload_n 0), some (.getfield 31), none, none, some (.iload 6), none, some (.iconst 1), some (.iastore), some (.aload_n 0), some (.invokevirtual 37), none, none, some (.istore 7), none, some (.iconst 0), some (.istore 8)],
  [none, some (.iload 8), none, some (.iload 7), none, some (.if_icmp .ge 29), none, none, some (.aload_n 0), some (.getfield 34), none, none, some (.iload 8), none, some (.iload 7), none],
  [some (.iadd), some (.aload_n 0), some (.getfield 34), none, none, some (.iload 8), none, some (.iaload), some (.iload 5), none, some (.iadd), some (.iastore), some (.iinc 8 1), none, none, some (.goto (-30))],
  [none, none, some (.aload_n 0), some (.dup), some (.getfield 9), none, none, some (.iconst 1), some (.iadd), some (.putfield 9), none, none, some (.iload 6), none, some (.ireturn), none]]
def nw_cd16 : List (List (Option Instr)) := [
  [some (.aload_n 0), some (.getfield 28), none, none, some (.iload_n 1), some (.iaload), some (.istore_n 3), some (.aload_n 0), some (.getfield 28), none, none, some (.iload_n 1), some (.iload_n 2), some (.iastore), some (.aload_n 0), some (.invokevirtual 37)],
  [none, none, some (.istore 4), none, some (.iconst 0), some (.istore 5), none, some (.iload 5), none, some (.iload 4), none, some (.if_icmp .ge 32), none, none, some (.iload 5), none],
  [some (.iload_n 1), some (.ishr), some (.iconst 1), some (.iand), some (.iconst 1), some (.if_icmp .ne 16), none, none, some (.aload_n 0), some (.getfield 34), none, none, some (.iload 5), none, some (.dup2), some (.iaload)],
  [some (.iload_n 2), some (.iload_n 3), some (.isub), some (.iadd), some (.iastore), some (.iinc 5 1), none, none, some (.goto (-33)), none, none, some (.iload_n 3), some (.ireturn), none, none, none]]
def nw_cd17 : List (List (Option Instr)) := [
  [some (.iconst 0), some (.istore_n 2), some (.iconst 0), some (.istore_n 3), some (.iload_n 3), some (.aload_n 0), some (.getfield 9), none, none, some (.if_icmp .ge 25), none, none, some (.aload_n 0), some (.getfield 31), none, none],
  [some (.iload_n 3), some (.iaload), some (.iload_n 1), some (.if_icmp .ne 9), none, none, some (.iload_n 2), some (.iconst 1), some (.iload_n 3), some (.ishl), some (.ior), some (.istore_n 2), some (.iinc 3 1), none, none, some (.goto (-27))],
  [none, none, some (.iload_n 2), some (.ireturn), none, none, none, none, none, none, none, none, none, none, none, none]]
def nw_cd18 : List (List (Option Instr)) := [
  [some (.aload_n 0), some (.getfield 34), none, none, some (.iload_n 1), some (.iaload), some (.aload_n 0), some (.getfield 34), none, none, some (.iload_n 2), some (.iaload), some (.if_icmp .lt 23), none, none, some (.aload_n 0)],
  [some (.getfield 34), none, none, some (.iload_n 1), some (.iaload), some (.aload_n 0), some (.getfield 34), none, none, some (.iload_n 2), some (.iaload), some (.if_icmp .ne 12), none, none, some (.iload_n 1), some (.iload_n 2)],
  [some (.if_icmp .ge 7), none, none, some (.iconst 1), some (.goto 4), none, none, some (.iconst 0), some (.ireturn), none, none, none, none, none, none, none]]
def nw_cd19 : List (List (Option Instr)) := [
  [some (.aload_n 0), some (.getfield 19), none, none, some (.iload_n 1), some (.iaload), some (.istore 4), none, some (.aload_n 0), some (.getfield 22), none, none, some (.iload_n 1), some (.iaload), some (.istore 5), none],
  [some (.aload_n 0), some (.getfield 25), none, none, some (.iload_n 1), some (.iaload), some (.istore 6), none, some (.aload_n 0), some (.getfield 15), none, none, some (.iload_n 1), some (.iaload), some (.tableswitch 208 0 7 #[46, 65, 82, 99, 119, 142, 172, 190]), none],
  [none, none, none, none, none, none, none, none, none, none, none, none, none, none, none, none],
  [none, none, none, none, none, none, none, none, none, none, none, none, none, none, none, none],
  [none, none, none, none, none, none, none, none, none, none, none, none, some (.iload 6), none, some (.aload_n 2), some (.iload 4)],
  [none, some (.iaload), some (.ishr), some (.iconst 1), some (.iand), some (.iconst 1), some (.if_icmp .ne 7), none, none, some (.iconst 1), some (.goto 4), none, none, some (.iconst 0), some (.ireturn), some (.aload_n 2)],
  [some (.iload 4), none, some (.iaload), some (.aload_n 2), some (.iload 5), none, some (.iaload), some (.if_icmp .eq 7), none, none, some (.iconst 1), some (.goto 4), none, none, some (.iconst 0), some (.ireturn)],
  [some (.aload_n 2), some (.iload 4), none, some (.iaload), some (.aload_n 2), some (.iload 5), none, some (.iaload), some (.if_icmp .ne 7), none, none, some (.iconst 1), some (.goto 4), none, none, some (.iconst 0)],
  [some (.ireturn), some (.aload_n 2), some (.iload 5), none, some (.iaload), some (.aload_n 2), some (.iload 4), none, some (.iaload), some (.iload 6), none, some (.iadd), some (.if_icmp .lt 7), none, none, some (.iconst 1)],
  [some (.goto 4), none, none, some (.iconst 0), some (.ireturn), some (.aload_n 2), some (.iload 4), none, some (.iaload), some (.aload_n 2), some (.iload 5), none, some (.iaload), some (.isub), some (.invokestatic 41), none],
  [none, some (.iload 6), none, some (.if_icmp .gt 7), none, none, some (.iconst 1), some (.goto 4), none, none, some (.iconst 0), some (.ireturn), some (.aload_n 2), some (.iload 4), none, some (.iaload)],
  [some (.iload 6), none, some (.bipush 8), none, some (.idiv), some (.if_icmp .ne 15), none, none, some (.aload_n 2), some (.iload 5), none, some (.iaload), some (.iload 6), none, some (.bipush 8), none],
  [some (.irem), some (.if_icmp .ne 7), none, none, some (.iconst 1), some (.goto 4), none, none, some (.iconst 0), some (.ireturn), some (.iload 4), none, some (.aload_n 2), some (.iload_n 3), some (.invokestatic 47), none],
  [none, some (.iload 6), none, some (.if_icmp .gt 7), none, none, some (.iconst 1), some (.goto 4), none, none, some (.iconst 0), some (.ireturn), some (.iload 4), none, some (.aload_n 2), some (.iload_n 3)],
  [some (.invokestatic 47), none, none, some (.iload 6), none, some (.if_icmp .lt 7), none, none, some (.iconst 1), some (.goto 4), none, none, some (.iconst 0), some (.ireturn), some (.aload_n 2), some (.iload_n 3)],
  [some (.invokestatic 51), none, none, some (.istore 7), none, some (.iload 7), none, some (.iload 4), none, some (.if_icmp .lt 14), none, none, some (.iload 7), none, some (.iload 5), none],
  [some (.if_icmp .gt 7), none, none, some (.iconst 1), some (.goto 4), none, none, some (.iconst 0), some (.ireturn), none, none, none, none, none, none, none]]
def nw_cd20 : List (List (Option Instr)) := [
  [some (.iconst 0), some (.istore_n 3), some (.iconst 0), some (.istore 4), none, some (.iload 4), none, some (.iload_n 2), some (.if_icmp .ge 20), none, none, some (.aload_n 1), some (.iload 4), none, some (.iaload), some (.iload_n 0)],
  [some (.if_icmp .ne 6), none, none, some (.iinc 3 1), none, none, some (.iinc 4 1), none, none, some (.goto (-20)), none, none, some (.iload_n 3), some (.ireturn), none, none]]
def nw_cd21 : List (List (Option Instr)) := [
  [some (.iconst 0), some (.istore_n 2), some (.iconst 0), some (.istore_n 3), some (.iload_n 3), some (.iload_n 1), some (.if_icmp .ge 15), none, none, some (.iload_n 2), some (.aload_n 0), some (.iload_n 3), some (.iaload), some (.iadd), some (.istore_n 2), some (.iinc 3 1)],
  [none, none, some (.goto (-14)), none, none, some (.iload_n 2), some (.ireturn), none, none, none, none, none, none, none, none, none]]
def nw_cd23 : List (List (Option Instr)) := [
  [some (.aload_n 0), some (.iconst 0), some (.putfield 7), none, none, some (.aload_n 0), some (.iconst 0), some (.putfield 13), none, none, some (.aload_n 0), some (.iconst 0), some (.putfield 16), none, none, some (.aload_n 0)],
  [some (.iconst 0), some (.putfield 19), none, none, some (.return_), none, none, none, none, none, none, none, none, none, none, none]]
def nw_cd24 : List (List (Option Instr)) := [
  [some (.aload_n 0), some (.getfield 7), none, none, some (.ifCond .eq 11), none, none, some (.iload_n 2), some (.aload_n 0), some (.getfield 13), none, none, some (.if_icmp .le 21), none, none, some (.aload_n 0)],
  [some (.iload_n 2), some (.putfield 13), none, none, some (.aload_n 0), some (.iload_n 1), some (.putfield 16), none, none, some (.aload_n 0), some (.iconst 1), some (.putfield 19), none, none, some (.goto 21), none],
  [none, some (.iload_n 2), some (.aload_n 0), some (.getfield 13), none, none, some (.if_icmp .ne 13), none, none, some (.aload_n 0), some (.dup), some (.getfield 19), none, none, some (.iconst 1), some (.iadd)],
  [some (.putfield 19), none, none, some (.aload_n 0), some (.dup), some (.getfield 7), none, none, some (.iconst 1), some (.iadd), some (.putfield 7), none, none, some (.return_), none, none]]
def nw_cd25 : List (List (Option Instr)) := [
  [some (.aload_n 1), some (.getfield 7), none, none, some (.ifCond .ne 5), none, none, some (.iconst 0), some (.ireturn), some (.aload_n 1), some (.getfield 13), none, none, some (.aload_n 0), some (.getfield 13), none],
  [none, some (.isub), some (.aload_n 0), some (.getfield 16), none, none, some (.aload_n 1), some (.getfield 16), none, none, some (.if_icmp .ge 7), none, none, some (.iconst 0), some (.goto 4), none],
  [none, some (.iconst 1), some (.iadd), some (.istore_n 2), some (.iload_n 2), some (.iconst 0), some (.invokestatic 22), none, none, some (.ireturn), none, none, none, none, none, none]]
def nw_cd27 : List (List (Option Instr)) := [
  [some (.iload_n 1), some (.iconst 1), some (.if_icmp .lt 9), none, none, some (.iload_n 1), some (.bipush 6), none, some (.if_icmp .le 6), none, none, some (.ldc 64), none, some (.ireturn), some (.aload_n 0), some (.getfield 12)],
  [none, none, some (.getfield 65), none, none, some (.iconst 5), some (.if_icmp .lt 6), none, none, some (.ldc 69), none, some (.ireturn), some (.aload_n 0), some (.getfield 12), none, none],
  [some (.iload_n 1), some (.invokevirtual 70), none, none, some (.aload_n 0), some (.iconst 0), some (.invokevirtual 74), none, none, some (.aload_n 0), some (.invokevirtual 77), none, none, some (.aload_n 0), some (.getfield 12), none],
  [none, some (.getfield 65), none, none, some (.iconst 1), some (.isub), some (.ireturn), none, none, none, none, none, none, none, none, none]]
def nw_cd28 : List (List (Option Instr)) := [
  [some (.aload_n 0), some (.getfield 12), none, none, some (.iload_n 1), some (.iload_n 2), some (.invokevirtual 80), none, none, some (.ifCond .ne 6), none, none, some (.ldc 84), none, some (.ireturn), some (.iload_n 3)],
  [some (.sipush (-1000)), none, none, some (.if_icmp .lt 10), none, none, some (.iload_n 3), some (.sipush 1000), none, none, some (.if_icmp .le 6), none, none, some (.ldc 64), none, some (.ireturn)],
  [some (.aload_n 0), some (.iconst 1), some (.putfield 37), none, none, some (.aload_n 0), some (.getfield 12), none, none, some (.iload_n 1), some (.iload_n 2), some (.iload_n 3), some (.invokevirtual 85), none, none, some (.ireturn)]]
def nw_cd29 : List (List (Option Instr)) := [
  [some (.aload_n 0), some (.iload_n 1), some (.iload_n 2), some (.iload_n 3), some (.invokevirtual 89), none, none, some (.ifCond .eq 6), none, none, some (.ldc 84), none, some (.ireturn), some (.iload_n 1), some (.iload_n 2), some (.iload_n 3)],
  [some (.iload 4), none, some (.invokestatic 93), none, none, some (.ifCond .eq 11), none, none, some (.iload 5), none, some (.invokestatic 97), none, none, some (.ifCond .ne 6), none, none],
  [some (.ldc 64), none, some (.ireturn), some (.aload_n 0), some (.getfield 19), none, none, some (.getfield 101), none, none, some (.bipush 12), none, some (.if_icmp .lt 6), none, none, some (.ldc 69)],
  [none, some (.ireturn), some (.aload_n 0), some (.getfield 19), none, none, some (.iload_n 1), some (.iload_n 2), some (.iload_n 3), some (.iload 4), none, some (.iload 5), none, some (.invokevirtual 102), none, none],
  [some (.istore 6), none, some (.aload_n 0), some (.iload 6), none, some (.invokevirtual 74), none, none, some (.aload_n 0), some (.invokevirtual 77), none, none, some (.iload 6), none, some (.ireturn), none]]
def nw_cd30 : List (List (Option Instr)) := [
  [some (.aload_n 0), some (.getfield 19), none, none, some (.iload_n 1), some (.invokevirtual 105), none, none, some (.ifCond .ne 6), none, none, some (.ldc 84), none, some (.ireturn), some (.iload_n 2), some (.ifCond .lt 8)],
  [none, none, some (.iload_n 2), some (.iconst 2), some (.if_icmp .le 6), none, none, some (.ldc 64), none, some (.ireturn), some (.aload_n 0), some (.getfield 19), none, none, some (.getfield 108), none],
  [none, some (.iload_n 1), some (.iaload), some (.istore_n 3), some (.aload_n 0), some (.getfield 19), none, none, some (.getfield 108), none, none, some (.iload_n 1), some (.iload_n 2), some (.iastore), some (.aload_n 0), some (.invokevirtual 77)],
  [none, none, some (.iload_n 3), some (.ireturn), none, none, none, none, none, none, none, none, none, none, none, none]]
def nw_cd31 : List (List (Option Instr)) := [
  [some (.aload_n 0), some (.getfield 19), none, none, some (.iload_n 1), some (.invokevirtual 105), none, none, some (.ifCond .ne 6), none, none, some (.ldc 84), none, some (.ireturn), some (.iload_n 2), some (.invokestatic 97)],
  [none, none, some (.ifCond .ne 6), none, none, some (.ldc 64), none, some (.ireturn), some (.aload_n 0), some (.invokevirtual 77), none, none, some (.aload_n 0), some (.getfield 19), none, none],
  [some (.iload_n 1), some (.iload_n 2), some (.invokevirtual 111), none, none, some (.ireturn), none, none, none, none, none, none, none, none, none, none]]
def nw_cd32 : List (List (Option Instr)) := [
  [some (.aload_n 0), some (.getfield 19), none, none, some (.iload_n 1), some (.invokevirtual 105), none, none, some (.ifCond .ne 6), none, none, some (.ldc 84), none, some (.ireturn), some (.iload_n 2), some (.tableswitch 97 0 5 #[37, 47, 57, 67, 77, 87])],
  [none, none, none, none, none, none, none, none, none, none, none, none, none, none, none, none],
  [none, none, none, none, none, none, none, none, none, none, none, none, none, none, none, none],
  [none, none, none, none, some (.aload_n 0), some (.getfield 19), none, none, some (.getfield 115), none, none, some (.iload_n 1), some (.iaload), some (.ireturn), some (.aload_n 0), some (.getfield 19)],
  [none, none, some (.getfield 118), none, none, some (.iload_n 1), some (.iaload), some (.ireturn), some (.aload_n 0), some (.getfield 19), none, none, some (.getfield 121), none, none, some (.iload_n 1)],
  [some (.iaload), some (.ireturn), some (.aload_n 0), some (.getfield 19), none, none, some (.getfield 124), none, none, some (.iload_n 1), some (.iaload), some (.ireturn), some (.aload_n 0), some (.getfield 19), none, none],
  [some (.getfield 127), none, none, some (.iload_n 1), some (.iaload), some (.ireturn), some (.aload_n 0), some (.getfield 19), none, none, some (.getfield 108), none, none, some (.iload_n 1), some (.iaload), some (.ireturn)],
  [some (.ldc 64), none, some (.ireturn), none, none, none, none, none, none, none, none, none, none, none, none, none]]
def nw_cd33 : List (List (Option Instr)) := [
  [some (.iload_n 1), some (.tableswitch 115 0 6 #[43, 51, 59, 67, 79, 91, 103]), none, none, none, none, none, none, none, none, none, none, none, none, none, none],
  [none, none, none, none, none, none, none, none, none, none, none, none, none, none, none, none],
  [none, none, none, none, none, none, none, none, none, none, none, none, some (.aload_n 0), some (.getfield 12), none, none],
  [some (.getfield 65), none, none, some (.ireturn), some (.aload_n 0), some (.getfield 19), none, none, some (.getfield 101), none, none, some (.ireturn), some (.aload_n 0), some (.getfield 12), none, none],
  [some (.getfield 130), none, none, some (.ireturn), some (.aload_n 0), some (.invokevirtual 133), none, none, some (.aload_n 0), some (.getfield 33), none, none, some (.getfield 136), none, none, some (.ireturn)],
  [some (.aload_n 0), some (.invokevirtual 133), none, none, some (.aload_n 0), some (.getfield 33), none, none, some (.getfield 139), none, none, some (.ireturn), some (.aload_n 0), some (.invokevirtual 142), none, none],
  [some (.aload_n 0), some (.getfield 54), none, none, some (.getfield 145), none, none, some (.ireturn), some (.aload_n 0), some (.invokevirtual 142), none, none, some (.aload_n 0), some (.getfield 58), none, none],
  [some (.getfield 145), none, none, some (.ireturn), some (.ldc 64), none, some (.ireturn), none, none, none, none, none, none, none, none, none]]
def nw_cd34 : List (List (Option Instr)) := [
  [some (.aload_n 0), some (.invokevirtual 133), none, none, some (.aload_n 0), some (.getfield 33), none, none, some (.getfield 136), none, none, some (.ifCond .ne 8), none, none, some (.ldc 146), none],
  [some (.goto 10), none, none, some (.aload_n 0), some (.getfield 33), none, none, some (.getfield 147), none, none, some (.ireturn), none, none, none, none, none]]
def nw_cd35 : List (List (Option Instr)) := [
  [some (.aload_n 0), some (.getfield 12), none, none, some (.iload_n 1), some (.invokevirtual 150), none, none, some (.ifCond .ne 6), none, none, some (.ldc 84), none, some (.ireturn), some (.aload_n 0), some (.invokevirtual 133)],
  [none, none, some (.aload_n 0), some (.getfield 33), none, none, some (.getfield 136), none, none, some (.ifCond .ne 8), none, none, some (.ldc 146), none, some (.goto 18), none],
  [none, some (.aload_n 0), some (.getfield 12), none, none, some (.aload_n 0), some (.getfield 33), none, none, some (.getfield 151), none, none, some (.iload_n 1), some (.invokevirtual 154), none, none],
  [some (.ireturn), none, none, none, none, none, none, none, none, none, none, none, none, none, none, none]]
def nw_cd36 : List (List (Option Instr)) := [
  [some (.aload_n 0), some (.getfield 12), none, none, some (.iload_n 1), some (.invokevirtual 150), none, none, some (.ifCond .ne 6), none, none, some (.ldc 84), none, some (.ireturn), some (.aload_n 0), some (.invokevirtual 133)],
  [none, none, some (.aload_n 0), some (.getfield 33), none, none, some (.getfield 136), none, none, some (.ifCond .ne 6), none, none, some (.ldc 146), none, some (.ireturn), some (.aload_n 0)],
  [some (.getfield 19), none, none, some (.iconst 1), some (.invokevirtual 157), none, none, some (.istore_n 2), some (.aload_n 0), some (.getfield 19), none, none, some (.iconst 2), some (.invokevirtual 157), none, none],
  [some (.istore_n 3), some (.aload_n 0), some (.getfield 12), none, none, some (.aload_n 0), some (.getfield 33), none, none, some (.getfield 151), none, none, some (.iload_n 1), some (.invokevirtual 154), none, none],
  [some (.istore 4), none, some (.aload_n 0), some (.getfield 33), none, none, some (.getfield 151), none, none, some (.iconst 1), some (.iadd), some (.istore 5), none, some (.iload 5), none, some (.aload_n 0)],
  [some (.getfield 12), none, none, some (.getfield 130), none, none, some (.if_icmp .ge 55), none, none, some (.aload_n 0), some (.getfield 23), none, none, some (.iload 5), none, some (.iaload)],
  [some (.iload_n 2), some (.iand), some (.ifCond .ne 37), none, none, some (.aload_n 0), some (.iload 5), none, some (.iload_n 3), some (.invokevirtual 161), none, none, some (.aload_n 0), some (.getfield 33), none, none],
  [some (.getfield 147), none, none, some (.if_icmp .ne 20), none, none, some (.aload_n 0), some (.getfield 12), none, none, some (.iload 5), none, some (.iload_n 1), some (.invokevirtual 154), none, none],
  [some (.iload 4), none, some (.if_icmp .eq 5), none, none, some (.iconst (-1)), some (.ireturn), some (.iinc 5 1), none, none, some (.goto (-61)), none, none, some (.iload 4), none, some (.ireturn)]]
def nw_cd37 : List (List (Option Instr)) := [
  [some (.aload_n 0), some (.getfield 12), none, none, some (.iload_n 1), some (.iload_n 2), some (.invokevirtual 80), none, none, some (.ifCond .ne 6), none, none, some (.ldc 84), none, some (.ireturn), some (.aload_n 0)],
  [some (.iload_n 1), some (.iload_n 2), some (.invokevirtual 164), none, none, some (.aload_n 0), some (.getfield 41), none, none, some (.getfield 136), none, none, some (.ifCond .ne 8), none, none, some (.ldc 146)],
  [none, some (.goto 10), none, none, some (.aload_n 0), some (.getfield 41), none, none, some (.getfield 147), none, none, some (.ireturn), none, none, none, none]]
def nw_cd38 : List (List (Option Instr)) := [
  [some (.aload_n 0), some (.getfield 12), none, none, some (.iload_n 1), some (.iload_n 2), some (.invokevirtual 80), none, none, some (.ifCond .eq 14), none, none, some (.aload_n 0), some (.getfield 12), none, none],
  [some (.iload_n 3), some (.invokevirtual 150), none, none, some (.ifCond .ne 6), none, none, some (.ldc 84), none, some (.ireturn), some (.aload_n 0), some (.iload_n 1), some (.iload_n 2), some (.invokevirtual 164), none, none],
  [some (.aload_n 0), some (.getfield 41), none, none, some (.getfield 136), none, none, some (.ifCond .ne 8), none, none, some (.ldc 146), none, some (.goto 18), none, none, some (.aload_n 0)],
  [some (.getfield 12), none, none, some (.aload_n 0), some (.getfield 41), none, none, some (.getfield 151), none, none, some (.iload_n 3), some (.invokevirtual 154), none, none, some (.ireturn), none]]
def nw_cd39 : List (List (Option Instr)) := [
  [some (.aload_n 0), some (.getfield 12), none, none, some (.iload_n 1), some (.iload_n 2), some (.invokevirtual 80), none, none, some (.ifCond .ne 6), none, none, some (.ldc 84), none, some (.ireturn), some (.aload_n 0)],
  [some (.iload_n 1), some (.iload_n 2), some (.invokevirtual 164), none, none, some (.aload_n 0), some (.getfield 44), none, none, some (.getfield 136), none, none, some (.ifCond .ne 8), none, none, some (.ldc 146)],
  [none, some (.goto 10), none, none, some (.aload_n 0), some (.getfield 44), none, none, some (.getfield 147), none, none, some (.ireturn), none, none, none, none]]
def nw_cd40 : List (List (Option Instr)) := [
  [some (.aload_n 0), some (.getfield 12), none, none, some (.iload_n 1), some (.iload_n 2), some (.invokevirtual 80), none, none, some (.ifCond .ne 6), none, none, some (.ldc 84), none, some (.ireturn), some (.aload_n 0)],
  [some (.iload_n 1), some (.iload_n 2), some (.invokevirtual 164), none, none, some (.aload_n 0), some (.getfield 41), none, none, some (.getfield 136), none, none, some (.ifCond .ne 8), none, none, some (.ldc 146)],
  [none, some (.goto 14), none, none, some (.aload_n 0), some (.getfield 41), none, none, some (.aload_n 0), some (.getfield 44), none, none, some (.invokevirtual 168), none, none, some (.ireturn)]]
def nw_cd41 : List (List (Option Instr)) := [
  [some (.aload_n 0), some (.getfield 12), none, none, some (.iload_n 1), some (.iload_n 2), some (.invokevirtual 80), none, none, some (.ifCond .ne 6), none, none, some (.ldc 84), none, some (.ireturn), some (.aload_n 0)],
  [some (.iload_n 1), some (.iload_n 2), some (.invokevirtual 164), none, none, some (.aload_n 0), some (.getfield 44), none, none, some (.getfield 136), none, none, some (.ifCond .ne 8), none, none, some (.ldc 146)],
  [none, some (.goto 14), none, none, some (.aload_n 0), some (.getfield 44), none, none, some (.aload_n 0), some (.getfield 41), none, none, some (.invokevirtual 168), none, none, some (.ireturn)]]
def nw_cd42 : List (List (Option Instr)) := [
  [some (.aload_n 0), some (.getfield 12), none, none, some (.iload_n 1), some (.iload_n 2), some (.invokevirtual 80), none, none, some (.ifCond .ne 6), none, none, some (.ldc 84), none, some (.ireturn), some (.aload_n 0)],
  [some (.getfield 19), none, none, some (.iconst 1), some (.invokevirtual 157), none, none, some (.istore_n 3), some (.iconst (-1)), some (.istore 4), none, some (.iconst 0), some (.istore 5), none, some (.iload 5), none],
  [some (.aload_n 0), some (.getfield 12), none, none, some (.getfield 130), none, none, some (.if_icmp .ge 58), none, none, some (.aload_n 0), some (.getfield 12), none, none, some (.iload 5), none],
  [some (.iload_n 1), some (.invokevirtual 154), none, none, some (.iload_n 2), some (.if_icmp .ne 38), none, none, some (.aload_n 0), some (.getfield 23), none, none, some (.iload 5), none, some (.iaload), some (.iload_n 3)],
  [some (.iand), some (.istore 6), none, some (.iload 4), none, some (.iconst (-1)), some (.if_icmp .eq 17), none, none, some (.aload_n 0), some (.getfield 19), none, none, some (.iload 6), none, some (.iload 4)],
  [none, some (.invokevirtual 172), none, none, some (.ifCond .eq 7), none, none, some (.iload 6), none, some (.istore 4), none, some (.iinc 5 1), none, none, some (.goto (-64)), none],
  [none, some (.iload 4), none, some (.ireturn), none, none, none, none, none, none, none, none, none, none, none, none]]
def nw_cd43 : List (List (Option Instr)) := [
  [some (.aload_n 0), some (.invokevirtual 142), none, none, some (.aload_n 0), some (.getfield 19), none, none, some (.iconst 1), some (.invokevirtual 157), none, none, some (.istore_n 1), some (.aload_n 0), some (.getfield 47), none],
  [none, some (.iload_n 1), some (.baload), some (.ifCond .eq 5), none, none, some (.iconst 0), some (.ireturn), some (.iconst 0), some (.istore_n 2), some (.iload_n 2), some (.aload_n 0), some (.getfield 19), none, none, some (.getfield 101)],
  [none, none, some (.if_icmp .ge 28), none, none, some (.iload_n 1), some (.iconst 1), some (.iload_n 2), some (.ishl), some (.iconst (-1)), some (.ixor), some (.iand), some (.istore_n 3), some (.aload_n 0), some (.getfield 47), none],
  [none, some (.iload_n 3), some (.baload), some (.ifCond .ne 5), none, none, some (.iload_n 3), some (.istore_n 1), some (.iinc 2 1), none, none, some (.goto (-33)), none, none, some (.iload_n 1), some (.ireturn)]]
def nw_cd44 : List (List (Option Instr)) := [
  [some (.aload_n 0), some (.invokevirtual 142), none, none, some (.aload_n 0), some (.getfield 54), none, none, some (.iload_n 1), some (.invokevirtual 175), none, none, some (.ireturn), none, none, none]]
def nw_cd45 : List (List (Option Instr)) := [
  [some (.aload_n 0), some (.invokevirtual 142), none, none, some (.aload_n 0), some (.getfield 58), none, none, some (.iload_n 1), some (.invokevirtual 175), none, none, some (.ireturn), none, none, none]]
def nw_cd46 : List (List (Option Instr)) := [
  [some (.iload_n 1), some (.ifCond .lt 14), none, none, some (.iload_n 1), some (.aload_n 0), some (.getfield 19), none, none, some (.invokevirtual 178), none, none, some (.if_icmp .lt 8), none, none, some (.ldc 84)],
  [none, some (.goto 12), none, none, some (.aload_n 0), some (.getfield 19), none, none, some (.getfield 182), none, none, some (.iload_n 1), some (.iaload), some (.ireturn), none, none]]
def nw_cd47 : List (List (Option Instr)) := [
  [some (.aload_n 0), some (.getfield 19), none, none, some (.iload_n 1), some (.invokevirtual 105), none, none, some (.ifCond .ne 6), none, none, some (.ldc 84), none, some (.ireturn), some (.aload_n 0), some (.invokevirtual 133)],
  [none, none, some (.aload_n 0), some (.getfield 33), none, none, some (.getfield 136), none, none, some (.ifCond .ne 6), none, none, some (.ldc 146), none, some (.ireturn), some (.iconst 1)],
  [some (.iload_n 1), some (.ishl), some (.iconst (-1)), some (.ixor), some (.istore_n 2), some (.aload_n 0), some (.aload_n 0), some (.getfield 44), none, none, some (.aload_n 0), some (.getfield 19), none, none, some (.iconst 1), some (.invokevirtual 157)],
  [none, none, some (.iload_n 2), some (.iand), some (.aload_n 0), some (.getfield 19), none, none, some (.iconst 2), some (.invokevirtual 157), none, none, some (.iload_n 2), some (.iand), some (.invokevirtual 185), none],
  [none, some (.aload_n 0), some (.getfield 44), none, none, some (.getfield 147), none, none, some (.aload_n 0), some (.getfield 33), none, none, some (.getfield 147), none, none, some (.isub)],
  [some (.ireturn), none, none, none, none, none, none, none, none, none, none, none, none, none, none, none]]
def nw_cd48 : List (List (Option Instr)) := [
  [some (.aload_n 0), some (.iload_n 1), some (.iload_n 2), some (.iload_n 3), some (.iload 4), none, some (.iload 5), none, some (.invokevirtual 189), none, none, some (.istore 6), none, some (.iload 6), none, some (.iconst (-1))],
  [some (.if_icmp .ne 8), none, none, some (.ldc 84), none, some (.goto 28), none, none, some (.aload_n 0), some (.getfield 23), none, none, some (.iload 6), none, some (.iaload), some (.aload_n 0)],
  [some (.getfield 19), none, none, some (.iconst 1), some (.invokevirtual 157), none, none, some (.aload_n 0), some (.getfield 19), none, none, some (.iconst 2), some (.invokevirtual 157), none, none, some (.ior)],
  [some (.iand), some (.ireturn), none, none, none, none, none, none, none, none, none, none, none, none, none, none]]
def nw_cd49 : List (List (Option Instr)) := [
  [some (.aload_n 0), some (.iload_n 1), some (.iload_n 2), some (.iload_n 3), some (.iload 4), none, some (.iload 5), none, some (.invokevirtual 189), none, none, some (.istore 6), none, some (.iload 6), none, some (.iconst (-1))],
  [some (.if_icmp .ne 8), none, none, some (.ldc 84), none, some (.goto 17), none, none, some (.aload_n 0), some (.iload 6), none, some (.aload_n 0), some (.getfield 19), none, none, some (.iconst 2)],
  [some (.invokevirtual 157), none, none, some (.invokevirtual 161), none, none, some (.ireturn), none, none, none, none, none, none, none, none, none]]
def nw_cd50 : List (List (Option Instr)) := [
  [some (.aload_n 0), some (.iconst 1), some (.putfield 37), none, none, some (.aload_n 0), some (.iconst 1), some (.putfield 61), none, none, some (.return_), none, none, none, none, none]]
def nw_cd51 : List (List (Option Instr)) := [
  [some (.iload_n 0), some (.iconst 1), some (.if_icmp .lt 14), none, none, some (.iload_n 0), some (.sipush 1000), none, none, some (.if_icmp .gt 7), none, none, some (.iconst 1), some (.goto 4), none, none],
  [some (.iconst 0), some (.ireturn), none, none, none, none, none, none, none, none, none, none, none, none, none, none]]
def nw_cd52 : List (List (Option Instr)) := [
  [some (.iload_n 1), some (.ifCond .ne 20), none, none, some (.aload_n 0), some (.getfield 12), none, none, some (.iload_n 2), some (.invokevirtual 150), none, none, some (.ifCond .ne 7), none, none, some (.iconst 1)],
  [some (.goto 4), none, none, some (.iconst 0), some (.ireturn), some (.iload_n 1), some (.iconst 1), some (.if_icmp .lt 34), none, none, some (.iload_n 1), some (.iconst 5), some (.if_icmp .gt 29), none, none, some (.aload_n 0)],
  [some (.getfield 12), none, none, some (.iload_n 2), some (.invokevirtual 150), none, none, some (.ifCond .eq 14), none, none, some (.aload_n 0), some (.getfield 12), none, none, some (.iload_n 3), some (.invokevirtual 150)],
  [none, none, some (.ifCond .ne 7), none, none, some (.iconst 1), some (.goto 4), none, none, some (.iconst 0), some (.ireturn), none, none, none, none, none]]
def nw_cd53 : List (List (Option Instr)) := [
  [some (.iload_n 0), some (.tableswitch 187 0 8 #[51, 67, 67, 78, 100, 120, 141, 141, 166]), none, none, none, none, none, none, none, none, none, none, none, none, none, none],
  [none, none, none, none, none, none, none, none, none, none, none, none, none, none, none, none],
  [none, none, none, none, none, none, none, none, none, none, none, none, none, none, none, none],
  [none, none, none, none, some (.iload_n 3), some (.ifCond .lt 13), none, none, some (.iload_n 3), some (.bipush 63), none, some (.if_icmp .gt 7), none, none, some (.iconst 1), some (.goto 4)],
  [none, none, some (.iconst 0), some (.ireturn), some (.iload_n 1), some (.iload_n 2), some (.if_icmp .eq 7), none, none, some (.iconst 1), some (.goto 4), none, none, some (.iconst 0), some (.ireturn), some (.iload_n 1)],
  [some (.iload_n 2), some (.if_icmp .eq 18), none, none, some (.iload_n 3), some (.bipush (-5)), none, some (.if_icmp .lt 12), none, none, some (.iload_n 3), some (.iconst 5), some (.if_icmp .gt 7), none, none, some (.iconst 1)],
  [some (.goto 4), none, none, some (.iconst 0), some (.ireturn), some (.iload_n 1), some (.iload_n 2), some (.if_icmp .eq 16), none, none, some (.iload_n 3), some (.ifCond .lt 12), none, none, some (.iload_n 3), some (.iconst 5)],
  [some (.if_icmp .gt 7), none, none, some (.iconst 1), some (.goto 4), none, none, some (.iconst 0), some (.ireturn), some (.iload_n 1), some (.iload_n 2), some (.if_icmp .eq 17), none, none, some (.iload_n 3), some (.ifCond .lt 13)],
  [none, none, some (.iload_n 3), some (.bipush 63), none, some (.if_icmp .gt 7), none, none, some (.iconst 1), some (.goto 4), none, none, some (.iconst 0), some (.ireturn), some (.iload_n 1), some (.ifCond .lt 22)],
  [none, none, some (.iload_n 1), some (.bipush 6), none, some (.if_icmp .ge 16), none, none, some (.iload_n 3), some (.ifCond .lt 12), none, none, some (.iload_n 3), some (.iconst 5), some (.if_icmp .gt 7), none],
  [none, some (.iconst 1), some (.goto 4), none, none, some (.iconst 0), some (.ireturn), some (.iload_n 1), some (.ifCond .lt 18), none, none, some (.iload_n 1), some (.iload_n 2), some (.if_icmp .gt 13), none, none],
  [some (.iload_n 2), some (.bipush 25), none, some (.if_icmp .gt 7), none, none, some (.iconst 1), some (.goto 4), none, none, some (.iconst 0), some (.ireturn), some (.iconst 0), some (.ireturn), none, none]]
def nw_cd54 : List (List (Option Instr)) := [
  [some (.iconst 1), some (.iload_n 1), some (.ishl), some (.iconst 1), some (.isub), some (.istore_n 2), some (.iconst 0), some (.istore_n 3), some (.iload_n 3), some (.aload_n 0), some (.getfield 12), none, none, some (.getfield 130), none, none],
  [some (.if_icmp .ge 92), none, none, some (.aload_n 0), some (.getfield 12), none, none, some (.iload_n 3), some (.aload_n 0), some (.getfield 27), none, none, some (.invokevirtual 192), none, none, some (.aload_n 0)],
  [some (.getfield 23), none, none, some (.iload_n 3), some (.iaload), some (.iload_n 2), some (.iand), some (.istore 4), none, some (.iload_n 1), some (.istore 5), none, some (.iload 5), none, some (.aload_n 0), some (.getfield 19)],
  [none, none, some (.getfield 101), none, none, some (.if_icmp .ge 41), none, none, some (.aload_n 0), some (.getfield 19), none, none, some (.iload 5), none, some (.aload_n 0), some (.getfield 27)],
  [none, none, some (.aload_n 0), some (.getfield 12), none, none, some (.getfield 65), none, none, some (.invokevirtual 196), none, none, some (.ifCond .ne 12), none, none, some (.iload 4)],
  [none, some (.iconst 1), some (.iload 5), none, some (.ishl), some (.ior), some (.istore 4), none, some (.iinc 5 1), none, none, some (.goto (-47)), none, none, some (.aload_n 0), some (.getfield 23)],
  [none, none, some (.iload_n 3), some (.iload 4), none, some (.iastore), some (.iinc 3 1), none, none, some (.goto (-97)), none, none, some (.return_), none, none, none]]
def nw_cd55 : List (List (Option Instr)) := [
  [some (.aload_n 0), some (.getfield 27), none, none, some (.iconst 0), some (.iload_n 1), some (.iastore), some (.aload_n 0), some (.getfield 27), none, none, some (.iconst 1), some (.iload_n 2), some (.iastore), some (.aload_n 0), some (.getfield 27)],
  [none, none, some (.iconst 2), some (.iload_n 3), some (.iastore), some (.aload_n 0), some (.getfield 27), none, none, some (.iconst 3), some (.iload 4), none, some (.iastore), some (.aload_n 0), some (.getfield 27), none],
  [none, some (.iconst 4), some (.iload 5), none, some (.iastore), some (.aload_n 0), some (.getfield 12), none, none, some (.aload_n 0), some (.getfield 27), none, none, some (.invokevirtual 200), none, none],
  [some (.ireturn), none, none, none, none, none, none, none, none, none, none, none, none, none, none, none]]
def nw_cd56 : List (List (Option Instr)) := [
  [some (.aload_n 0), some (.getfield 12), none, none, some (.getfield 204), none, none, some (.iload_n 1), some (.iaload), some (.aload_n 0), some (.getfield 19), none, none, some (.getfield 182), none, none],
  [some (.aload_n 0), some (.getfield 23), none, none, some (.iload_n 1), some (.iaload), some (.iload_n 2), some (.iand), some (.iaload), some (.isub), some (.ireturn), none, none, none, none, none]]
def nw_cd57 : List (List (Option Instr)) := [
  [some (.aload_n 1), some (.invokevirtual 207), none, none, some (.iconst 0), some (.istore 4), none, some (.iload 4), none, some (.aload_n 0), some (.getfield 12), none, none, some (.getfield 130), none, none],
  [some (.if_icmp .ge 34), none, none, some (.aload_n 0), some (.getfield 23), none, none, some (.iload 4), none, some (.iaload), some (.iload_n 2), some (.iand), some (.ifCond .ne 16), none, none, some (.aload_n 1)],
  [some (.iload 4), none, some (.aload_n 0), some (.iload 4), none, some (.iload_n 3), some (.invokevirtual 161), none, none, some (.invokevirtual 210), none, none, some (.iinc 4 1), none, none, some (.goto (-40))],
  [none, none, some (.return_), none, none, none, none, none, none, none, none, none, none, none, none, none]]
def nw_cd58 : List (List (Option Instr)) := [
  [some (.aload_n 0), some (.getfield 37), none, none, some (.ifCond .eq 32), none, none, some (.aload_n 0), some (.aload_n 0), some (.getfield 33), none, none, some (.aload_n 0), some (.getfield 19), none, none],
  [some (.iconst 1), some (.invokevirtual 157), none, none, some (.aload_n 0), some (.getfield 19), none, none, some (.iconst 2), some (.invokevirtual 157), none, none, some (.invokevirtual 185), none, none, some (.aload_n 0)],
  [some (.iconst 0), some (.putfield 37), none, none, some (.return_), none, none, none, none, none, none, none, none, none, none, none]]
def nw_cd59 : List (List (Option Instr)) := [
  [some (.aload_n 0), some (.getfield 19), none, none, some (.iconst 1), some (.invokevirtual 157), none, none, some (.istore_n 3), some (.aload_n 0), some (.getfield 19), none, none, some (.iconst 2), some (.invokevirtual 157), none],
  [none, some (.istore 4), none, some (.aload_n 0), some (.getfield 41), none, none, some (.invokevirtual 207), none, none, some (.aload_n 0), some (.getfield 44), none, none, some (.invokevirtual 207), none],
  [none, some (.iconst 0), some (.istore 5), none, some (.iload 5), none, some (.aload_n 0), some (.getfield 12), none, none, some (.getfield 130), none, none, some (.if_icmp .ge 63), none, none],
  [some (.aload_n 0), some (.getfield 23), none, none, some (.iload 5), none, some (.iaload), some (.iload_n 3), some (.iand), some (.ifCond .ne 45), none, none, some (.aload_n 0), some (.getfield 12), none, none],
  [some (.iload 5), none, some (.iload_n 1), some (.invokevirtual 154), none, none, some (.iload_n 2), some (.if_icmp .ne 10), none, none, some (.aload_n 0), some (.getfield 41), none, none, some (.goto 7), none],
  [none, some (.aload_n 0), some (.getfield 44), none, none, some (.astore 6), none, some (.aload 6), none, some (.iload 5), none, some (.aload_n 0), some (.iload 5), none, some (.iload 4), none],
  [some (.invokevirtual 161), none, none, some (.invokevirtual 210), none, none, some (.iinc 5 1), none, none, some (.goto (-69)), none, none, some (.return_), none, none, none]]
def nw_cd60 : List (List (Option Instr)) := [
  [some (.aload_n 0), some (.getfield 61), none, none, some (.ifCond .eq 27), none, none, some (.aload_n 0), some (.getfield 19), none, none, some (.iconst 1), some (.invokevirtual 157), none, none, some (.istore_n 1)],
  [some (.aload_n 0), some (.iload_n 1), some (.invokevirtual 213), none, none, some (.aload_n 0), some (.iload_n 1), some (.invokevirtual 216), none, none, some (.aload_n 0), some (.iconst 0), some (.putfield 61), none, none, some (.return_)]]
def nw_cd61 : List (List (Option Instr)) := [
  [some (.aload_n 0), some (.getfield 19), none, none, some (.invokevirtual 178), none, none, some (.istore_n 2), some (.iconst 0), some (.istore_n 3), some (.iload_n 3), some (.iload_n 2), some (.if_icmp .ge 16), none, none, some (.aload_n 0)],
  [some (.getfield 47), none, none, some (.iload_n 3), some (.iconst 0), some (.bastore), some (.iinc 3 1), none, none, some (.goto (-15)), none, none, some (.iconst 0), some (.istore_n 3), some (.iload_n 3), some (.aload_n 0)],
  [some (.getfield 12), none, none, some (.getfield 130), none, none, some (.if_icmp .ge 25), none, none, some (.aload_n 0), some (.getfield 47), none, none, some (.iload_n 1), some (.aload_n 0), some (.getfield 23)],
  [none, none, some (.iload_n 3), some (.iaload), some (.iconst (-1)), some (.ixor), some (.iand), some (.iconst 1), some (.bastore), some (.iinc 3 1), none, none, some (.goto (-30)), none, none, some (.iconst 0)],
  [some (.istore_n 3), some (.iload_n 3), some (.aload_n 0), some (.getfield 19), none, none, some (.getfield 101), none, none, some (.if_icmp .ge 58), none, none, some (.iconst 1), some (.iload_n 3), some (.ishl), some (.istore 4)],
  [none, some (.iconst 0), some (.istore 5), none, some (.iload 5), none, some (.iload_n 2), some (.if_icmp .ge 38), none, none, some (.aload_n 0), some (.getfield 47), none, none, some (.iload 5), none],
  [some (.baload), some (.ifCond .eq 22), none, none, some (.iload 5), none, some (.iload 4), none, some (.iand), some (.ifCond .eq 14), none, none, some (.aload_n 0), some (.getfield 47), none, none],
  [some (.iload 5), none, some (.iload 4), none, some (.ixor), some (.iconst 1), some (.bastore), some (.iinc 5 1), none, none, some (.goto (-38)), none, none, some (.iinc 3 1), none, none],
  [some (.goto (-63)), none, none, some (.return_), none, none, none, none, none, none, none, none, none, none, none, none]]
def nw_cd62 : List (List (Option Instr)) := [
  [some (.aload_n 0), some (.getfield 54), none, none, some (.invokevirtual 219), none, none, some (.aload_n 0), some (.getfield 58), none, none, some (.invokevirtual 219), none, none, some (.aload_n 0), some (.getfield 19)],
  [none, none, some (.invokevirtual 178), none, none, some (.istore_n 2), some (.iconst 0), some (.istore_n 3), some (.iload_n 3), some (.iload_n 2), some (.if_icmp .ge 63), none, none, some (.iload_n 3), some (.iload_n 1), some (.iconst (-1))],
  [some (.ixor), some (.iand), some (.ifCond .ne 49), none, none, some (.aload_n 0), some (.iload_n 3), some (.invokevirtual 220), none, none, some (.ifCond .eq 15), none, none, some (.aload_n 0), some (.getfield 54), none],
  [none, some (.iload_n 3), some (.iload_n 3), some (.invokestatic 223), none, none, some (.invokevirtual 228), none, none, some (.aload_n 0), some (.iload_n 3), some (.iload_n 1), some (.invokevirtual 231), none, none, some (.ifCond .eq 20)],
  [none, none, some (.aload_n 0), some (.getfield 58), none, none, some (.iload_n 3), some (.aload_n 0), some (.getfield 19), none, none, some (.getfield 182), none, none, some (.iload_n 3), some (.iaload)],
  [some (.invokevirtual 228), none, none, some (.iinc 3 1), none, none, some (.goto (-62)), none, none, some (.return_), none, none, none, none, none, none]]
def nw_cd63 : List (List (Option Instr)) := [
  [some (.aload_n 0), some (.getfield 47), none, none, some (.iload_n 1), some (.baload), some (.ifCond .eq 5), none, none, some (.iconst 0), some (.ireturn), some (.iconst 0), some (.istore_n 2), some (.iload_n 2), some (.aload_n 0), some (.getfield 19)],
  [none, none, some (.getfield 101), none, none, some (.if_icmp .ge 32), none, none, some (.iconst 1), some (.iload_n 2), some (.ishl), some (.istore_n 3), some (.iload_n 1), some (.iload_n 3), some (.iand), some (.ifCond .eq 16)],
  [none, none, some (.aload_n 0), some (.getfield 47), none, none, some (.iload_n 1), some (.iload_n 3), some (.ixor), some (.baload), some (.ifCond .ne 5), none, none, some (.iconst 0), some (.ireturn), some (.iinc 2 1)],
  [none, none, some (.goto (-37)), none, none, some (.iconst 1), some (.ireturn), none, none, none, none, none, none, none, none, none]]
def nw_cd64 : List (List (Option Instr)) := [
  [some (.iload_n 2), some (.iload_n 1), some (.iconst (-1)), some (.ixor), some (.iand), some (.istore_n 3), some (.aload_n 0), some (.getfield 47), none, none, some (.iload_n 3), some (.baload), some (.ifCond .ne 5), none, none, some (.iconst 0)],
  [some (.ireturn), some (.iconst 0), some (.istore 4), none, some (.iload 4), none, some (.aload_n 0), some (.getfield 19), none, none, some (.getfield 101), none, none, some (.if_icmp .ge 36), none, none],
  [some (.iconst 1), some (.iload 4), none, some (.ishl), some (.istore 5), none, some (.iload_n 1), some (.iload 5), none, some (.iand), some (.ifCond .eq 17), none, none, some (.aload_n 0), some (.getfield 47), none],
  [none, some (.iload_n 3), some (.iload 5), none, some (.ior), some (.baload), some (.ifCond .eq 5), none, none, some (.iconst 0), some (.ireturn), some (.iinc 4 1), none, none, some (.goto (-42)), none],
  [none, some (.iconst 1), some (.ireturn), none, none, none, none, none, none, none, none, none, none, none, none, none]]
def nw_cd66 : List (List (Option Instr)) := [
  [some (.iload_n 0), some (.iload_n 1), some (.if_icmp .lt 12), none, none, some (.iload_n 0), some (.iload_n 2), some (.if_icmp .gt 7), none, none, some (.iconst 1), some (.goto 4), none, none, some (.iconst 0), some (.ireturn)]]
def nw_cd67 : List (List (Option Instr)) := [
  [some (.iload_n 1), some (.iconst 0), some (.aload_n 0), some (.getfield 48), none, none, some (.iconst 1), some (.isub), some (.invokestatic 52), none, none, some (.ireturn), none, none, none, none]]
def nw_cd68 : List (List (Option Instr)) := [
  [some (.aload_n 0), some (.iload_n 1), some (.invokevirtual 56), none, none, some (.ifCond .eq 23), none, none, some (.iload_n 2), some (.iconst 0), some (.aload_n 0), some (.getfield 7), none, none, some (.iload_n 1), some (.iaload)],
  [some (.iconst 1), some (.isub), some (.invokestatic 52), none, none, some (.ifCond .eq 7), none, none, some (.iconst 1), some (.goto 4), none, none, some (.iconst 0), some (.ireturn), none, none]]
def nw_cd69 : List (List (Option Instr)) := [
  [some (.iload_n 1), some (.iconst 0), some (.aload_n 0), some (.getfield 60), none, none, some (.iconst 1), some (.isub), some (.invokestatic 52), none, none, some (.ireturn), none, none, none, none]]
def nw_cd70 : List (List (Option Instr)) := [
  [some (.iload_n 1), some (.iconst 1), some (.bipush 6), none, some (.invokestatic 52), none, none, some (.ifCond .ne 6), none, none, some (.ldc 63), none, some (.ireturn), some (.aload_n 0), some (.getfield 48), none],
  [none, some (.iconst 5), some (.if_icmp .ne 6), none, none, some (.ldc 64), none, some (.ireturn), some (.aload_n 0), some (.getfield 7), none, none, some (.aload_n 0), some (.getfield 48), none, none],
  [some (.iload_n 1), some (.iastore), some (.aload_n 0), some (.dup), some (.getfield 48), none, none, some (.iconst 1), some (.iadd), some (.putfield 48), none, none, some (.aload_n 0), some (.iconst 0), some (.putfield 44), none],
  [none, some (.aload_n 0), some (.getfield 48), none, none, some (.iconst 1), some (.isub), some (.ireturn), none, none, none, none, none, none, none, none]]
def nw_cd71 : List (List (Option Instr)) := [
  [some (.aload_n 0), some (.iload_n 1), some (.iload_n 2), some (.invokevirtual 65), none, none, some (.ifCond .ne 6), none, none, some (.ldc 69), none, some (.ireturn), some (.iload_n 3), some (.sipush (-1000)), none, none],
  [some (.sipush 1000), none, none, some (.invokestatic 52), none, none, some (.ifCond .ne 6), none, none, some (.ldc 63), none, some (.ireturn), some (.aload_n 0), some (.getfield 13), none, none],
  [some (.bipush 6), none, some (.iload_n 1), some (.imul), some (.iload_n 2), some (.iadd), some (.iaload), some (.istore 4), none, some (.aload_n 0), some (.getfield 13), none, none, some (.bipush 6), none, some (.iload_n 1)],
  [some (.imul), some (.iload_n 2), some (.iadd), some (.iload_n 3), some (.iastore), some (.iload 4), none, some (.ireturn), none, none, none, none, none, none, none, none]]
def nw_cd72 : List (List (Option Instr)) := [
  [some (.iload_n 0), some (.tableswitch 217 0 8 #[51, 59, 70, 81, 102, 122, 143, 167, 191]), none, none, none, none, none, none, none, none, none, none, none, none, none, none],
  [none, none, none, none, none, none, none, none, none, none, none, none, none, none, none, none],
  [none, none, none, none, none, none, none, none, none, none, none, none, none, none, none, none],
  [none, none, none, none, some (.iload_n 3), some (.iconst 0), some (.bipush 63), none, some (.invokestatic 52), none, none, some (.ireturn), some (.iload_n 1), some (.iload_n 2), some (.if_icmp .eq 7), none],
  [none, some (.iconst 1), some (.goto 4), none, none, some (.iconst 0), some (.ireturn), some (.iload_n 1), some (.iload_n 2), some (.if_icmp .eq 7), none, none, some (.iconst 1), some (.goto 4), none, none],
  [some (.iconst 0), some (.ireturn), some (.iload_n 1), some (.iload_n 2), some (.if_icmp .eq 17), none, none, some (.iload_n 3), some (.bipush (-5)), none, some (.iconst 5), some (.invokestatic 52), none, none, some (.ifCond .eq 7), none],
  [none, some (.iconst 1), some (.goto 4), none, none, some (.iconst 0), some (.ireturn), some (.iload_n 1), some (.iload_n 2), some (.if_icmp .eq 16), none, none, some (.iload_n 3), some (.iconst 0), some (.iconst 5), some (.invokestatic 52)],
  [none, none, some (.ifCond .eq 7), none, none, some (.iconst 1), some (.goto 4), none, none, some (.iconst 0), some (.ireturn), some (.iload_n 1), some (.iload_n 2), some (.if_icmp .eq 17), none, none],
  [some (.iload_n 3), some (.iconst 0), some (.bipush 63), none, some (.invokestatic 52), none, none, some (.ifCond .eq 7), none, none, some (.iconst 1), some (.goto 4), none, none, some (.iconst 0), some (.ireturn)],
  [some (.iload_n 1), some (.iconst 0), some (.iconst 5), some (.invokestatic 52), none, none, some (.ifCond .eq 16), none, none, some (.iload_n 3), some (.iconst 0), some (.iconst 5), some (.invokestatic 52), none, none, some (.ifCond .eq 7)],
  [none, none, some (.iconst 1), some (.goto 4), none, none, some (.iconst 0), some (.ireturn), some (.iload_n 1), some (.iconst 0), some (.iconst 5), some (.invokestatic 52), none, none, some (.ifCond .eq 16), none],
  [none, some (.iload_n 3), some (.iconst 0), some (.iconst 5), some (.invokestatic 52), none, none, some (.ifCond .eq 7), none, none, some (.iconst 1), some (.goto 4), none, none, some (.iconst 0), some (.ireturn)],
  [some (.iload_n 1), some (.iconst 0), some (.bipush 25), none, some (.invokestatic 52), none, none, some (.ifCond .eq 17), none, none, some (.iload_n 2), some (.iload_n 1), some (.bipush 25), none, some (.invokestatic 52), none],
  [none, some (.ifCond .eq 7), none, none, some (.iconst 1), some (.goto 4), none, none, some (.iconst 0), some (.ireturn), some (.iconst 0), some (.ireturn), none, none, none, none]]
def nw_cd73 : List (List (Option Instr)) := [
  [some (.iload_n 1), some (.iconst 0), some (.iconst 5), some (.invokestatic 52), none, none, some (.istore 6), none, some (.iload_n 1), some (.iconst 1), some (.iconst 5), some (.invokestatic 52), none, none, some (.istore 7), none],
  [some (.iload 6), none, some (.ifCond .eq 11), none, none, some (.aload_n 0), some (.iload_n 2), some (.invokevirtual 56), none, none, some (.ifCond .eq 16), none, none, some (.iload 7), none, some (.ifCond .eq 14)],
  [none, none, some (.aload_n 0), some (.iload_n 3), some (.invokevirtual 56), none, none, some (.ifCond .ne 6), none, none, some (.ldc 69), none, some (.ireturn), some (.iload_n 1), some (.iload_n 2), some (.iload_n 3)],
  [some (.iload 4), none, some (.invokestatic 70), none, none, some (.ifCond .eq 15), none, none, some (.iload 5), none, some (.iconst 1), some (.sipush 1000), none, none, some (.invokestatic 52), none],
  [none, some (.ifCond .ne 6), none, none, some (.ldc 63), none, some (.ireturn), some (.aload_n 0), some (.getfield 60), none, none, some (.bipush 12), none, some (.if_icmp .ne 6), none, none],
  [some (.ldc 64), none, some (.ireturn), some (.aload_n 0), some (.getfield 16), none, none, some (.aload_n 0), some (.getfield 60), none, none, some (.iload_n 1), some (.iastore), some (.aload_n 0), some (.getfield 19), none],
  [none, some (.aload_n 0), some (.getfield 60), none, none, some (.iload_n 2), some (.iastore), some (.aload_n 0), some (.getfield 22), none, none, some (.aload_n 0), some (.getfield 60), none, none, some (.iload_n 3)],
  [some (.iastore), some (.aload_n 0), some (.getfield 25), none, none, some (.aload_n 0), some (.getfield 60), none, none, some (.iload 4), none, some (.iastore), some (.aload_n 0), some (.getfield 28), none, none],
  [some (.aload_n 0), some (.getfield 60), none, none, some (.iload 5), none, some (.iastore), some (.aload_n 0), some (.getfield 31), none, none, some (.aload_n 0), some (.getfield 60), none, none, some (.iconst 1)],
  [some (.iastore), some (.aload_n 0), some (.dup), some (.getfield 60), none, none, some (.iconst 1), some (.iadd), some (.putfield 60), none, none, some (.aload_n 0), some (.iconst 0), some (.putfield 44), none, none],
  [some (.aload_n 0), some (.getfield 60), none, none, some (.iconst 1), some (.isub), some (.ireturn), none, none, none, none, none, none, none, none, none]]
def nw_cd74 : List (List (Option Instr)) := [
  [some (.aload_n 0), some (.iload_n 1), some (.invokevirtual 74), none, none, some (.ifCond .ne 6), none, none, some (.ldc 69), none, some (.ireturn), some (.iload_n 2), some (.iconst 0), some (.iconst 2), some (.invokestatic 52), none],
  [none, some (.ifCond .ne 6), none, none, some (.ldc 63), none, some (.ireturn), some (.aload_n 0), some (.getfield 31), none, none, some (.iload_n 1), some (.iaload), some (.istore_n 3), some (.aload_n 0), some (.getfield 31)],
  [none, none, some (.iload_n 1), some (.iload_n 2), some (.iastore), some (.iload_n 3), some (.ireturn), none, none, none, none, none, none, none, none, none]]
def nw_cd75 : List (List (Option Instr)) := [
  [some (.aload_n 0), some (.iload_n 1), some (.invokevirtual 74), none, none, some (.ifCond .ne 6), none, none, some (.ldc 69), none, some (.ireturn), some (.iload_n 2), some (.iconst 1), some (.sipush 1000), none, none],
  [some (.invokestatic 52), none, none, some (.ifCond .ne 6), none, none, some (.ldc 63), none, some (.ireturn), some (.aload_n 0), some (.getfield 28), none, none, some (.iload_n 1), some (.iaload), some (.istore_n 3)],
  [some (.aload_n 0), some (.getfield 28), none, none, some (.iload_n 1), some (.iload_n 2), some (.iastore), some (.iload_n 3), some (.ireturn), none, none, none, none, none, none, none]]
def nw_cd76 : List (List (Option Instr)) := [
  [some (.aload_n 0), some (.iload_n 1), some (.invokevirtual 74), none, none, some (.ifCond .ne 6), none, none, some (.ldc 69), none, some (.ireturn), some (.iload_n 2), some (.tableswitch 82 0 5 #[40, 47, 54, 61, 68, 75]), none, none, none],
  [none, none, none, none, none, none, none, none, none, none, none, none, none, none, none, none],
  [none, none, none, none, none, none, none, none, none, none, none, none, none, none, none, none],
  [none, none, none, none, some (.aload_n 0), some (.getfield 16), none, none, some (.iload_n 1), some (.iaload), some (.ireturn), some (.aload_n 0), some (.getfield 19), none, none, some (.iload_n 1)],
  [some (.iaload), some (.ireturn), some (.aload_n 0), some (.getfield 22), none, none, some (.iload_n 1), some (.iaload), some (.ireturn), some (.aload_n 0), some (.getfield 25), none, none, some (.iload_n 1), some (.iaload), some (.ireturn)],
  [some (.aload_n 0), some (.getfield 28), none, none, some (.iload_n 1), some (.iaload), some (.ireturn), some (.aload_n 0), some (.getfield 31), none, none, some (.iload_n 1), some (.iaload), some (.ireturn), some (.ldc 63), none],
  [some (.ireturn), none, none, none, none, none, none, none, none, none, none, none, none, none, none, none]]
def nw_cd77 : List (List (Option Instr)) := [
  [some (.iconst 1), some (.istore_n 1), some (.iconst 0), some (.istore_n 2), some (.iload_n 2), some (.aload_n 0), some (.getfield 48), none, none, some (.if_icmp .ge 18), none, none, some (.iload_n 1), some (.aload_n 0), some (.getfield 7), none],
  [none, some (.iload_n 2), some (.iaload), some (.imul), some (.istore_n 1), some (.iinc 2 1), none, none, some (.goto (-20)), none, none, some (.iload_n 1), some (.ireturn), none, none, none]]
def nw_cd78 : List (List (Option Instr)) := [
  [some (.iload_n 1), some (.istore_n 2), some (.aload_n 0), some (.getfield 48), none, none, some (.iconst 1), some (.isub), some (.istore_n 3), some (.iload_n 3), some (.ifCond .lt 32), none, none, some (.aload_n 0), some (.getfield 41), none],
  [none, some (.iload_n 3), some (.iload_n 2), some (.aload_n 0), some (.getfield 7), none, none, some (.iload_n 3), some (.iaload), some (.irem), some (.iastore), some (.iload_n 2), some (.aload_n 0), some (.getfield 7), none, none],
  [some (.iload_n 3), some (.iaload), some (.idiv), some (.istore_n 2), some (.iinc 3 (-1)), none, none, some (.goto (-30)), none, none, some (.return_), none, none, none, none, none]]
def nw_cd79 : List (List (Option Instr)) := [
  [some (.aload_n 0), some (.getfield 19), none, none, some (.iload_n 1), some (.iaload), some (.istore_n 2), some (.aload_n 0), some (.getfield 22), none, none, some (.iload_n 1), some (.iaload), some (.istore_n 3), some (.aload_n 0), some (.getfield 25)],
  [none, none, some (.iload_n 1), some (.iaload), some (.istore 4), none, some (.iconst 0), some (.istore 5), none, some (.iconst 0), some (.istore 6), none, some (.iconst 0), some (.istore 7), none, some (.iload 7)],
  [none, some (.aload_n 0), some (.getfield 48), none, none, some (.if_icmp .ge 42), none, none, some (.iload 5), none, some (.aload_n 0), some (.getfield 41), none, none, some (.iload 7), none],
  [some (.iaload), some (.iload_n 2), some (.if_icmp .ne 7), none, none, some (.iconst 1), some (.goto 4), none, none, some (.iconst 0), some (.iadd), some (.istore 5), none, some (.iload 6), none, some (.aload_n 0)],
  [some (.getfield 41), none, none, some (.iload 7), none, some (.iaload), some (.iadd), some (.istore 6), none, some (.iinc 7 1), none, none, some (.goto (-45)), none, none, some (.aload_n 0)],
  [some (.getfield 16), none, none, some (.iload_n 1), some (.iaload), some (.tableswitch 236 0 7 #[47, 68, 89, 110, 134, 176, 210, 223]), none, none, none, none, none, none, none, none, none, none],
  [none, none, none, none, none, none, none, none, none, none, none, none, none, none, none, none],
  [none, none, none, none, none, none, none, none, none, none, none, none, none, none, none, none],
  [none, none, none, none, some (.iload 4), none, some (.aload_n 0), some (.getfield 41), none, none, some (.iload_n 2), some (.iaload), some (.ishr), some (.iconst 1), some (.iand), some (.iconst 1)],
  [some (.if_icmp .ne 7), none, none, some (.iconst 1), some (.goto 4), none, none, some (.iconst 0), some (.ireturn), some (.aload_n 0), some (.getfield 41), none, none, some (.iload_n 2), some (.iaload), some (.aload_n 0)],
  [some (.getfield 41), none, none, some (.iload_n 3), some (.iaload), some (.if_icmp .eq 7), none, none, some (.iconst 1), some (.goto 4), none, none, some (.iconst 0), some (.ireturn), some (.aload_n 0), some (.getfield 41)],
  [none, none, some (.iload_n 2), some (.iaload), some (.aload_n 0), some (.getfield 41), none, none, some (.iload_n 3), some (.iaload), some (.if_icmp .ne 7), none, none, some (.iconst 1), some (.goto 4), none],
  [none, some (.iconst 0), some (.ireturn), some (.aload_n 0), some (.getfield 41), none, none, some (.iload_n 3), some (.iaload), some (.aload_n 0), some (.getfield 41), none, none, some (.iload_n 2), some (.iaload), some (.iload 4)],
  [none, some (.iadd), some (.if_icmp .lt 7), none, none, some (.iconst 1), some (.goto 4), none, none, some (.iconst 0), some (.ireturn), some (.aload_n 0), some (.getfield 41), none, none, some (.iload_n 2)],
  [some (.iaload), some (.aload_n 0), some (.getfield 41), none, none, some (.iload_n 3), some (.iaload), some (.isub), some (.iload 4), none, some (.if_icmp .gt 25), none, none, some (.aload_n 0), some (.getfield 41), none],
  [none, some (.iload_n 3), some (.iaload), some (.aload_n 0), some (.getfield 41), none, none, some (.iload_n 2), some (.iaload), some (.isub), some (.iload 4), none, some (.if_icmp .gt 7), none, none, some (.iconst 1)],
  [some (.goto 4), none, none, some (.iconst 0), some (.ireturn), some (.aload_n 0), some (.getfield 41), none, none, some (.iload_n 2), some (.iaload), some (.iload 4), none, some (.bipush 8), none, some (.idiv)],
  [some (.if_icmp .ne 17), none, none, some (.aload_n 0), some (.getfield 41), none, none, some (.iload_n 3), some (.iaload), some (.iload 4), none, some (.bipush 8), none, some (.irem), some (.if_icmp .ne 7), none],
  [none, some (.iconst 1), some (.goto 4), none, none, some (.iconst 0), some (.ireturn), some (.iload 5), none, some (.iload 4), none, some (.if_icmp .gt 7), none, none, some (.iconst 1), some (.goto 4)],
  [none, none, some (.iconst 0), some (.ireturn), some (.iload 5), none, some (.iload 4), none, some (.if_icmp .lt 7), none, none, some (.iconst 1), some (.goto 4), none, none, some (.iconst 0)],
  [some (.ireturn), some (.iload 6), none, some (.iload_n 2), some (.if_icmp .lt 13), none, none, some (.iload 6), none, some (.iload_n 3), some (.if_icmp .gt 7), none, none, some (.iconst 1), some (.goto 4), none],
  [none, some (.iconst 0), some (.ireturn), none, none, none, none, none, none, none, none, none, none, none, none, none]]
def nw_cd80 : List (List (Option Instr)) := [
  [some (.iconst 0), some (.istore_n 1), some (.iconst 0), some (.istore_n 2), some (.iload_n 2), some (.aload_n 0), some (.getfield 60), none, none, some (.if_icmp .ge 27), none, none, some (.iload_n 1), some (.aload_n 0), some (.iload_n 2), some (.invokevirtual 77)],
  [none, none, some (.ifCond .eq 7), none, none, some (.iconst 0), some (.goto 6), none, none, some (.iconst 1), some (.iload_n 2), some (.ishl), some (.ior), some (.istore_n 1), some (.iinc 2 1), none],
  [none, some (.goto (-29)), none, none, some (.iload_n 1), some (.ireturn), none, none, none, none, none, none, none, none, none, none]]
def nw_cd81 : List (List (Option Instr)) := [
  [some (.aload_n 0), some (.getfield 44), none, none, some (.ifCond .ne 41), none, none, some (.aload_n 0), some (.iconst 1), some (.putfield 44), none, none, some (.aload_n 0), some (.invokevirtual 80), none, none],
  [some (.istore_n 1), some (.iconst 0), some (.istore_n 2), some (.iload_n 2), some (.iload_n 1), some (.if_icmp .ge 24), none, none, some (.aload_n 0), some (.iload_n 2), some (.invokevirtual 84), none, none, some (.aload_n 0), some (.getfield 34), none],
  [none, some (.iload_n 2), some (.aload_n 0), some (.invokevirtual 88), none, none, some (.iastore), some (.iinc 2 1), none, none, some (.goto (-23)), none, none, some (.return_), none, none]]
def nw_cd82 : List (List (Option Instr)) := [
  [some (.iconst 0), some (.istore_n 2), some (.iconst 0), some (.istore_n 3), some (.iload_n 3), some (.aload_n 0), some (.getfield 60), none, none, some (.if_icmp .ge 29), none, none, some (.iload_n 2), some (.aload_n 0), some (.getfield 31), none],
  [none, some (.iload_n 3), some (.iaload), some (.iload_n 1), some (.if_icmp .ne 9), none, none, some (.iconst 1), some (.iload_n 3), some (.ishl), some (.goto 4), none, none, some (.iconst 0), some (.ior), some (.istore_n 2)],
  [some (.iinc 3 1), none, none, some (.goto (-31)), none, none, some (.iload_n 2), some (.ireturn), none, none, none, none, none, none, none, none]]
def nw_cd83 : List (List (Option Instr)) := [
  [some (.iconst 0), some (.istore_n 2), some (.iconst 0), some (.istore_n 3), some (.iload_n 3), some (.aload_n 0), some (.getfield 60), none, none, some (.if_icmp .ge 31), none, none, some (.iload_n 2), some (.iload_n 1), some (.iload_n 3), some (.ishr)],
  [some (.iconst 1), some (.iand), some (.iconst 1), some (.if_icmp .ne 12), none, none, some (.aload_n 0), some (.getfield 28), none, none, some (.iload_n 3), some (.iaload), some (.goto 4), none, none, some (.iconst 0)],
  [some (.iadd), some (.istore_n 2), some (.iinc 3 1), none, none, some (.goto (-33)), none, none, some (.iload_n 2), some (.ireturn), none, none, none, none, none, none]]
def nw_cd84 : List (List (Option Instr)) := [
  [some (.aload_n 0), some (.iload_n 1), some (.invokevirtual 84), none, none, some (.aload_n 0), some (.getfield 41), none, none, some (.iload_n 2), some (.iaload), some (.ireturn), none, none, none, none]]
def nw_cd85 : List (List (Option Instr)) := [
  [some (.iconst 0), some (.istore_n 3), some (.iconst 0), some (.istore 4), none, some (.iload 4), none, some (.aload_n 0), some (.getfield 48), none, none, some (.if_icmp .ge 30), none, none, some (.iload_n 3), some (.aload_n 0)],
  [some (.getfield 13), none, none, some (.bipush 6), none, some (.iload 4), none, some (.imul), some (.aload_n 0), some (.getfield 41), none, none, some (.iload 4), none, some (.iaload), some (.iadd)],
  [some (.iaload), some (.iadd), some (.istore_n 3), some (.iinc 4 1), none, none, some (.goto (-33)), none, none, some (.iload_n 3), some (.aload_n 0), some (.iload_n 1), some (.iload_n 2), some (.iand), some (.invokevirtual 91), none],
  [none, some (.isub), some (.ireturn), none, none, none, none, none, none, none, none, none, none, none, none, none]]
def nw_cd86 : List (List (Option Instr)) := [
  [some (.aload_n 0), some (.iload_n 1), some (.invokevirtual 84), none, none, some (.aload_n 0), some (.aload_n 0), some (.getfield 34), none, none, some (.iload_n 1), some (.iaload), some (.iload_n 2), some (.invokevirtual 95), none, none],
  [some (.ireturn), none, none, none, none, none, none, none, none, none, none, none, none, none, none, none]]
def nw_cd87 : List (List (Option Instr)) := [
  [some (.aload_n 0), some (.invokevirtual 99), none, none, some (.iconst (-1)), some (.istore 6), none, some (.aload_n 0), some (.invokevirtual 80), none, none, some (.istore 7), none, some (.iconst 0), some (.istore 8), none],
  [some (.iload 8), none, some (.iload 7), none, some (.if_icmp .ge 103), none, none, some (.aload_n 0), some (.getfield 34), none, none, some (.iload 8), none, some (.iaload), some (.iload_n 1), some (.iand)],
  [some (.ifCond .ne 43), none, none, some (.iload 5), none, some (.ifCond .eq 34), none, none, some (.aload_n 0), some (.iload 8), none, some (.iload_n 3), some (.invokevirtual 102), none, none, some (.iload 4)],
  [none, some (.if_icmp .ne 7), none, none, some (.iconst 1), some (.goto 4), none, none, some (.iconst 0), some (.iload 5), none, some (.iconst 1), some (.if_icmp .ne 7), none, none, some (.iconst 1)],
  [some (.goto 4), none, none, some (.iconst 0), some (.if_icmp .ne 7), none, none, some (.iconst 1), some (.goto 4), none, none, some (.iconst 0), some (.istore 9), none, some (.iload 9), none],
  [some (.ifCond .eq 37), none, none, some (.aload_n 0), some (.iload 8), none, some (.iload_n 2), some (.invokevirtual 105), none, none, some (.istore 10), none, some (.iload 6), none, some (.iconst (-1)), some (.if_icmp .eq 12)],
  [none, none, some (.iload 10), none, some (.aload_n 0), some (.getfield 108), none, none, some (.if_icmp .le 13), none, none, some (.iload 8), none, some (.istore 6), none, some (.aload_n 0)],
  [some (.iload 10), none, some (.putfield 108), none, none, some (.iinc 8 1), none, none, some (.goto (-104)), none, none, some (.iload 6), none, some (.ireturn), none, none]]
def nw_cd88 : List (List (Option Instr)) := [
  [some (.aload_n 0), some (.aload_n 0), some (.iconst 1), some (.invokevirtual 111), none, none, some (.aload_n 0), some (.iconst 2), some (.invokevirtual 111), none, none, some (.iconst 0), some (.iconst 0), some (.iconst 0), some (.invokevirtual 114), none],
  [none, some (.ireturn), none, none, none, none, none, none, none, none, none, none, none, none, none, none]]
def nw_cd89 : List (List (Option Instr)) := [
  [some (.aload_n 0), some (.invokevirtual 99), none, none, some (.aload_n 0), some (.iconst 1), some (.invokevirtual 111), none, none, some (.istore_n 1), some (.iconst 0), some (.istore_n 2), some (.iload_n 2), some (.sipush 4096), none, none],
  [some (.if_icmp .ge 16), none, none, some (.aload_n 0), some (.getfield 37), none, none, some (.iload_n 2), some (.iconst 0), some (.bastore), some (.iinc 2 1), none, none, some (.goto (-17)), none, none],
  [some (.aload_n 0), some (.invokevirtual 80), none, none, some (.istore_n 2), some (.iconst 0), some (.istore_n 3), some (.iload_n 3), some (.iload_n 2), some (.if_icmp .ge 25), none, none, some (.aload_n 0), some (.getfield 37), none, none],
  [some (.iload_n 1), some (.aload_n 0), some (.getfield 34), none, none, some (.iload_n 3), some (.iaload), some (.iconst (-1)), some (.ixor), some (.iand), some (.iconst 1), some (.bastore), some (.iinc 3 1), none, none, some (.goto (-24))],
  [none, none, some (.sipush 4095), none, none, some (.istore_n 3), some (.iload_n 3), some (.ifCond .lt 48), none, none, some (.iconst 0), some (.istore 4), none, some (.iload 4), none, some (.bipush 12)],
  [none, some (.if_icmp .ge 32), none, none, some (.aload_n 0), some (.getfield 37), none, none, some (.iload_n 3), some (.baload), some (.ifCond .eq 23), none, none, some (.aload_n 0), some (.getfield 37), none],
  [none, some (.iload_n 3), some (.iconst 1), some (.iload 4), none, some (.ishl), some (.iconst (-1)), some (.ixor), some (.iand), some (.iconst 1), some (.bastore), some (.iinc 4 1), none, none, some (.goto (-33)), none],
  [none, some (.iinc 3 (-1)), none, none, some (.goto (-46)), none, none, some (.return_), none, none, none, none, none, none, none, none]]
def nw_cd90 : List (List (Option Instr)) := [
  [some (.iload_n 1), some (.iload_n 2), some (.iconst (-1)), some (.ixor), some (.iand), some (.ifCond .ne 16), none, none, some (.aload_n 0), some (.getfield 37), none, none, some (.iload_n 1), some (.baload), some (.ifCond .ne 7), none],
  [none, some (.iconst 1), some (.goto 4), none, none, some (.iconst 0), some (.istore_n 3), some (.iconst 0), some (.istore 4), none, some (.iload 4), none, some (.bipush 12), none, some (.if_icmp .ge 42), none],
  [none, some (.iload_n 3), some (.ifCond .eq 38), none, none, some (.iload_n 1), some (.iload 4), none, some (.ishr), some (.iconst 1), some (.iand), some (.ifCond .eq 17), none, none, some (.aload_n 0), some (.getfield 37)],
  [none, none, some (.iload_n 1), some (.iconst 1), some (.iload 4), none, some (.ishl), some (.ixor), some (.baload), some (.ifCond .eq 7), none, none, some (.iconst 1), some (.goto 4), none, none],
  [some (.iconst 0), some (.istore_n 3), some (.iinc 4 1), none, none, some (.goto (-43)), none, none, some (.iload_n 3), some (.ireturn), none, none, none, none, none, none]]
def nw_cd91 : List (List (Option Instr)) := [
  [some (.iload_n 1), some (.iload_n 2), some (.iconst (-1)), some (.ixor), some (.iand), some (.ifCond .ne 20), none, none, some (.aload_n 0), some (.getfield 37), none, none, some (.iload_n 2), some (.iload_n 1), some (.iconst (-1)), some (.ixor)],
  [some (.iand), some (.baload), some (.ifCond .eq 7), none, none, some (.iconst 1), some (.goto 4), none, none, some (.iconst 0), some (.istore_n 3), some (.iconst 0), some (.istore 4), none, some (.iload 4), none],
  [some (.bipush 12), none, some (.if_icmp .ge 46), none, none, some (.iload_n 3), some (.ifCond .eq 42), none, none, some (.iload_n 1), some (.iload 4), none, some (.ishr), some (.iconst 1), some (.iand), some (.ifCond .eq 21)],
  [none, none, some (.aload_n 0), some (.getfield 37), none, none, some (.iload_n 2), some (.iload_n 1), some (.iconst (-1)), some (.ixor), some (.iand), some (.iconst 1), some (.iload 4), none, some (.ishl), some (.ior)],
  [some (.baload), some (.ifCond .ne 7), none, none, some (.iconst 1), some (.goto 4), none, none, some (.iconst 0), some (.istore_n 3), some (.iinc 4 1), none, none, some (.goto (-47)), none, none],
  [some (.iload_n 3), some (.ireturn), none, none, none, none, none, none, none, none, none, none, none, none, none, none]]
def nw_cd92 : List (List (Option Instr)) := [
  [some (.iconst 0), some (.istore_n 1), some (.iconst 0), some (.istore_n 2), some (.iload_n 2), some (.bipush 12), none, some (.if_icmp .ge 17), none, none, some (.iload_n 1), some (.iload_n 0), some (.iload_n 2), some (.ishr), some (.iconst 1), some (.iand)],
  [some (.iadd), some (.istore_n 1), some (.iinc 2 1), none, none, some (.goto (-17)), none, none, some (.iload_n 1), some (.ireturn), none, none, none, none, none, none]]
def nw_cd93 : List (List (Option Instr)) := [
  [some (.iload_n 2), some (.ifCond .eq 10), none, none, some (.iload_n 1), some (.invokestatic 118), none, none, some (.goto 8), none, none, some (.aload_n 0), some (.iload_n 1), some (.invokevirtual 91), none, none],
  [some (.ireturn), none, none, none, none, none, none, none, none, none, none, none, none, none, none, none]]
def nw_cd94 : List (List (Option Instr)) := [
  [some (.aload_n 0), some (.invokevirtual 121), none, none, some (.aload_n 0), some (.iconst 1), some (.invokevirtual 111), none, none, some (.istore_n 2), some (.iconst 0), some (.istore_n 3), some (.iconst 0), some (.istore 4), none, some (.iload 4)],
  [none, some (.sipush 4096), none, none, some (.if_icmp .ge 44), none, none, some (.iload_n 3), some (.iload_n 1), some (.ifCond .eq 16), none, none, some (.aload_n 0), some (.iload 4), none, some (.iload_n 2)],
  [some (.invokevirtual 124), none, none, some (.ifCond .eq 20), none, none, some (.goto 13), none, none, some (.aload_n 0), some (.iload 4), none, some (.iload_n 2), some (.invokevirtual 127), none, none],
  [some (.ifCond .eq 7), none, none, some (.iconst 1), some (.goto 4), none, none, some (.iconst 0), some (.iadd), some (.istore_n 3), some (.iinc 4 1), none, none, some (.goto (-46)), none, none],
  [some (.iload_n 3), some (.ireturn), none, none, none, none, none, none, none, none, none, none, none, none, none, none]]
def nw_cd95 : List (List (Option Instr)) := [
  [some (.iload_n 1), some (.ifCond .ge 6), none, none, some (.ldc 130), none, some (.ireturn), some (.aload_n 0), some (.invokevirtual 121), none, none, some (.aload_n 0), some (.iconst 1), some (.invokevirtual 111), none, none],
  [some (.istore_n 3), some (.iconst (-1)), some (.istore 4), none, some (.iconst 0), some (.istore 5), none, some (.iload 5), none, some (.iload_n 1), some (.if_icmp .gt 154), none, none, some (.iconst (-1)), some (.istore 6), none],
  [some (.iconst 0), some (.istore 7), none, some (.iload 7), none, some (.sipush 4096), none, none, some (.if_icmp .ge 121), none, none, some (.iload_n 2), some (.ifCond .eq 16), none, none, some (.aload_n 0)],
  [some (.iload 7), none, some (.iload_n 3), some (.invokevirtual 124), none, none, some (.ifCond .eq 101), none, none, some (.goto 13), none, none, some (.aload_n 0), some (.iload 7), none, some (.iload_n 3)],
  [some (.invokevirtual 127), none, none, some (.ifCond .eq 88), none, none, some (.aload_n 0), some (.iload 7), none, some (.iload_n 2), some (.invokevirtual 131), none, none, some (.istore 8), none, some (.iload 4)],
  [none, some (.iconst (-1)), some (.if_icmp .eq 34), none, none, some (.iload 8), none, some (.aload_n 0), some (.iload 4), none, some (.iload_n 2), some (.invokevirtual 131), none, none, some (.if_icmp .gt 22), none],
  [none, some (.iload 8), none, some (.aload_n 0), some (.iload 4), none, some (.iload_n 2), some (.invokevirtual 131), none, none, some (.if_icmp .ne 14), none, none, some (.iload 7), none, some (.iload 4)],
  [none, some (.if_icmp .le 7), none, none, some (.iconst 1), some (.goto 4), none, none, some (.iconst 0), some (.istore 9), none, some (.iload 9), none, some (.ifCond .eq 26), none, none],
  [some (.iload 6), none, some (.iconst (-1)), some (.if_icmp .eq 15), none, none, some (.iload 8), none, some (.aload_n 0), some (.iload 6), none, some (.iload_n 2), some (.invokevirtual 131), none, none, some (.if_icmp .ge 8)],
  [none, none, some (.iload 7), none, some (.goto 5), none, none, some (.iload 6), none, some (.istore 6), none, some (.iinc 7 1), none, none, some (.goto (-123)), none],
  [none, some (.iload 6), none, some (.iconst (-1)), some (.if_icmp .ne 6), none, none, some (.ldc 130), none, some (.ireturn), some (.iload 6), none, some (.istore 4), none, some (.iinc 5 1), none],
  [none, some (.goto (-154)), none, none, some (.iload 4), none, some (.ireturn), none, none, none, none, none, none, none, none, none]]
def nw_cd96 : List (List (Option Instr)) := [
  [some (.aload_n 0), some (.invokevirtual 99), none, none, some (.aload_n 0), some (.iconst 1), some (.invokevirtual 111), none, none, some (.istore_n 3), some (.aload_n 0), some (.iconst 2), some (.invokevirtual 111), none, none, some (.istore 4)],
  [none, some (.iconst 0), some (.istore 5), none, some (.aload_n 0), some (.invokevirtual 80), none, none, some (.istore 6), none, some (.iconst 0), some (.istore 7), none, some (.iload 7), none, some (.iload 6)],
  [none, some (.if_icmp .ge 47), none, none, some (.iload 5), none, some (.aload_n 0), some (.getfield 34), none, none, some (.iload 7), none, some (.iaload), some (.iload_n 3), some (.iand), some (.ifCond .ne 23)],
  [none, none, some (.iload_n 1), some (.ifCond .eq 15), none, none, some (.aload_n 0), some (.iload 7), none, some (.iload 4), none, some (.invokevirtual 105), none, none, some (.iload_n 2), some (.if_icmp .ne 7)],
  [none, none, some (.iconst 1), some (.goto 4), none, none, some (.iconst 0), some (.iadd), some (.istore 5), none, some (.iinc 7 1), none, none, some (.goto (-48)), none, none],
  [some (.iload 5), none, some (.ireturn), none, none, none, none, none, none, none, none, none, none, none, none, none]]
def nw_cd97 : List (List (Option Instr)) := [
  [some (.iload_n 1), some (.tableswitch 99 0 6 #[43, 48, 53, 58, 65, 87, 93]), none, none, none, none, none, none, none, none, none, none, none, none, none, none],
  [none, none, none, none, none, none, none, none, none, none, none, none, none, none, none, none],
  [none, none, none, none, none, none, none, none, none, none, none, none, some (.aload_n 0), some (.getfield 48), none, none],
  [some (.ireturn), some (.aload_n 0), some (.getfield 60), none, none, some (.ireturn), some (.aload_n 0), some (.invokevirtual 80), none, none, some (.ireturn), some (.aload_n 0), some (.iconst 0), some (.iconst 0), some (.invokevirtual 135), none],
  [none, some (.ireturn), some (.aload_n 0), some (.invokevirtual 139), none, none, some (.iconst (-1)), some (.if_icmp .ne 7), none, none, some (.iconst 0), some (.goto 12), none, none, some (.aload_n 0), some (.iconst 1)],
  [some (.aload_n 0), some (.getfield 108), none, none, some (.invokevirtual 135), none, none, some (.ireturn), some (.aload_n 0), some (.iconst 1), some (.invokevirtual 142), none, none, some (.ireturn), some (.aload_n 0), some (.iconst 0)],
  [some (.invokevirtual 142), none, none, some (.ireturn), some (.ldc 63), none, some (.ireturn), none, none, none, none, none, none, none, none, none]]
def nw_cd98 : List (List (Option Instr)) := [
  [some (.aload_n 0), some (.invokevirtual 139), none, none, some (.iconst (-1)), some (.if_icmp .ne 8), none, none, some (.ldc 130), none, some (.goto 7), none, none, some (.aload_n 0), some (.getfield 108), none],
  [none, some (.ireturn), none, none, none, none, none, none, none, none, none, none, none, none, none, none]]
def nw_cd99 : List (List (Option Instr)) := [
  [some (.aload_n 0), some (.iload_n 1), some (.invokevirtual 56), none, none, some (.ifCond .ne 6), none, none, some (.ldc 69), none, some (.ireturn), some (.aload_n 0), some (.invokevirtual 139), none, none, some (.istore_n 2)],
  [some (.iload_n 2), some (.iconst (-1)), some (.if_icmp .ne 8), none, none, some (.ldc 130), none, some (.goto 9), none, none, some (.aload_n 0), some (.iload_n 2), some (.iload_n 1), some (.invokevirtual 102), none, none],
  [some (.ireturn), none, none, none, none, none, none, none, none, none, none, none, none, none, none, none]]
def nw_cd100 : List (List (Option Instr)) := [
  [some (.aload_n 0), some (.iload_n 1), some (.invokevirtual 56), none, none, some (.ifCond .ne 6), none, none, some (.ldc 69), none, some (.ireturn), some (.aload_n 0), some (.invokevirtual 139), none, none, some (.istore_n 2)],
  [some (.iload_n 2), some (.iconst (-1)), some (.if_icmp .ne 6), none, none, some (.ldc 130), none, some (.ireturn), some (.aload_n 0), some (.iconst 1), some (.invokevirtual 111), none, none, some (.istore_n 3), some (.aload_n 0), some (.iconst 2)],
  [some (.invokevirtual 111), none, none, some (.istore 4), none, some (.aload_n 0), some (.iload_n 2), some (.iload_n 1), some (.invokevirtual 102), none, none, some (.istore 5), none, some (.aload_n 0), some (.invokevirtual 80), none],
  [none, some (.istore 6), none, some (.iload_n 2), some (.istore 7), none, some (.iload 7), none, some (.iload 6), none, some (.if_icmp .ge 50), none, none, some (.aload_n 0), some (.getfield 34), none],
  [none, some (.iload 7), none, some (.iaload), some (.iload_n 3), some (.iand), some (.ifCond .ne 32), none, none, some (.aload_n 0), some (.iload 7), none, some (.iload 4), none, some (.invokevirtual 105), none],
  [none, some (.aload_n 0), some (.getfield 108), none, none, some (.if_icmp .ne 17), none, none, some (.aload_n 0), some (.iload 7), none, some (.iload_n 1), some (.invokevirtual 102), none, none, some (.iload 5)],
  [none, some (.if_icmp .eq 5), none, none, some (.iconst (-1)), some (.ireturn), some (.iinc 7 1), none, none, some (.goto (-51)), none, none, some (.iload 5), none, some (.ireturn), none]]
def nw_cd101 : List (List (Option Instr)) := [
  [some (.aload_n 0), some (.iload_n 1), some (.iload_n 2), some (.invokevirtual 65), none, none, some (.ifCond .ne 6), none, none, some (.ldc 69), none, some (.ireturn), some (.aload_n 0), some (.aload_n 0), some (.iconst 1), some (.invokevirtual 111)],
  [none, none, some (.aload_n 0), some (.iconst 2), some (.invokevirtual 111), none, none, some (.iload_n 1), some (.iload_n 2), some (.iconst 1), some (.invokevirtual 114), none, none, some (.iconst (-1)), some (.if_icmp .ne 8), none],
  [none, some (.ldc 130), none, some (.goto 7), none, none, some (.aload_n 0), some (.getfield 108), none, none, some (.ireturn), none, none, none, none, none]]
def nw_cd102 : List (List (Option Instr)) := [
  [some (.aload_n 0), some (.iload_n 1), some (.iload_n 2), some (.invokevirtual 65), none, none, some (.ifCond .eq 11), none, none, some (.aload_n 0), some (.iload_n 3), some (.invokevirtual 56), none, none, some (.ifCond .ne 6), none],
  [none, some (.ldc 69), none, some (.ireturn), some (.aload_n 0), some (.aload_n 0), some (.iconst 1), some (.invokevirtual 111), none, none, some (.aload_n 0), some (.iconst 2), some (.invokevirtual 111), none, none, some (.iload_n 1)],
  [some (.iload_n 2), some (.iconst 1), some (.invokevirtual 114), none, none, some (.istore 4), none, some (.iload 4), none, some (.iconst (-1)), some (.if_icmp .ne 8), none, none, some (.ldc 130), none, some (.goto 10)],
  [none, none, some (.aload_n 0), some (.iload 4), none, some (.iload_n 3), some (.invokevirtual 102), none, none, some (.ireturn), none, none, none, none, none, none]]
def nw_cd103 : List (List (Option Instr)) := [
  [some (.aload_n 0), some (.iload_n 1), some (.iload_n 2), some (.invokevirtual 65), none, none, some (.ifCond .ne 6), none, none, some (.ldc 69), none, some (.ireturn), some (.aload_n 0), some (.aload_n 0), some (.iconst 1), some (.invokevirtual 111)],
  [none, none, some (.aload_n 0), some (.iconst 2), some (.invokevirtual 111), none, none, some (.iload_n 1), some (.iload_n 2), some (.iconst 2), some (.invokevirtual 114), none, none, some (.iconst (-1)), some (.if_icmp .ne 8), none],
  [none, some (.ldc 130), none, some (.goto 7), none, none, some (.aload_n 0), some (.getfield 108), none, none, some (.ireturn), none, none, none, none, none]]
def nw_cd104 : List (List (Option Instr)) := [
  [some (.aload_n 0), some (.iload_n 1), some (.iload_n 2), some (.invokevirtual 65), none, none, some (.ifCond .ne 6), none, none, some (.ldc 69), none, some (.ireturn), some (.aload_n 0), some (.aload_n 0), some (.iconst 1), some (.invokevirtual 111)],
  [none, none, some (.aload_n 0), some (.iconst 2), some (.invokevirtual 111), none, none, some (.iload_n 1), some (.iload_n 2), some (.iconst 1), some (.invokevirtual 114), none, none, some (.istore_n 3), some (.aload_n 0), some (.getfield 108)],
  [none, none, some (.istore 4), none, some (.aload_n 0), some (.aload_n 0), some (.iconst 1), some (.invokevirtual 111), none, none, some (.aload_n 0), some (.iconst 2), some (.invokevirtual 111), none, none, some (.iload_n 1)],
  [some (.iload_n 2), some (.iconst 2), some (.invokevirtual 114), none, none, some (.istore 5), none, some (.aload_n 0), some (.getfield 108), none, none, some (.istore 6), none, some (.iload_n 3), some (.iconst (-1)), some (.if_icmp .ne 6)],
  [none, none, some (.ldc 130), none, some (.ireturn), some (.iload 5), none, some (.iconst (-1)), some (.if_icmp .ne 5), none, none, some (.iconst 0), some (.ireturn), some (.iconst 0), some (.istore 7), none],
  [some (.iload 4), none, some (.iload 7), none, some (.iadd), some (.iload 6), none, some (.if_icmp .lt 19), none, none, some (.iload 4), none, some (.iload 7), none, some (.iadd), some (.iload 6)],
  [none, some (.if_icmp .ne 15), none, none, some (.iload 5), none, some (.iload_n 3), some (.if_icmp .ge 9), none, none, some (.iinc 7 1), none, none, some (.goto (-29)), none, none],
  [some (.iload 7), none, some (.ireturn), none, none, none, none, none, none, none, none, none, none, none, none, none]]
def nw_cd105 : List (List (Option Instr)) := [
  [some (.aload_n 0), some (.iload_n 1), some (.iload_n 2), some (.invokevirtual 65), none, none, some (.ifCond .ne 6), none, none, some (.ldc 69), none, some (.ireturn), some (.aload_n 0), some (.aload_n 0), some (.iconst 1), some (.invokevirtual 111)],
  [none, none, some (.aload_n 0), some (.iconst 2), some (.invokevirtual 111), none, none, some (.iload_n 1), some (.iload_n 2), some (.iconst 1), some (.invokevirtual 114), none, none, some (.istore_n 3), some (.aload_n 0), some (.getfield 108)],
  [none, none, some (.istore 4), none, some (.aload_n 0), some (.aload_n 0), some (.iconst 1), some (.invokevirtual 111), none, none, some (.aload_n 0), some (.iconst 2), some (.invokevirtual 111), none, none, some (.iload_n 1)],
  [some (.iload_n 2), some (.iconst 2), some (.invokevirtual 114), none, none, some (.istore 5), none, some (.aload_n 0), some (.getfield 108), none, none, some (.istore 6), none, some (.iload 5), none, some (.iconst (-1))],
  [some (.if_icmp .ne 6), none, none, some (.ldc 130), none, some (.ireturn), some (.iload_n 3), some (.iconst (-1)), some (.if_icmp .ne 5), none, none, some (.iconst 0), some (.ireturn), some (.iconst 0), some (.istore 7), none],
  [some (.iload 4), none, some (.iload 7), none, some (.isub), some (.iload 6), none, some (.if_icmp .gt 19), none, none, some (.iload 4), none, some (.iload 7), none, some (.isub), some (.iload 6)],
  [none, some (.if_icmp .ne 15), none, none, some (.iload_n 3), some (.iload 5), none, some (.if_icmp .ge 9), none, none, some (.iinc 7 1), none, none, some (.goto (-29)), none, none],
  [some (.iload 7), none, some (.ireturn), none, none, none, none, none, none, none, none, none, none, none, none, none]]
def nw_cd106 : List (List (Option Instr)) := [
  [some (.aload_n 0), some (.iload_n 1), some (.iload_n 2), some (.invokevirtual 65), none, none, some (.ifCond .ne 6), none, none, some (.ldc 69), none, some (.ireturn), some (.aload_n 0), some (.invokevirtual 99), none, none],
  [some (.aload_n 0), some (.iconst 1), some (.invokevirtual 111), none, none, some (.istore_n 3), some (.iconst (-1)), some (.istore 4), none, some (.aload_n 0), some (.invokevirtual 80), none, none, some (.istore 5), none, some (.iconst 0)],
  [some (.istore 6), none, some (.iload 6), none, some (.iload 5), none, some (.if_icmp .ge 95), none, none, some (.aload_n 0), some (.iload 6), none, some (.iload_n 1), some (.invokevirtual 102), none, none],
  [some (.iload_n 2), some (.if_icmp .ne 78), none, none, some (.aload_n 0), some (.getfield 34), none, none, some (.iload 6), none, some (.iaload), some (.iload_n 3), some (.iand), some (.istore 7), none, some (.iload 4)],
  [none, some (.iconst (-1)), some (.if_icmp .eq 40), none, none, some (.aload_n 0), some (.iload 7), none, some (.invokevirtual 91), none, none, some (.aload_n 0), some (.iload 4), none, some (.invokevirtual 91), none],
  [none, some (.if_icmp .lt 25), none, none, some (.aload_n 0), some (.iload 7), none, some (.invokevirtual 91), none, none, some (.aload_n 0), some (.iload 4), none, some (.invokevirtual 91), none, none],
  [some (.if_icmp .ne 14), none, none, some (.iload 7), none, some (.iload 4), none, some (.if_icmp .ge 7), none, none, some (.iconst 1), some (.goto 4), none, none, some (.iconst 0), some (.istore 8)],
  [none, some (.iload 8), none, some (.ifCond .eq 8), none, none, some (.iload 7), none, some (.goto 5), none, none, some (.iload 4), none, some (.istore 4), none, some (.iinc 6 1)],
  [none, none, some (.goto (-96)), none, none, some (.iload 4), none, some (.ireturn), none, none, none, none, none, none, none, none]]
def nw_cd107 : List (List (Option Instr)) := [
  [some (.aload_n 0), some (.invokevirtual 121), none, none, some (.aload_n 0), some (.iconst 1), some (.invokevirtual 111), none, none, some (.istore_n 1), some (.aload_n 0), some (.getfield 37), none, none, some (.iload_n 1), some (.baload)],
  [some (.ifCond .eq 5), none, none, some (.iconst 0), some (.ireturn), some (.iconst 0), some (.istore_n 2), some (.iload_n 2), some (.aload_n 0), some (.getfield 60), none, none, some (.if_icmp .ge 41), none, none, some (.iload_n 1)],
  [some (.iload_n 2), some (.ishr), some (.iconst 1), some (.iand), some (.iconst 1), some (.if_icmp .ne 24), none, none, some (.aload_n 0), some (.getfield 37), none, none, some (.iload_n 1), some (.iconst 1), some (.iload_n 2), some (.ishl)],
  [some (.ixor), some (.baload), some (.ifCond .ne 11), none, none, some (.iload_n 1), some (.iconst 1), some (.iload_n 2), some (.ishl), some (.ixor), some (.goto 4), none, none, some (.iload_n 1), some (.istore_n 1), some (.iinc 2 1)],
  [none, none, some (.goto (-43)), none, none, some (.iload_n 1), some (.ireturn), none, none, none, none, none, none, none, none, none]]
def nw_cd108 : List (List (Option Instr)) := [
  [some (.aload_n 0), some (.iload_n 1), some (.iconst 1), some (.invokevirtual 146), none, none, some (.ireturn), none, none, none, none, none, none, none, none, none]]
def nw_cd109 : List (List (Option Instr)) := [
  [some (.aload_n 0), some (.iload_n 1), some (.iconst 0), some (.invokevirtual 146), none, none, some (.ireturn), none, none, none, none, none, none, none, none, none]]
def nw_cd110 : List (List (Option Instr)) := [
  [some (.iload_n 1), some (.ifCond .lt 12), none, none, some (.iload_n 1), some (.aload_n 0), some (.getfield 60), none, none, some (.ishr), some (.ifCond .eq 8), none, none, some (.ldc 69), none, some (.goto 8)],
  [none, none, some (.aload_n 0), some (.iload_n 1), some (.invokevirtual 91), none, none, some (.ireturn), none, none, none, none, none, none, none, none]]
def nw_cd111 : List (List (Option Instr)) := [
  [some (.aload_n 0), some (.iload_n 1), some (.invokevirtual 74), none, none, some (.ifCond .ne 6), none, none, some (.ldc 69), none, some (.ireturn), some (.aload_n 0), some (.invokevirtual 139), none, none, some (.iconst (-1))],
  [some (.if_icmp .ne 6), none, none, some (.ldc 130), none, some (.ireturn), some (.aload_n 0), some (.getfield 108), none, none, some (.istore_n 2), some (.aload_n 0), some (.getfield 31), none, none, some (.iload_n 1)],
  [some (.iaload), some (.istore_n 3), some (.aload_n 0), some (.getfield 31), none, none, some (.iload_n 1), some (.iconst 0), some (.iastore), some (.aload_n 0), some (.invokevirtual 139), none, none, some (.istore 4), none, some (.aload_n 0)],
  [some (.getfield 31), none, none, some (.iload_n 1), some (.iload_n 3), some (.iastore), some (.iload 4), none, some (.iconst (-1)), some (.if_icmp .ne 8), none, none, some (.ldc 130), none, some (.goto 9), none],
  [none, some (.aload_n 0), some (.getfield 108), none, none, some (.iload_n 2), some (.isub), some (.ireturn), none, none, none, none, none, none, none, none]]
def nw_cd112 : List (List (Option Instr)) := [
  [some (.iconst 0), some (.istore 6), none, some (.iload 6), none, some (.aload_n 0), some (.getfield 48), none, none, some (.if_icmp .ge 76), none, none, some (.aload_n 0), some (.getfield 41), none, none],
  [some (.iload 6), none, some (.iload 6), none, some (.ifCond .ne 7), none, none, some (.iload_n 1), some (.goto 36), none, none, some (.iload 6), none, some (.iconst 1), some (.if_icmp .ne 7), none],
  [none, some (.iload_n 2), some (.goto 26), none, none, some (.iload 6), none, some (.iconst 2), some (.if_icmp .ne 7), none, none, some (.iload_n 3), some (.goto 16), none, none, some (.iload 6)],
  [none, some (.iconst 3), some (.if_icmp .ne 8), none, none, some (.iload 4), none, some (.goto 5), none, none, some (.iload 5), none, some (.iastore), some (.aload_n 0), some (.iload 6), none],
  [some (.aload_n 0), some (.getfield 41), none, none, some (.iload 6), none, some (.iaload), some (.invokevirtual 65), none, none, some (.ifCond .ne 5), none, none, some (.iconst 0), some (.ireturn), some (.iinc 6 1)],
  [none, none, some (.goto (-79)), none, none, some (.iconst 1), some (.ireturn), none, none, none, none, none, none, none, none, none]]
def nw_cd113 : List (List (Option Instr)) := [
  [some (.aload_n 0), some (.iload_n 1), some (.iload_n 2), some (.iload_n 3), some (.iload 4), none, some (.iload 5), none, some (.invokevirtual 149), none, none, some (.ifCond .ne 6), none, none, some (.ldc 69), none],
  [some (.ireturn), some (.aload_n 0), some (.invokevirtual 88), none, none, some (.aload_n 0), some (.iconst 1), some (.invokevirtual 111), none, none, some (.aload_n 0), some (.iconst 2), some (.invokevirtual 111), none, none, some (.ior)],
  [some (.iand), some (.ireturn), none, none, none, none, none, none, none, none, none, none, none, none, none, none]]
def nw_cd114 : List (List (Option Instr)) := [
  [some (.aload_n 0), some (.iload_n 1), some (.iload_n 2), some (.iload_n 3), some (.iload 4), none, some (.iload 5), none, some (.invokevirtual 149), none, none, some (.ifCond .ne 6), none, none, some (.ldc 69), none],
  [some (.ireturn), some (.aload_n 0), some (.aload_n 0), some (.invokevirtual 88), none, none, some (.aload_n 0), some (.iconst 2), some (.invokevirtual 111), none, none, some (.invokevirtual 95), none, none, some (.ireturn), none]]
def nw_cd115 : List (List (Option Instr)) := [
  [some (.iload_n 0), some (.iload_n 0), some (.iconst 1), some (.iushr), some (.ldc_w 265), none, none, some (.iand), some (.isub), some (.istore_n 0), some (.iload_n 0), some (.ldc_w 266), none, none, some (.iand), some (.iload_n 0)],
  [some (.iconst 2), some (.iushr), some (.ldc_w 266), none, none, some (.iand), some (.iadd), some (.istore_n 0), some (.iload_n 0), some (.iload_n 0), some (.iconst 4), some (.iushr), some (.iadd), some (.ldc_w 267), none, none],
  [some (.iand), some (.istore_n 0), some (.iload_n 0), some (.iload_n 0), some (.bipush 8), none, some (.iushr), some (.iadd), some (.istore_n 0), some (.iload_n 0), some (.iload_n 0), some (.bipush 16), none, some (.iushr), some (.iadd), some (.istore_n 0)],
  [some (.iload_n 0), some (.bipush 63), none, some (.iand), some (.ireturn), none, none, none, none, none, none, none, none, none, none, none]]
def nw_cd116 : List (List (Option Instr)) := [
  [some (.iload_n 0), some (.ifCond .ge 8), none, none, some (.iload_n 0), some (.ineg), some (.goto 4), none, none, some (.iload_n 0), some (.ireturn), none, none, none, none, none]]
def nw_cd117 : List (List (Option Instr)) := [
  [some (.iload_n 0), some (.iload_n 1), some (.if_icmp .lt 7), none, none, some (.iload_n 0), some (.goto 4), none, none, some (.iload_n 1), some (.ireturn), none, none, none, none, none]]
def nw_cd118 : List (List (Option Instr)) := [
  [none, none, none, some (.dup), none, none, none, some (.astore_n 1), none, none, none, some (.dup), none, none, none, some (.astore_n 2)],
  [some (.iconst 0), some (.istore_n 3), some (.iload_n 3), some (.aload_n 0), some (.arraylength), some (.bipush 6), none, some (.isub), some (.if_icmp .gt 871), none, none, some (.aload_n 0), some (.iload_n 3), some (.iaload), some (.bipush 31), none],
  [some (.iand), some (.tableswitch 856 0 22 #[107, 130, 173, 236, 269, 302, 335, 358, 371, 394, 417, 450, 493, 526, 559, 592, 625, 638, 661, 684, 707, 730, 793]), none, none, none, none, none, none, none, none, none, none, none, none, none, none],
  [none, none, none, none, none, none, none, none, none, none, none, none, none, none, none, none],
  [none, none, none, none, none, none, none, none, none, none, none, none, none, none, none, none],
  [none, none, none, none, none, none, none, none, none, none, none, none, none, none, none, none],
  [none, none, none, none, none, none, none, none, none, none, none, none, none, none, none, none],
  [none, none, none, none, none, none, none, none, none, none, none, none, none, none, none, none],
  [none, none, none, none, none, none, none, none, none, none, none, none, some (.aload_n 1), some (.aload_n 0), some (.iload_n 3), some (.iconst 1)],
  [some (.iadd), some (.iaload), some (.invokevirtual 13), none, none, some (.aload_n 2), some (.aload_n 0), some (.iload_n 3), some (.iconst 1), some (.iadd), some (.iaload), some (.invokevirtual 17), none, none, some (.if_icmp .eq 731), none],
  [none, some (.iconst 0), some (.ireturn), some (.aload_n 1), some (.aload_n 0), some (.iload_n 3), some (.iconst 1), some (.iadd), some (.iaload), some (.aload_n 0), some (.iload_n 3), some (.iconst 2), some (.iadd), some (.iaload), some (.aload_n 0), some (.iload_n 3)],
  [some (.iconst 3), some (.iadd), some (.iaload), some (.invokevirtual 18), none, none, some (.aload_n 2), some (.aload_n 0), some (.iload_n 3), some (.iconst 1), some (.iadd), some (.iaload), some (.aload_n 0), some (.iload_n 3), some (.iconst 2), some (.iadd)],
  [some (.iaload), some (.aload_n 0), some (.iload_n 3), some (.iconst 3), some (.iadd), some (.iaload), some (.invokevirtual 22), none, none, some (.if_icmp .eq 688), none, none, some (.iconst 0), some (.ireturn), some (.aload_n 1), some (.aload_n 0)],
  [some (.iload_n 3), some (.iconst 1), some (.iadd), some (.iaload), some (.aload_n 0), some (.iload_n 3), some (.iconst 2), some (.iadd), some (.iaload), some (.aload_n 0), some (.iload_n 3), some (.iconst 3), some (.iadd), some (.iaload), some (.aload_n 0), some (.iload_n 3)],
  [some (.iconst 4), some (.iadd), some (.iaload), some (.aload_n 0), some (.iload_n 3), some (.iconst 5), some (.iadd), some (.iaload), some (.invokevirtual 23), none, none, some (.aload_n 2), some (.aload_n 0), some (.iload_n 3), some (.iconst 1), some (.iadd)],
  [some (.iaload), some (.aload_n 0), some (.iload_n 3), some (.iconst 2), some (.iadd), some (.iaload), some (.aload_n 0), some (.iload_n 3), some (.iconst 3), some (.iadd), some (.iaload), some (.aload_n 0), some (.iload_n 3), some (.iconst 4), some (.iadd), some (.iaload)],
  [some (.aload_n 0), some (.iload_n 3), some (.iconst 5), some (.iadd), some (.iaload), some (.invokevirtual 27), none, none, some (.if_icmp .eq 625), none, none, some (.iconst 0), some (.ireturn), some (.aload_n 1), some (.aload_n 0), some (.iload_n 3)],
  [some (.iconst 1), some (.iadd), some (.iaload), some (.aload_n 0), some (.iload_n 3), some (.iconst 2), some (.iadd), some (.iaload), some (.invokevirtual 28), none, none, some (.aload_n 2), some (.aload_n 0), some (.iload_n 3), some (.iconst 1), some (.iadd)],
  [some (.iaload), some (.aload_n 0), some (.iload_n 3), some (.iconst 2), some (.iadd), some (.iaload), some (.invokevirtual 32), none, none, some (.if_icmp .eq 592), none, none, some (.iconst 0), some (.ireturn), some (.aload_n 1), some (.aload_n 0)],
  [some (.iload_n 3), some (.iconst 1), some (.iadd), some (.iaload), some (.aload_n 0), some (.iload_n 3), some (.iconst 2), some (.iadd), some (.iaload), some (.invokevirtual 33), none, none, some (.aload_n 2), some (.aload_n 0), some (.iload_n 3), some (.iconst 1)],
  [some (.iadd), some (.iaload), some (.aload_n 0), some (.iload_n 3), some (.iconst 2), some (.iadd), some (.iaload), some (.invokevirtual 36), none, none, some (.if_icmp .eq 559), none, none, some (.iconst 0), some (.ireturn), some (.aload_n 1)],
  [some (.aload_n 0), some (.iload_n 3), some (.iconst 1), some (.iadd), some (.iaload), some (.aload_n 0), some (.iload_n 3), some (.iconst 2), some (.iadd), some (.iaload), some (.invokevirtual 37), none, none, some (.aload_n 2), some (.aload_n 0), some (.iload_n 3)],
  [some (.iconst 1), some (.iadd), some (.iaload), some (.aload_n 0), some (.iload_n 3), some (.iconst 2), some (.iadd), some (.iaload), some (.invokevirtual 40), none, none, some (.if_icmp .eq 526), none, none, some (.iconst 0), some (.ireturn)],
  [some (.aload_n 1), some (.aload_n 0), some (.iload_n 3), some (.iconst 1), some (.iadd), some (.iaload), some (.invokevirtual 41), none, none, some (.aload_n 2), some (.aload_n 0), some (.iload_n 3), some (.iconst 1), some (.iadd), some (.iaload), some (.invokevirtual 44)],
  [none, none, some (.if_icmp .eq 503), none, none, some (.iconst 0), some (.ireturn), some (.aload_n 1), some (.invokevirtual 45), none, none, some (.aload_n 2), some (.invokevirtual 49), none, none, some (.if_icmp .eq 490)],
  [none, none, some (.iconst 0), some (.ireturn), some (.aload_n 1), some (.aload_n 0), some (.iload_n 3), some (.iconst 1), some (.iadd), some (.iaload), some (.invokevirtual 50), none, none, some (.aload_n 2), some (.aload_n 0), some (.iload_n 3)],
  [some (.iconst 1), some (.iadd), some (.iaload), some (.invokevirtual 53), none, none, some (.if_icmp .eq 467), none, none, some (.iconst 0), some (.ireturn), some (.aload_n 1), some (.aload_n 0), some (.iload_n 3), some (.iconst 1), some (.iadd)],
  [some (.iaload), some (.invokevirtual 54), none, none, some (.aload_n 2), some (.aload_n 0), some (.iload_n 3), some (.iconst 1), some (.iadd), some (.iaload), some (.invokevirtual 57), none, none, some (.if_icmp .eq 444), none, none],
  [some (.iconst 0), some (.ireturn), some (.aload_n 1), some (.aload_n 0), some (.iload_n 3), some (.iconst 1), some (.iadd), some (.iaload), some (.aload_n 0), some (.iload_n 3), some (.iconst 2), some (.iadd), some (.iaload), some (.invokevirtual 58), none, none],
  [some (.aload_n 2), some (.aload_n 0), some (.iload_n 3), some (.iconst 1), some (.iadd), some (.iaload), some (.aload_n 0), some (.iload_n 3), some (.iconst 2), some (.iadd), some (.iaload), some (.invokevirtual 61), none, none, some (.if_icmp .eq 411), none],
  [none, some (.iconst 0), some (.ireturn), some (.aload_n 1), some (.aload_n 0), some (.iload_n 3), some (.iconst 1), some (.iadd), some (.iaload), some (.aload_n 0), some (.iload_n 3), some (.iconst 2), some (.iadd), some (.iaload), some (.aload_n 0), some (.iload_n 3)],
  [some (.iconst 3), some (.iadd), some (.iaload), some (.invokevirtual 62), none, none, some (.aload_n 2), some (.aload_n 0), some (.iload_n 3), some (.iconst 1), some (.iadd), some (.iaload), some (.aload_n 0), some (.iload_n 3), some (.iconst 2), some (.iadd)],
  [some (.iaload), some (.aload_n 0), some (.iload_n 3), some (.iconst 3), some (.iadd), some (.iaload), some (.invokevirtual 65), none, none, some (.if_icmp .eq 368), none, none, some (.iconst 0), some (.ireturn), some (.aload_n 1), some (.aload_n 0)],
  [some (.iload_n 3), some (.iconst 1), some (.iadd), some (.iaload), some (.aload_n 0), some (.iload_n 3), some (.iconst 2), some (.iadd), some (.iaload), some (.invokevirtual 66), none, none, some (.aload_n 2), some (.aload_n 0), some (.iload_n 3), some (.iconst 1)],
  [some (.iadd), some (.iaload), some (.aload_n 0), some (.iload_n 3), some (.iconst 2), some (.iadd), some (.iaload), some (.invokevirtual 69), none, none, some (.if_icmp .eq 335), none, none, some (.iconst 0), some (.ireturn), some (.aload_n 1)],
  [some (.aload_n 0), some (.iload_n 3), some (.iconst 1), some (.iadd), some (.iaload), some (.aload_n 0), some (.iload_n 3), some (.iconst 2), some (.iadd), some (.iaload), some (.invokevirtual 70), none, none, some (.aload_n 2), some (.aload_n 0), some (.iload_n 3)],
  [some (.iconst 1), some (.iadd), some (.iaload), some (.aload_n 0), some (.iload_n 3), some (.iconst 2), some (.iadd), some (.iaload), some (.invokevirtual 73), none, none, some (.if_icmp .eq 302), none, none, some (.iconst 0), some (.ireturn)],
  [some (.aload_n 1), some (.aload_n 0), some (.iload_n 3), some (.iconst 1), some (.iadd), some (.iaload), some (.aload_n 0), some (.iload_n 3), some (.iconst 2), some (.iadd), some (.iaload), some (.invokevirtual 74), none, none, some (.aload_n 2), some (.aload_n 0)],
  [some (.iload_n 3), some (.iconst 1), some (.iadd), some (.iaload), some (.aload_n 0), some (.iload_n 3), some (.iconst 2), some (.iadd), some (.iaload), some (.invokevirtual 77), none, none, some (.if_icmp .eq 269), none, none, some (.iconst 0)],
  [some (.ireturn), some (.aload_n 1), some (.aload_n 0), some (.iload_n 3), some (.iconst 1), some (.iadd), some (.iaload), some (.aload_n 0), some (.iload_n 3), some (.iconst 2), some (.iadd), some (.iaload), some (.invokevirtual 78), none, none, some (.aload_n 2)],
  [some (.aload_n 0), some (.iload_n 3), some (.iconst 1), some (.iadd), some (.iaload), some (.aload_n 0), some (.iload_n 3), some (.iconst 2), some (.iadd), some (.iaload), some (.invokevirtual 81), none, none, some (.if_icmp .eq 236), none, none],
  [some (.iconst 0), some (.ireturn), some (.aload_n 1), some (.invokevirtual 82), none, none, some (.aload_n 2), some (.invokevirtual 85), none, none, some (.if_icmp .eq 223), none, none, some (.iconst 0), some (.ireturn), some (.aload_n 1)],
  [some (.aload_n 0), some (.iload_n 3), some (.iconst 1), some (.iadd), some (.iaload), some (.invokevirtual 86), none, none, some (.aload_n 2), some (.aload_n 0), some (.iload_n 3), some (.iconst 1), some (.iadd), some (.iaload), some (.invokevirtual 89), none],
  [none, some (.if_icmp .eq 200), none, none, some (.iconst 0), some (.ireturn), some (.aload_n 1), some (.aload_n 0), some (.iload_n 3), some (.iconst 1), some (.iadd), some (.iaload), some (.invokevirtual 90), none, none, some (.aload_n 2)],
  [some (.aload_n 0), some (.iload_n 3), some (.iconst 1), some (.iadd), some (.iaload), some (.invokevirtual 93), none, none, some (.if_icmp .eq 177), none, none, some (.iconst 0), some (.ireturn), some (.aload_n 1), some (.aload_n 0), some (.iload_n 3)],
  [some (.iconst 1), some (.iadd), some (.iaload), some (.invokevirtual 94), none, none, some (.aload_n 2), some (.aload_n 0), some (.iload_n 3), some (.iconst 1), some (.iadd), some (.iaload), some (.invokevirtual 97), none, none, some (.if_icmp .eq 154)],
  [none, none, some (.iconst 0), some (.ireturn), some (.aload_n 1), some (.aload_n 0), some (.iload_n 3), some (.iconst 1), some (.iadd), some (.iaload), some (.invokevirtual 98), none, none, some (.aload_n 2), some (.aload_n 0), some (.iload_n 3)],
  [some (.iconst 1), some (.iadd), some (.iaload), some (.invokevirtual 101), none, none, some (.if_icmp .eq 131), none, none, some (.iconst 0), some (.ireturn), some (.aload_n 1), some (.aload_n 0), some (.iload_n 3), some (.iconst 1), some (.iadd)],
  [some (.iaload), some (.aload_n 0), some (.iload_n 3), some (.iconst 2), some (.iadd), some (.iaload), some (.aload_n 0), some (.iload_n 3), some (.iconst 3), some (.iadd), some (.iaload), some (.aload_n 0), some (.iload_n 3), some (.iconst 4), some (.iadd), some (.iaload)],
  [some (.aload_n 0), some (.iload_n 3), some (.iconst 5), some (.iadd), some (.iaload), some (.invokevirtual 102), none, none, some (.aload_n 2), some (.aload_n 0), some (.iload_n 3), some (.iconst 1), some (.iadd), some (.iaload), some (.aload_n 0), some (.iload_n 3)],
  [some (.iconst 2), some (.iadd), some (.iaload), some (.aload_n 0), some (.iload_n 3), some (.iconst 3), some (.iadd), some (.iaload), some (.aload_n 0), some (.iload_n 3), some (.iconst 4), some (.iadd), some (.iaload), some (.aload_n 0), some (.iload_n 3), some (.iconst 5)],
  [some (.iadd), some (.iaload), some (.invokevirtual 105), none, none, some (.if_icmp .eq 68), none, none, some (.iconst 0), some (.ireturn), some (.aload_n 1), some (.aload_n 0), some (.iload_n 3), some (.iconst 1), some (.iadd), some (.iaload)],
  [some (.aload_n 0), some (.iload_n 3), some (.iconst 2), some (.iadd), some (.iaload), some (.aload_n 0), some (.iload_n 3), some (.iconst 3), some (.iadd), some (.iaload), some (.aload_n 0), some (.iload_n 3), some (.iconst 4), some (.iadd), some (.iaload), some (.aload_n 0)],
  [some (.iload_n 3), some (.iconst 5), some (.iadd), some (.iaload), some (.invokevirtual 106), none, none, some (.aload_n 2), some (.aload_n 0), some (.iload_n 3), some (.iconst 1), some (.iadd), some (.iaload), some (.aload_n 0), some (.iload_n 3), some (.iconst 2)],
  [some (.iadd), some (.iaload), some (.aload_n 0), some (.iload_n 3), some (.iconst 3), some (.iadd), some (.iaload), some (.aload_n 0), some (.iload_n 3), some (.iconst 4), some (.iadd), some (.iaload), some (.aload_n 0), some (.iload_n 3), some (.iconst 5), some (.iadd)],
  [some (.iaload), some (.invokevirtual 109), none, none, some (.if_icmp .eq 5), none, none, some (.iconst 0), some (.ireturn), some (.iinc 3 6), none, none, some (.goto (-874)), none, none, some (.iconst 1)],
  [some (.ireturn), none, none, none, none, none, none, none, none, none, none, none, none, none, none, none]]
def nw_codes : List (List (List (Option Instr))) := [[], nw_cd1, nw_cd2, nw_cd3, nw_cd4, nw_cd5, nw_cd6, nw_cd7, [], nw_cd9, nw_cd10, nw_cd11, [], nw_cd13, nw_cd14, nw_cd15, nw_cd16, nw_cd17, nw_cd18, nw_cd19, nw_cd20, nw_cd21, [], nw_cd23, nw_cd24, nw_cd25, [], nw_cd27, nw_cd28, nw_cd29, nw_cd30, nw_cd31, nw_cd32, nw_cd33, nw_cd34, nw_cd35, nw_cd36, nw_cd37, nw_cd38, nw_cd39, nw_cd40, nw_cd41, nw_cd42, nw_cd43, nw_cd44, nw_cd45, nw_cd46, nw_cd47, nw_cd48, nw_cd49, nw_cd50, nw_cd51, nw_cd52, nw_cd53, nw_cd54, nw_cd55, nw_cd56, nw_cd57, nw_cd58, nw_cd59, nw_cd60, nw_cd61, nw_cd62, nw_cd63, nw_cd64, [], nw_cd66, nw_cd67, nw_cd68, nw_cd69, nw_cd70, nw_cd71, nw_cd72, nw_cd73, nw_cd74, nw_cd75, nw_cd76, nw_cd77, nw_cd78, nw_cd79, nw_cd80, nw_cd81, nw_cd82, nw_cd83, nw_cd84, nw_cd85, nw_cd86, nw_cd87, nw_cd88, nw_cd89, nw_cd90, nw_cd91, nw_cd92, nw_cd93, nw_cd94, nw_cd95, nw_cd96, nw_cd97, nw_cd98, nw_cd99, nw_cd100, nw_cd101, nw_cd102, nw_cd103, nw_cd104, nw_cd105, nw_cd106, nw_cd107, nw_cd108, nw_cd109, nw_cd110, nw_cd111, nw_cd112, nw_cd113, nw_cd114, nw_cd115, nw_cd116, nw_cd117, nw_cd118]
/-- own number: pool number, number of the object's kind, field, its type (0 int, 1 boolean, 2 a cell) -/
def nw_fTab : List (List (Nat × Nat × Nat × Nat)) := [[(9, 0, 0, 0), (15, 0, 1, 0), (18, 0, 2, 2), (22, 0, 3, 2), (25, 0, 4, 2), (28, 0, 5, 2)],
  [(9, 1, 0, 0), (15, 1, 1, 2), (19, 1, 2, 2)],
  [(9, 2, 0, 0), (15, 2, 1, 2), (19, 2, 2, 2), (22, 2, 3, 2), (25, 2, 4, 2), (28, 2, 5, 2), (31, 2, 6, 2), (34, 2, 7, 2)],
  [(7, 3, 0, 0), (13, 3, 1, 0), (16, 3, 2, 0), (19, 3, 3, 0)],
  [(12, 4, 0, 2), (19, 4, 1, 2), (23, 4, 2, 2), (27, 4, 3, 2), (33, 4, 4, 2), (37, 4, 5, 1), (41, 4, 6, 2), (44, 4, 7, 2), (47, 4, 8, 2), (54, 4, 9, 2), (58, 4, 10, 2), (61, 4, 11, 1), (65, 0, 0, 0), (101, 2, 0, 0), (108, 2, 6, 2), (115, 2, 1, 2), (118, 2, 2, 2), (121, 2, 3, 2), (124, 2, 4, 2), (127, 2, 5, 2), (130, 0, 1, 0), (136, 3, 0, 0), (139, 3, 3, 0), (145, 1, 0, 0), (147, 3, 1, 0), (151, 3, 2, 0), (182, 2, 7, 2), (204, 0, 5, 2)],
  [(7, 5, 1, 2), (13, 5, 2, 2), (16, 5, 4, 2), (19, 5, 5, 2), (22, 5, 6, 2), (25, 5, 7, 2), (28, 5, 8, 2), (31, 5, 9, 2), (34, 5, 10, 2), (37, 5, 12, 2), (41, 5, 13, 2), (44, 5, 11, 1), (48, 5, 0, 0), (60, 5, 3, 0), (108, 5, 14, 0)],
  [],
  [],
  []]
def nw_cTab : List (List (Nat × Nat)) := [[(31, 1), (35, 5), (39, 2)],
  [],
  [(37, 14), (41, 116), (47, 20), (51, 21)],
  [(22, 117)],
  [(70, 3), (74, 54), (77, 50), (80, 2), (85, 4), (89, 52), (93, 53), (97, 51), (102, 15), (105, 13), (111, 16), (133, 58), (142, 60), (150, 1), (154, 5), (157, 17), (161, 56), (164, 59), (168, 25), (172, 18), (175, 11), (178, 14), (185, 57), (189, 55), (192, 6), (196, 19), (200, 7), (207, 23), (210, 24), (213, 61), (216, 62), (219, 9), (220, 63), (223, 115), (228, 10), (231, 64)],
  [(52, 66), (56, 67), (65, 68), (70, 72), (74, 69), (77, 79), (80, 77), (84, 78), (88, 80), (91, 83), (95, 85), (99, 81), (102, 84), (105, 86), (111, 82), (114, 87), (118, 92), (121, 89), (124, 90), (127, 91), (131, 93), (135, 96), (139, 88), (142, 94), (146, 95), (149, 112)],
  [],
  [],
  [(13, 27), (17, 70), (18, 28), (22, 71), (23, 29), (27, 73), (28, 30), (32, 74), (33, 31), (36, 75), (37, 32), (40, 76), (41, 33), (44, 97), (45, 34), (49, 98), (50, 35), (53, 99), (54, 36), (57, 100), (58, 37), (61, 101), (62, 38), (65, 102), (66, 39), (69, 103), (70, 40), (73, 104), (74, 41), (77, 105), (78, 42), (81, 106), (82, 43), (85, 107), (86, 44), (89, 108), (90, 45), (93, 109), (94, 46), (97, 110), (98, 47), (101, 111), (102, 48), (105, 113), (106, 49), (109, 114)]]
def nw_kTab : List (List (Nat × Int)) := [[],
  [(22, -1000004)],
  [],
  [],
  [(64, -1000002), (69, -1000003), (84, -1000001), (146, -1000004)],
  [(63, -1000002), (64, -1000003), (69, -1000001), (130, -1000004)],
  [(265, 1431655765), (266, 858993459), (267, 252645135)],
  [],
  []]
abbrev nw_sh : Type := (Nat × Bool) ⊕ (Nat × List Nat)
def nw_shp : List nw_sh := [
  .inr (4, [3, 8, 16, 17, 18, 1, 19, 20, 21, 22, 25, 1]),
  .inr (0, [0, 0, 4, 5, 6, 7]),
  .inl (5, false),
  .inl (5, false),
  .inl (30, false),
  .inl (7776, false),
  .inr (2, [0, 9, 10, 11, 12, 13, 14, 15]),
  .inl (12, false),
  .inl (12, false),
  .inl (12, false),
  .inl (12, false),
  .inl (12, false),
  .inl (12, false),
  .inl (4096, false),
  .inl (7776, false),
  .inl (5, false),
  .inr (3, [0, 0, 0, 0]),
  .inr (3, [0, 0, 0, 0]),
  .inr (3, [0, 0, 0, 0]),
  .inl (4096, true),
  .inr (1, [0, 23, 24]),
  .inl (924, false),
  .inl (924, false),
  .inr (1, [0, 26, 27]),
  .inl (924, false),
  .inl (924, false),
  .inr (5, [0, 29, 30, 0, 31, 32, 33, 34, 35, 36, 37, 1, 38, 39, 0]),
  .inl (5, false),
  .inl (30, false),
  .inl (12, false),
  .inl (12, false),
  .inl (12, false),
  .inl (12, false),
  .inl (12, false),
  .inl (12, false),
  .inl (7776, false),
  .inl (4096, true),
  .inl (5, false)]
end
section
/-! THE MACHINE OVER ONE FIXED WORLD: 38 cells that never come or go; what they hold is a table of whole numbers. -/
abbrev nw_v : Type := Nat ⊕ Int
abbrev nw_S : Type := Nat → Nat → Int
abbrev nw_L : Type := List (Option nw_v)
abbrev nw_G : Type := Launch × va_G × (Nat → Nat) × (Nat → ClassId) × Nat × (Nat → Int32)
def nw_ad (G : nw_G) : Nat → Nat := G.2.2.1
def nw_ta (G : nw_G) : Nat → ClassId := G.2.2.2.1
def nw_len (G : nw_G) : Nat := G.2.2.2.2.1
def nw_xs (G : nw_G) : Nat → Int32 := G.2.2.2.2.2
def nw_m (μ : Nat) : nw_MT := nw_mTab.getD μ (yX0_init, cX0_init, 0, none, 0, false, 0, 0)
def nw_Y (μ : Nat) : MethodName := (nw_m μ).1
def nw_B (μ : Nat) : ByteArray := (nw_m μ).2.1
def nw_mL (μ : Nat) : Nat := (nw_m μ).2.2.1
def nw_Rt (μ : Nat) : Option FieldType := (nw_m μ).2.2.2.1
def nw_N (μ : Nat) : Nat := (nw_m μ).2.2.2.2.1
def nw_St (μ : Nat) : Bool := (nw_m μ).2.2.2.2.2.1
def nw_C (μ : Nat) : Nat := (nw_m μ).2.2.2.2.2.2.1
def nw_Lv (μ : Nat) : Nat := (nw_m μ).2.2.2.2.2.2.2
def nw_own (i : Nat) : String := nw_Own.getD i ""
def nw_rm (μ : Nat) : Room := { frames := nw_Lv μ, cells := 0, slots := 0, locals := 34 * nw_Lv μ }
def nw_tb : List Cond := lw_tbl.filter goodWord
def nw_W (μ : Nat) : List Cond := .code (nw_Y μ) (nw_B μ) (nw_mL μ) (nw_Rt μ) :: nw_tb
def nw_ty (z : Bool) : FieldType := if z then .boolean else .int
def nw_e (G : nw_G) (σ : nw_S) (k : Nat) : nw_sh → va_E
  | .inl (n, _) => .inl (nw_ta G k, n, .inl (fun j => Int32.ofInt (σ k j)))
  | .inr (ci, fs) => .inr (ci, fs.mapIdx (fun j f => if f < 2 then .int (Int32.ofInt (σ k j)) else .ref (nw_ad G (f - 2))))
def nw_w (G : nw_G) (σ : nw_S) : va_W := nw_shp.mapIdx (fun k sh => (nw_ad G k, nw_e G σ k sh))
def nw_A (G : nw_G) : Nat → Prop := fun q => ∃ k, k < 38 ∧ q = nw_ad G k
def nw_I (G : nw_G) : Prop := ∀ i j, i < 38 → j < 38 → nw_ad G i = nw_ad G j → i = j
def nw_K (G : nw_G) (U : State) : Prop := va_K G.2.1 vwCl [] U ∧ ∀ (k n : Nat) (z : Bool), nw_shp[k]? = some (.inl (n, z)) → ArrOfT U (nw_ta G k) (nw_ty z) ∧ va_RA U (nw_ta G k) (nw_ty z)
def nw_P (G : nw_G) (σ : nw_S) (H : Heap) : Prop := va_P G.2.1 vwCl (nw_w G σ) H
def nw_cv (G : nw_G) : nw_v → Value
  | .inl k => .ref (nw_ad G k)
  | .inr i => .int (Int32.ofInt i)
def nw_lh (G : nw_G) (n : Nat) (la : Array Slot) (ls : nw_L) : Prop := la.size = n ∧ lv_wf la ∧ ∀ (i : Nat) (v : nw_v), ls[i]? = some (some v) → la[i]? = some (.val (nw_cv G v))
def nw_up (σ : nw_S) (k j : Nat) (v : Int) : nw_S := fun a b => if a = k ∧ b = j then v else σ a b
abbrev nw_r (x : Int) : Prop := -2147483648 ≤ x ∧ x < 2147483648
theorem nw_K.moved {G : nw_G} {u U : State} (hvm : u.vm.Alike U.vm) (h : nw_K G u) : nw_K G U := ⟨va_K.moved hvm h.1, fun k n z hk => ⟨arrOfT_moved hvm (h.2 k n z hk).1, (h.2 k n z hk).2.moved hvm⟩⟩
theorem nw_K.arr {G : nw_G} {U : State} {k n : Nat} {z : Bool} (h : nw_K G U) (hk : nw_shp[k]? = some (.inl (n, z))) : va_K G.2.1 vwCl [(nw_ta G k, nw_ty z)] U := by
  refine ⟨h.1.1, fun i q hi => ?_⟩
  match i, hi with
  | 0, hi => cases hi; exact h.2 k n z hk
  | i + 1, hi => simp at hi
theorem nw_w_at {G : nw_G} {σ : nw_S} {k : Nat} {sh : nw_sh} (h : nw_shp[k]? = some sh) : (nw_w G σ)[k]? = some (nw_ad G k, nw_e G σ k sh) := by
  simp [nw_w, List.getElem?_mapIdx, h]
theorem nw_shp_len : nw_shp.length = 38 := rfl
theorem nw_w_len {G : nw_G} {σ : nw_S} : (nw_w G σ).length = 38 := by simp [nw_w, nw_shp_len]
theorem nw_w_D {G : nw_G} {σ : nw_S} {A : Nat → Prop} (hI : nw_I G) (hA : ∀ k, k < 38 → A (nw_ad G k)) : va_D A (nw_w G σ) := by
  have key : ∀ (k : Nat) (q : Nat × va_E), (nw_w G σ)[k]? = some q → k < 38 ∧ q.1 = nw_ad G k := by
    intro k q h
    have hk : k < 38 := by rw [← nw_w_len (G := G) (σ := σ)]; exact (List.getElem?_eq_some_iff.mp h).1
    refine ⟨hk, ?_⟩
    have h2 : nw_shp[k]? = some nw_shp[k] := List.getElem?_eq_getElem (by rw [nw_shp_len]; exact hk)
    rw [nw_w_at h2] at h
    cases h
    rfl
  refine ⟨fun i j x y hi hj hxy => ?_, fun k q hk => ?_⟩
  · obtain ⟨a1, a2⟩ := key i x hi
    obtain ⟨b1, b2⟩ := key j y hj
    exact hI i j a1 b1 (by rw [← a2, ← b2]; exact hxy)
  · obtain ⟨a1, a2⟩ := key k q hk
    rw [a2]; exact hA k a1
theorem nw_w_set {G : nw_G} {σ : nw_S} {k j : Nat} {v : Int} {sh : nw_sh} (hk : nw_shp[k]? = some sh) : nw_w G (nw_up σ k j v) = (nw_w G σ).set k (nw_ad G k, nw_e G (nw_up σ k j v) k sh) := by
  apply List.ext_getElem?
  intro i
  have hlt : k < (nw_w G σ).length := by rw [nw_w_len]; have := (List.getElem?_eq_some_iff.mp hk).1; rwa [nw_shp_len] at this
  by_cases hi : i = k
  · subst hi
    rw [nw_w_at hk, List.getElem?_set_self hlt]
  · rw [List.getElem?_set_ne (Ne.symm hi)]
    cases hs : nw_shp[i]? with
    | none => simp [nw_w, List.getElem?_mapIdx, hs]
    | some s2 =>
      rw [nw_w_at hs, nw_w_at hs]
      have : nw_e G (nw_up σ k j v) i s2 = nw_e G σ i s2 := by
        have h0 : ∀ b, nw_up σ k j v i b = σ i b := fun b => by simp [nw_up, hi]
        unfold nw_e
        split <;> simp [h0]
      rw [this]
theorem nw_e_arr {G : nw_G} {σ : nw_S} {k j n : Nat} {z : Bool} {v : Int} : nw_e G (nw_up σ k j v) k (.inl (n, z)) = .inl (nw_ta G k, n, .inl (upd (fun j => Int32.ofInt (σ k j)) j (Int32.ofInt v))) := by
  show (Sum.inl (nw_ta G k, n, Sum.inl (fun b => Int32.ofInt (nw_up σ k j v k b))) : va_E) = _
  have : (fun b => Int32.ofInt (nw_up σ k j v k b)) = upd (fun j => Int32.ofInt (σ k j)) j (Int32.ofInt v) := by
    funext b
    by_cases hb : b = j <;> simp [nw_up, upd, hb]
  rw [this]
theorem nw_e_fld {G : nw_G} {σ : nw_S} {k j ci : Nat} {fs : List Nat} {v : Int} {f : Nat} (hf : fs[j]? = some f) (h2 : f < 2) : nw_e G (nw_up σ k j v) k (.inr (ci, fs)) = .inr (ci, (fs.mapIdx (fun j f => if f < 2 then Value.int (Int32.ofInt (σ k j)) else .ref (nw_ad G (f - 2)))).set j (.int (Int32.ofInt v))) := by
  show (Sum.inr (ci, fs.mapIdx (fun b f => if f < 2 then Value.int (Int32.ofInt (nw_up σ k j v k b)) else .ref (nw_ad G (f - 2)))) : va_E) = _
  congr 2
  apply List.ext_getElem?
  intro i
  by_cases hi : i = j
  · subst hi
    rw [List.getElem?_set_self (by simpa using (List.getElem?_eq_some_iff.mp hf).1)]
    simp [List.getElem?_mapIdx, hf, h2, nw_up]
  · rw [List.getElem?_set_ne (Ne.symm hi)]
    simp [List.getElem?_mapIdx, nw_up, hi]
/-! locals -/
def nw_lv (G : nw_G) (ls : nw_L) : List (Nat × Value) := (ls.zipIdx).filterMap (fun q => q.1.map (fun v => (q.2, nw_cv G v)))
theorem nw_cat (G : nw_G) (v : nw_v) : (nw_cv G v).category = 1 := by
  cases v <;> rfl
theorem nw_lv_mem {G : nw_G} {ls : nw_L} {q : Nat × Value} : q ∈ nw_lv G ls ↔ ∃ (i : Nat) (v : nw_v), ls[i]? = some (some v) ∧ q = (i, nw_cv G v) := by
  unfold nw_lv
  rw [List.mem_filterMap]
  constructor
  · rintro ⟨⟨a, i⟩, h1, h2⟩
    have h3 := List.mem_zipIdx_iff_getElem?.mp h1
    cases a with
    | none => simp at h2
    | some v => exact ⟨i, v, h3, by simpa using h2.symm⟩
  · rintro ⟨i, v, h1, rfl⟩
    exact ⟨(some v, i), List.mem_zipIdx_iff_getElem?.mpr h1, rfl⟩
theorem nw_lh.has {G : nw_G} {n : Nat} {la : Array Slot} {ls : nw_L} (h : nw_lh G n la ls) : lv_has la n (nw_lv G ls) := by
  refine ⟨h.1, h.2.1, fun q hq => ?_⟩
  obtain ⟨i, v, h1, rfl⟩ := nw_lv_mem.mp hq
  exact h.2.2 i v h1
theorem nw_lh.store {G : nw_G} {n : Nat} {la : Array Slot} {ls : nw_L} {i : Nat} {v : nw_v} (h : lv_has la n ((i, nw_cv G v) :: (nw_lv G ls).filter (fun q => !(q.1 == i) && !(q.1 + 1 == i && q.2.category == 2)))) : nw_lh G n la (ls.set i (some v)) := by
  refine ⟨h.1, h.2.1, fun j w hj => ?_⟩
  by_cases hij : j = i
  · subst hij
    have hlt : j < ls.length := by
      rcases Nat.lt_or_ge j ls.length with q | q
      · exact q
      · rw [List.getElem?_eq_none (by simpa using q)] at hj; cases hj
    rw [List.getElem?_set_self hlt] at hj
    cases hj
    exact h.2.2 (j, nw_cv G v) List.mem_cons_self
  · rw [List.getElem?_set_ne (Ne.symm hij)] at hj
    refine h.2.2 (j, nw_cv G w) (List.mem_cons_of_mem _ (List.mem_filter.mpr ⟨nw_lv_mem.mpr ⟨j, w, hj, rfl⟩, ?_⟩))
    simp [hij, nw_cat]
/-! numbers -/
def nw_and (a b : Int) : Int := (Int32.ofInt a &&& Int32.ofInt b).toInt
def nw_or (a b : Int) : Int := (Int32.ofInt a ||| Int32.ofInt b).toInt
def nw_xor (a b : Int) : Int := (Int32.ofInt a ^^^ Int32.ofInt b).toInt
def nw_shl (a b : Int) : Int := (Int32.ofInt a <<< (Int32.ofInt b &&& 31)).toInt
def nw_shr (a b : Int) : Int := (Int32.ofInt a >>> (Int32.ofInt b &&& 31)).toInt
def nw_ushr (a b : Int) : Int := ((Int32.ofInt a).toUInt32 >>> ((Int32.ofInt b).toUInt32 &&& Int32.toUInt32 31)).toInt32.toInt
theorem nw_toInt {a : Int} (h : nw_r a) : (Int32.ofInt a).toInt = a := Int32.toInt_ofInt_of_le (by have := h.1; omega) (by have := h.2; omega)
theorem nw_of_lt {a b : Int} (ha : nw_r a) (hb : nw_r b) : Int32.ofInt a < Int32.ofInt b ↔ a < b := by rw [Int32.lt_iff_toInt_lt, nw_toInt ha, nw_toInt hb]
theorem nw_of_le {a b : Int} (ha : nw_r a) (hb : nw_r b) : Int32.ofInt a ≤ Int32.ofInt b ↔ a ≤ b := by rw [Int32.le_iff_toInt_le, nw_toInt ha, nw_toInt hb]
theorem nw_of_eq {a b : Int} (ha : nw_r a) (hb : nw_r b) : Int32.ofInt a = Int32.ofInt b ↔ a = b := by rw [← Int32.toInt_inj, nw_toInt ha, nw_toInt hb]
theorem nw_vpin {i : Int} {n : Nat} (h : 0 ≤ i ∧ i < (n : Int)) (hn : n < 2147483648) : vp_in (Int32.ofInt i) n ∧ (Int32.ofInt i).toNatClampNeg = i.toNat := by
  have hr : nw_r i := ⟨by omega, by omega⟩
  refine ⟨vp_in_iff.mpr ?_, ?_⟩
  · rw [nw_toInt hr]; exact h
  · show (Int32.ofInt i).toInt.toNat = i.toNat
    rw [nw_toInt hr]
theorem nw_div {a b : Int} (h : 0 ≤ a ∧ a < 2147483648 ∧ 0 < b ∧ b < 2147483648) : Int32.ofInt a / Int32.ofInt b = Int32.ofInt (a / b) ∧ ¬ Int32.ofInt b = 0 := by
  obtain ⟨h1, h2, h3, h4⟩ := h
  have ra : nw_r a := ⟨by omega, by omega⟩
  have rb : nw_r b := ⟨by omega, by omega⟩
  have hd0 : 0 ≤ a / b := Int.ediv_nonneg h1 (by omega)
  have hd1 : a / b ≤ a := Int.ediv_le_self b h1
  have hb0 : ¬ Int32.ofInt b = 0 := by
    intro q
    have := congrArg Int32.toInt q
    rw [nw_toInt rb, Int32.toInt_zero] at this
    omega
  refine ⟨?_, hb0⟩
  have hb1 : Int32.ofInt b ≠ -1 := by
    intro q
    have := congrArg Int32.toInt q
    rw [nw_toInt rb] at this
    have h9 : (-1 : Int32).toInt = -1 := by decide
    rw [h9] at this
    omega
  rw [← Int32.toInt_inj, Int32.toInt_div_of_ne_right _ _ hb1, nw_toInt ra, nw_toInt rb, nw_toInt ⟨by omega, by omega⟩, Int.tdiv_eq_ediv_of_nonneg h1]
theorem nw_rem {a b : Int} (h : 0 ≤ a ∧ a < 2147483648 ∧ 0 < b ∧ b < 2147483648) : Int32.ofInt a - Int32.ofInt a / Int32.ofInt b * Int32.ofInt b = Int32.ofInt (a % b) := by
  rw [(nw_div h).1, ← Int32.ofInt_mul, ← Int32.ofInt_sub]
  rw [Int.emod_def, Int.mul_comm b]
/-! one step -/
def nw_pI (st : List nw_v) (f : Int → List nw_v → Prop) : Prop := match st with
  | .inr a :: r => f a r
  | _ => False
def nw_pR (st : List nw_v) (f : Nat → List nw_v → Prop) : Prop := match st with
  | .inl a :: r => f a r
  | _ => False
def nw_lI (ls : nw_L) (j : Nat) (f : Int → Prop) : Prop := match ls[j]? with
  | some (some (.inr a)) => f a
  | _ => False
def nw_lR (ls : nw_L) (j : Nat) (f : Nat → Prop) : Prop := match ls[j]? with
  | some (some (.inl a)) => f a
  | _ => False
def nw_oS {α : Type} (x : Option α) (f : α → Prop) : Prop := match x with
  | some a => f a
  | none => False
def nw_sA (q : Nat) (f : Nat → Bool → Prop) : Prop := match nw_shp[q]? with
  | some (.inl (n, z)) => f n z
  | _ => False
def nw_sO (q : Nat) (f : Nat → List Nat → Prop) : Prop := match nw_shp[q]? with
  | some (.inr (ci, fs)) => f ci fs
  | _ => False
def nw_if (b : Bool) (f : Prop) : Prop := match b with
  | true => f
  | false => False
theorem nw_pI_el {st : List nw_v} {f : Int → List nw_v → Prop} (h : nw_pI st f) : ∃ a r, st = .inr a :: r ∧ f a r := by
  unfold nw_pI at h
  split at h
  · exact ⟨_, _, rfl, h⟩
  · exact h.elim
theorem nw_pR_el {st : List nw_v} {f : Nat → List nw_v → Prop} (h : nw_pR st f) : ∃ a r, st = .inl a :: r ∧ f a r := by
  unfold nw_pR at h
  split at h
  · exact ⟨_, _, rfl, h⟩
  · exact h.elim
theorem nw_lI_el {ls : nw_L} {j : Nat} {f : Int → Prop} (h : nw_lI ls j f) : ∃ a, ls[j]? = some (some (.inr a)) ∧ f a := by
  unfold nw_lI at h
  split at h
  · rename_i a hq; exact ⟨a, hq, h⟩
  · exact h.elim
theorem nw_lR_el {ls : nw_L} {j : Nat} {f : Nat → Prop} (h : nw_lR ls j f) : ∃ a, ls[j]? = some (some (.inl a)) ∧ f a := by
  unfold nw_lR at h
  split at h
  · rename_i a hq; exact ⟨a, hq, h⟩
  · exact h.elim
theorem nw_oS_el {α : Type} {x : Option α} {f : α → Prop} (h : nw_oS x f) : ∃ a, x = some a ∧ f a := by
  cases x with
  | none => exact h.elim
  | some a => exact ⟨a, rfl, h⟩
theorem nw_sA_el {q : Nat} {f : Nat → Bool → Prop} (h : nw_sA q f) : ∃ n z, nw_shp[q]? = some (.inl (n, z)) ∧ f n z := by
  unfold nw_sA at h
  split at h
  · rename_i n z hq; exact ⟨n, z, hq, h⟩
  · exact h.elim
theorem nw_sO_el {q : Nat} {f : Nat → List Nat → Prop} (h : nw_sO q f) : ∃ ci fs, nw_shp[q]? = some (.inr (ci, fs)) ∧ f ci fs := by
  unfold nw_sO at h
  split at h
  · rename_i n z hq; exact ⟨n, z, hq, h⟩
  · exact h.elim
theorem nw_if_el {b : Bool} {f : Prop} (h : nw_if b f) : b = true ∧ f := by
  cases b with
  | true => exact ⟨rfl, h⟩
  | false => exact h.elim
def nw_tg (pc : Nat) (o : Int) : Nat := ((pc : Int) + o).toNat
def nw_br (c : ClassFile.Cond) (a b : Int) (T F : Prop) : Prop := match c with
  | .eq => (a = b → T) ∧ (a ≠ b → F)
  | .ne => (a ≠ b → T) ∧ (a = b → F)
  | .lt => (a < b → T) ∧ (b ≤ a → F)
  | .ge => (b ≤ a → T) ∧ (a < b → F)
  | .gt => (b < a → T) ∧ (a ≤ b → F)
  | .le => (a ≤ b → T) ∧ (b < a → F)
def nw_sw (a : Int) (k : Nat → Prop) (pc : Nat) : Int → List Int → Prop
  | _, [] => True
  | lo, o :: r => (a = lo → k (nw_tg pc o)) ∧ nw_sw a k pc (lo + 1) r
def nw_fl (μ idx : Nat) : Option (Nat × Nat × Nat) := (nw_fTab.getD (nw_C μ) []).lookup idx
def nw_cl (μ idx : Nat) : Option Nat := (nw_cTab.getD (nw_C μ) []).lookup idx
def nw_ko (μ idx : Nat) : Option Int := (nw_kTab.getD (nw_C μ) []).lookup idx
def nw_rOK (ret : Option FieldType) (r : Option Int) : Prop := match ret, r with
  | none, none => True
  | some .int, some _ => True
  | some .boolean, some v => v = 0 ∨ v = 1
  | _, _ => False
/-- the end of a method: an answer or none, and the world -/
def nw_mQ (G : nw_G) (ν : Nat) (Ψ : Option Int → nw_S → Prop) : Array Value → State → Outcome → State → Prop := match nw_Rt ν with
  | none => va_Qv (S := nw_S) (fun u => Ψ none u) (fun u t => nw_P G u t.heap ∧ nw_K G t) (nw_A G)
  | some _ => va_Qi (S := Int × nw_S) (fun r u => r = Int32.ofInt u.1 ∧ Ψ (some u.1) u.2) (fun u t => nw_P G u.2 t.heap ∧ nw_K G t) (nw_A G)
/-- method ν, called with these in this world, comes back, and what it answers and leaves is so -/
def nw_Tm (G : nw_G) (ν : Nat) (args : List nw_v) (σ : nw_S) (Φ : Option Int → nw_S → Prop) : Prop :=
  ∃ Ψ : Option Int → nw_S → Prop, (∀ r u, Ψ r u → Φ r u) ∧ Met G.1 (nw_Y ν) (nw_W ν) (nw_rm ν) (va_Pc (args.map (nw_cv G)) (fun U => nw_P G σ U.heap ∧ nw_K G U ∧ nw_I G)) (nw_mQ G ν Ψ) 0 0 (nw_A G)
theorem nw_Tm.mono {G : nw_G} {ν : Nat} {args : List nw_v} {σ : nw_S} {Φ Φ' : Option Int → nw_S → Prop} (h : nw_Tm G ν args σ Φ) (hi : ∀ r u, Φ r u → Φ' r u) : nw_Tm G ν args σ Φ' := by
  obtain ⟨Ψ, h1, h2⟩ := h
  exact ⟨Ψ, fun r u q => hi r u (h1 r u q), h2⟩
def nw_pi (Φ : Int → nw_S → Prop) : Option Int → nw_S → Prop
  | some v, u => Φ v u
  | none, _ => False
def nw_pv (Φ : nw_S → Prop) : Option Int → nw_S → Prop
  | none, u => Φ u
  | some _, _ => False
/-- a call that answers; one that doesn't -/
def nw_TI (G : nw_G) (ν : Nat) (args : List nw_v) (σ : nw_S) (Φ : Int → nw_S → Prop) : Prop := nw_Tm G ν args σ (nw_pi Φ)
def nw_TV (G : nw_G) (ν : Nat) (args : List nw_v) (σ : nw_S) (Φ : nw_S → Prop) : Prop := nw_Tm G ν args σ (nw_pv Φ)
theorem nw_TI.mono {G : nw_G} {ν : Nat} {args : List nw_v} {σ : nw_S} {Φ Φ' : Int → nw_S → Prop} (h : nw_TI G ν args σ Φ) (hi : ∀ r u, Φ r u → Φ' r u) : nw_TI G ν args σ Φ' := nw_Tm.mono h (fun r u q => match r, q with
  | some v, q => hi v u q
  | none, q => q)
theorem nw_TV.mono {G : nw_G} {ν : Nat} {args : List nw_v} {σ : nw_S} {Φ Φ' : nw_S → Prop} (h : nw_TV G ν args σ Φ) (hi : ∀ u, Φ u → Φ' u) : nw_TV G ν args σ Φ' := nw_Tm.mono h (fun r u q => match r, q with
  | some _, q => q
  | none, q => hi u q)
def nw_Tr (G : nw_G) (ν : Nat) (args : List nw_v) (σ : nw_S) (f : Option Int → nw_S → Prop) : Prop := match nw_Rt ν with
  | none => nw_TV G ν args σ (fun u => f none u)
  | some _ => nw_TI G ν args σ (fun v u => f (some v) u)
theorem nw_Tr_el {G : nw_G} {ν : Nat} {args : List nw_v} {σ : nw_S} {f : Option Int → nw_S → Prop} (h : nw_Tr G ν args σ f) : nw_Tm G ν args σ f := by
  unfold nw_Tr at h
  split at h
  · exact nw_Tm.mono h (fun r u q => match r, q with
      | some _, q => q.elim
      | none, q => q)
  · exact nw_Tm.mono h (fun r u q => match r, q with
      | some _, q => q
      | none, q => q.elim)
/-- a call: the last parameters lie on top -/
def nw_ca (st : List nw_v) (n : Nat) (f : List nw_v → List nw_v → Prop) : Prop := nw_if (Nat.ble n st.length && Nat.ble (st.drop n).length 8) (f (st.take n).reverse (st.drop n))
def nw_ro (r : Option Int) (st : List nw_v) : List nw_v := match r with
  | some v => .inr v :: st
  | none => st
def nw_step (G : nw_G) (μ : Nat) (Ψ : Option Int → nw_S → Prop) (i : Instr) (pc : Nat) (ls : nw_L) (st : List nw_v) (σ : nw_S) (k : Nat → nw_L → List nw_v → nw_S → Prop) : Prop := match i with
  | .iconst n => k (pc + 1) ls (.inr n :: st) σ
  | .bipush n => nw_if (decide (-128 ≤ n) && decide (n < 128)) (k (pc + 2) ls (.inr n :: st) σ)
  | .sipush n => nw_if (decide (-32768 ≤ n) && decide (n < 32768)) (k (pc + 3) ls (.inr n :: st) σ)
  | .ldc idx => nw_oS (nw_ko μ idx) fun n => k (pc + 2) ls (.inr n :: st) σ
  | .ldc_w idx => nw_oS (nw_ko μ idx) fun n => k (pc + 3) ls (.inr n :: st) σ
  | .iload_n j => nw_lI ls j.val fun a => k (pc + 1) ls (.inr a :: st) σ
  | .iload j => nw_lI ls j fun a => k (pc + 2) ls (.inr a :: st) σ
  | .aload_n j => nw_lR ls j.val fun a => k (pc + 1) ls (.inl a :: st) σ
  | .aload j => nw_lR ls j fun a => k (pc + 2) ls (.inl a :: st) σ
  | .istore_n j => nw_if (Nat.ble (j.val + 1) (nw_mL μ)) (nw_pI st fun a st => k (pc + 1) (ls.set j.val (some (.inr a))) st σ)
  | .istore j => nw_if (Nat.ble (j + 1) (nw_mL μ)) (nw_pI st fun a st => k (pc + 2) (ls.set j (some (.inr a))) st σ)
  | .astore_n j => nw_if (Nat.ble (j.val + 1) (nw_mL μ)) (nw_pR st fun a st => k (pc + 1) (ls.set j.val (some (.inl a))) st σ)
  | .astore j => nw_if (Nat.ble (j + 1) (nw_mL μ)) (nw_pR st fun a st => k (pc + 2) (ls.set j (some (.inl a))) st σ)
  | .iinc j n => nw_if (Nat.ble (j + 1) (nw_mL μ)) (nw_lI ls j fun a => k (pc + 3) (ls.set j (some (.inr (a + n)))) st σ)
  | .iadd => nw_pI st fun b st => nw_pI st fun a st => k (pc + 1) ls (.inr (a + b) :: st) σ
  | .isub => nw_pI st fun b st => nw_pI st fun a st => k (pc + 1) ls (.inr (a - b) :: st) σ
  | .imul => nw_pI st fun b st => nw_pI st fun a st => k (pc + 1) ls (.inr (a * b) :: st) σ
  | .idiv => nw_pI st fun b st => nw_pI st fun a st => (0 ≤ a ∧ a < 2147483648 ∧ 0 < b ∧ b < 2147483648) ∧ k (pc + 1) ls (.inr (a / b) :: st) σ
  | .irem => nw_pI st fun b st => nw_pI st fun a st => (0 ≤ a ∧ a < 2147483648 ∧ 0 < b ∧ b < 2147483648) ∧ k (pc + 1) ls (.inr (a % b) :: st) σ
  | .ineg => nw_pI st fun a st => k (pc + 1) ls (.inr (-a) :: st) σ
  | .iand => nw_pI st fun b st => nw_pI st fun a st => k (pc + 1) ls (.inr (nw_and a b) :: st) σ
  | .ior => nw_pI st fun b st => nw_pI st fun a st => k (pc + 1) ls (.inr (nw_or a b) :: st) σ
  | .ixor => nw_pI st fun b st => nw_pI st fun a st => k (pc + 1) ls (.inr (nw_xor a b) :: st) σ
  | .ishl => nw_pI st fun b st => nw_pI st fun a st => k (pc + 1) ls (.inr (nw_shl a b) :: st) σ
  | .ishr => nw_pI st fun b st => nw_pI st fun a st => k (pc + 1) ls (.inr (nw_shr a b) :: st) σ
  | .iushr => nw_pI st fun b st => nw_pI st fun a st => k (pc + 1) ls (.inr (nw_ushr a b) :: st) σ
  | .dup => match st with
    | a :: r => k (pc + 1) ls (a :: a :: r) σ
    | _ => False
  | .dup2 => match st with
    | a :: b :: r => k (pc + 1) ls (a :: b :: a :: b :: r) σ
    | _ => False
  | .goto o => k (nw_tg pc o) ls st σ
  | .ifCond c o => nw_pI st fun a st => nw_r a ∧ nw_br c a 0 (k (nw_tg pc o) ls st σ) (k (pc + 3) ls st σ)
  | .if_icmp c o => nw_pI st fun b st => nw_pI st fun a st => nw_r a ∧ nw_r b ∧ nw_br c a b (k (nw_tg pc o) ls st σ) (k (pc + 3) ls st σ)
  | .tableswitch d lo hi offs => nw_pI st fun a st => nw_if (decide (hi = lo + (offs.toList.length : Int) - 1)) (nw_r a ∧ ((a < lo ∨ hi < a) → k (nw_tg pc d) ls st σ) ∧ nw_sw a (fun t => k t ls st σ) pc lo offs.toList)
  | .getfield idx => nw_pR st fun q st => nw_oS (nw_fl μ idx) fun w => nw_sO q fun ci fs => nw_if (Nat.beq ci w.1) (nw_oS fs[w.2.1]? fun f => match f with
      | 0 => k (pc + 3) ls (.inr (σ q w.2.1) :: st) σ
      | 1 => k (pc + 3) ls (.inr (σ q w.2.1) :: st) σ
      | t + 2 => k (pc + 3) ls (.inl t :: st) σ)
  | .putfield idx => nw_pI st fun v st => nw_pR st fun q st => nw_oS (nw_fl μ idx) fun w => nw_sO q fun ci fs => nw_if (Nat.beq ci w.1) (nw_oS fs[w.2.1]? fun f => nw_if (Nat.beq f w.2.2) (match f with
      | 0 => k (pc + 3) ls st (nw_up σ q w.2.1 v)
      | 1 => (v = 0 ∨ v = 1) ∧ k (pc + 3) ls st (nw_up σ q w.2.1 v)
      | _ => False))
  | .iaload => nw_pI st fun j st => nw_pR st fun q st => match Nat.beq q 38 with
    | true => nw_if (Nat.beq μ 118) ((0 ≤ j ∧ j < (nw_len G : Int)) ∧ k (pc + 1) ls (.inr (nw_xs G j.toNat).toInt :: st) σ)
    | false => nw_sA q fun n z => nw_if (!z) ((0 ≤ j ∧ j < (n : Int)) ∧ k (pc + 1) ls (.inr (σ q j.toNat) :: st) σ)
  | .baload => nw_pI st fun j st => nw_pR st fun q st => nw_sA q fun n z => nw_if z ((0 ≤ j ∧ j < (n : Int)) ∧ k (pc + 1) ls (.inr (σ q j.toNat) :: st) σ)
  | .iastore => nw_pI st fun v st => nw_pI st fun j st => nw_pR st fun q st => nw_sA q fun n z => nw_if (!z) ((0 ≤ j ∧ j < (n : Int)) ∧ k (pc + 1) ls st (nw_up σ q j.toNat v))
  | .bastore => nw_pI st fun v st => nw_pI st fun j st => nw_pR st fun q st => nw_sA q fun n z => nw_if z ((0 ≤ j ∧ j < (n : Int)) ∧ (v = 0 ∨ v = 1) ∧ k (pc + 1) ls st (nw_up σ q j.toNat v))
  | .arraylength => nw_pR st fun q st => nw_if (Nat.beq q 38 && Nat.beq μ 118) (k (pc + 1) ls (.inr (nw_len G : Int) :: st) σ)
  | .invokestatic idx => nw_oS (nw_cl μ idx) fun ν => match Nat.beq ν 116, Nat.beq ν 117 with
    | true, _ => nw_pI st fun a st => nw_if (Nat.ble 1 (nw_Lv μ) && Nat.ble st.length 8) (nw_r a ∧ k (pc + 3) ls (.inr (if 0 ≤ a then a else 0 - a) :: st) σ)
    | false, true => nw_pI st fun b st => nw_pI st fun a st => nw_if (Nat.ble 1 (nw_Lv μ) && Nat.ble st.length 8) (nw_r a ∧ nw_r b ∧ k (pc + 3) ls (.inr (if a < b then b else a) :: st) σ)
    | false, false => nw_if (nw_St ν && Nat.ble (nw_Lv ν + 1) (nw_Lv μ)) (nw_ca st (nw_N ν) fun as st => nw_Tr G ν as σ (fun r u => k (pc + 3) ls (nw_ro r st) u))
  | .invokevirtual idx => nw_oS (nw_cl μ idx) fun ν => nw_if (!(nw_St ν) && Nat.ble (nw_Lv ν + 1) (nw_Lv μ)) (nw_ca st (nw_N ν + 1) fun as st => nw_pR as fun q _ => nw_sO q fun ci _ => nw_if (Nat.beq ci (nw_C ν)) (nw_Tr G ν as σ (fun r u => k (pc + 3) ls (nw_ro r st) u)))
  | .ireturn => match st with
    | [.inr v] => (match nw_Rt μ with
      | some .int => Ψ (some v) σ
      | some .boolean => (v = 0 ∨ v = 1) ∧ Ψ (some v) σ
      | _ => False)
    | _ => False
  | .return_ => match st with
    | [] => (match nw_Rt μ with
      | none => Ψ none σ
      | some _ => False)
    | _ => False
  | _ => False
def nw_fe (cd : List (List (Option Instr))) (pc : Nat) : Option Instr := (cd.getD (pc / 16) []).getD (pc % 16) none
end
section
/-! what a program decides of the tables -/
def nw_ln : Instr → Nat
  | .bipush _ => 2
  | .sipush _ => 3
  | .ldc _ => 2
  | .ldc_w _ => 3
  | .iload _ => 2
  | .aload _ => 2
  | .istore _ => 2
  | .astore _ => 2
  | .iinc _ _ => 3
  | .goto _ => 3
  | .if_icmp _ _ => 3
  | .ifCond _ _ => 3
  | .getfield _ => 3
  | .putfield _ => 3
  | .invokevirtual _ => 3
  | .invokestatic _ => 3
  | _ => 1
def nw_jo (pc : Nat) : Instr → Bool
  | .goto o => decide (0 ≤ (pc : Int) + o)
  | .if_icmp _ o => decide (0 ≤ (pc : Int) + o)
  | .ifCond _ o => decide (0 ≤ (pc : Int) + o)
  | .tableswitch d _ _ offs => decide (0 ≤ (pc : Int) + d) && offs.toList.all (fun o => decide (0 ≤ (pc : Int) + o))
  | _ => true
def nw_isw : Instr → Bool
  | .tableswitch _ _ _ _ => true
  | _ => false
def nw_ck (bytes : ByteArray) (pc : Nat) (i : Instr) : Bool := match decode bytes pc with
  | .ok (i', n) => decide (i' = i) && (nw_isw i || Nat.beq n (nw_ln i)) && nw_jo pc i
  | _ => false
def nw_ckc (bytes : ByteArray) (cd : List (List (Option Instr))) : Bool := (List.range cd.length).all fun b => (List.range 16).all fun r => match (cd.getD b []).getD r none with
  | none => true
  | some i => nw_ck bytes (16 * b + r) i
theorem nw_ckc_sp {bytes : ByteArray} {cd : List (List (Option Instr))} (h : nw_ckc bytes cd = true) {pc : Nat} {i : Instr} (hf : nw_fe cd pc = some i) : nw_ck bytes pc i = true := by
  unfold nw_fe at hf
  have hb : pc / 16 < cd.length := by
    rcases Nat.lt_or_ge (pc / 16) cd.length with q | q
    · exact q
    · rw [show cd.getD (pc / 16) [] = [] from by simp [List.getD_eq_getElem?_getD, List.getElem?_eq_none q]] at hf
      simp at hf
  have h1 := List.all_eq_true.mp (List.all_eq_true.mp h (pc / 16) (List.mem_range.mpr hb)) (pc % 16) (List.mem_range.mpr (Nat.mod_lt _ (by decide)))
  rw [hf] at h1
  rw [show 16 * (pc / 16) + pc % 16 = pc from by omega] at h1
  exact h1

theorem nw_ck1 : nw_ckc cX0_has nw_cd1 = true := by decide +kernel
theorem nw_ck2 : nw_ckc cX0_hasCandidate nw_cd2 = true := by decide +kernel
theorem nw_ck3 : nw_ckc cX0_add nw_cd3 = true := by decide +kernel
theorem nw_ck4 : nw_ckc cX0_changeWorth nw_cd4 = true := by decide +kernel
theorem nw_ck5 : nw_ckc cX0_taken nw_cd5 = true := by decide +kernel
theorem nw_ck6 : nw_ckc cX0_read nw_cd6 = true := by decide +kernel
theorem nw_ck7 : nw_ckc cX0_numberOf nw_cd7 = true := by decide +kernel
theorem nw_ck9 : nw_ckc cX1_clear nw_cd9 = true := by decide +kernel
theorem nw_ck10 : nw_ckc cX1_put nw_cd10 = true := by decide +kernel
theorem nw_ck11 : nw_ckc cX1_at nw_cd11 = true := by decide +kernel
theorem nw_ck13 : nw_ckc cX2_has nw_cd13 = true := by decide +kernel
theorem nw_ck14 : nw_ckc cX2_sets nw_cd14 = true := by decide +kernel
theorem nw_ck15 : nw_ckc cX2_add nw_cd15 = true := by decide +kernel
theorem nw_ck16 : nw_ckc cX2_changeWeight nw_cd16 = true := by decide +kernel
theorem nw_ck17 : nw_ckc cX2_inMode nw_cd17 = true := by decide +kernel
theorem nw_ck18 : nw_ckc cX2_isCheaper nw_cd18 = true := by decide +kernel
theorem nw_ck19 : nw_ckc cX2_isKept nw_cd19 = true := by decide +kernel
theorem nw_ck20 : nw_ckc cX2_howMany nw_cd20 = true := by decide +kernel
theorem nw_ck21 : nw_ckc cX2_together nw_cd21 = true := by decide +kernel
theorem nw_ck23 : nw_ckc cX3_clear nw_cd23 = true := by decide +kernel
theorem nw_ck24 : nw_ckc cX3_see nw_cd24 = true := by decide +kernel
theorem nw_ck25 : nw_ckc cX3_lacksAgainst nw_cd25 = true := by decide +kernel
theorem nw_ck27 : nw_ckc cX4_choice nw_cd27 = true := by decide +kernel
theorem nw_ck28 : nw_ckc cX4_worth nw_cd28 = true := by decide +kernel
theorem nw_ck29 : nw_ckc cX4_rule nw_cd29 = true := by decide +kernel
theorem nw_ck30 : nw_ckc cX4_mode nw_cd30 = true := by decide +kernel
theorem nw_ck31 : nw_ckc cX4_weigh nw_cd31 = true := by decide +kernel
theorem nw_ck32 : nw_ckc cX4_told nw_cd32 = true := by decide +kernel
theorem nw_ck33 : nw_ckc cX4_count nw_cd33 = true := by decide +kernel
theorem nw_ck34 : nw_ckc cX4_best nw_cd34 = true := by decide +kernel
theorem nw_ck35 : nw_ckc cX4_pick nw_cd35 = true := by decide +kernel
theorem nw_ck36 : nw_ckc cX4_fixed nw_cd36 = true := by decide +kernel
theorem nw_ck37 : nw_ckc cX4_force nw_cd37 = true := by decide +kernel
theorem nw_ck38 : nw_ckc cX4_forced nw_cd38 = true := by decide +kernel
theorem nw_ck39 : nw_ckc cX4_avoid nw_cd39 = true := by decide +kernel
theorem nw_ck40 : nw_ckc cX4_raise nw_cd40 = true := by decide +kernel
theorem nw_ck41 : nw_ckc cX4_lower nw_cd41 = true := by decide +kernel
theorem nw_ck42 : nw_ckc cX4_needs nw_cd42 = true := by decide +kernel
theorem nw_ck43 : nw_ckc cX4_clash nw_cd43 = true := by decide +kernel
theorem nw_ck44 : nw_ckc cX4_clashAt nw_cd44 = true := by decide +kernel
theorem nw_ck45 : nw_ckc cX4_relaxAt nw_cd45 = true := by decide +kernel
theorem nw_ck46 : nw_ckc cX4_cost nw_cd46 = true := by decide +kernel
theorem nw_ck47 : nw_ckc cX4_price nw_cd47 = true := by decide +kernel
theorem nw_ck48 : nw_ckc cX4_breaks nw_cd48 = true := by decide +kernel
theorem nw_ck49 : nw_ckc cX4_score nw_cd49 = true := by decide +kernel
theorem nw_ck50 : nw_ckc cX4_forgetAll nw_cd50 = true := by decide +kernel
theorem nw_ck51 : nw_ckc cX4_isWeight nw_cd51 = true := by decide +kernel
theorem nw_ck52 : nw_ckc cX4_namesNoChoice nw_cd52 = true := by decide +kernel
theorem nw_ck53 : nw_ckc cX4_isWellTold nw_cd53 = true := by decide +kernel
theorem nw_ck54 : nw_ckc cX4_judgeFrom nw_cd54 = true := by decide +kernel
theorem nw_ck55 : nw_ckc cX4_planOf nw_cd55 = true := by decide +kernel
theorem nw_ck56 : nw_ckc cX4_scoreWith nw_cd56 = true := by decide +kernel
theorem nw_ck57 : nw_ckc cX4_lookAtAll nw_cd57 = true := by decide +kernel
theorem nw_ck58 : nw_ckc cX4_findWhole nw_cd58 = true := by decide +kernel
theorem nw_ck59 : nw_ckc cX4_findParts nw_cd59 = true := by decide +kernel
theorem nw_ck60 : nw_ckc cX4_findSets nw_cd60 = true := by decide +kernel
theorem nw_ck61 : nw_ckc cX4_findPossible nw_cd61 = true := by decide +kernel
theorem nw_ck62 : nw_ckc cX4_listSets nw_cd62 = true := by decide +kernel
theorem nw_ck63 : nw_ckc cX4_isClash nw_cd63 = true := by decide +kernel
theorem nw_ck64 : nw_ckc cX4_isRelaxation nw_cd64 = true := by decide +kernel
theorem nw_ck66 : nw_ckc cX5_in nw_cd66 = true := by decide +kernel
theorem nw_ck67 : nw_ckc cX5_isChoice nw_cd67 = true := by decide +kernel
theorem nw_ck68 : nw_ckc cX5_isCandidate nw_cd68 = true := by decide +kernel
theorem nw_ck69 : nw_ckc cX5_isRule nw_cd69 = true := by decide +kernel
theorem nw_ck70 : nw_ckc cX5_choice nw_cd70 = true := by decide +kernel
theorem nw_ck71 : nw_ckc cX5_worth nw_cd71 = true := by decide +kernel
theorem nw_ck72 : nw_ckc cX5_isRight nw_cd72 = true := by decide +kernel
theorem nw_ck73 : nw_ckc cX5_rule nw_cd73 = true := by decide +kernel
theorem nw_ck74 : nw_ckc cX5_mode nw_cd74 = true := by decide +kernel
theorem nw_ck75 : nw_ckc cX5_weigh nw_cd75 = true := by decide +kernel
theorem nw_ck76 : nw_ckc cX5_told nw_cd76 = true := by decide +kernel
theorem nw_ck77 : nw_ckc cX5_plans nw_cd77 = true := by decide +kernel
theorem nw_ck78 : nw_ckc cX5_lay nw_cd78 = true := by decide +kernel
theorem nw_ck79 : nw_ckc cX5_keeps nw_cd79 = true := by decide +kernel
theorem nw_ck80 : nw_ckc cX5_breaksNow nw_cd80 = true := by decide +kernel
theorem nw_ck81 : nw_ckc cX5_freshen nw_cd81 = true := by decide +kernel
theorem nw_ck82 : nw_ckc cX5_ofMode nw_cd82 = true := by decide +kernel
theorem nw_ck83 : nw_ckc cX5_costOf nw_cd83 = true := by decide +kernel
theorem nw_ck84 : nw_ckc cX5_takes nw_cd84 = true := by decide +kernel
theorem nw_ck85 : nw_ckc cX5_scoreNow nw_cd85 = true := by decide +kernel
theorem nw_ck86 : nw_ckc cX5_scoreOf nw_cd86 = true := by decide +kernel
theorem nw_ck87 : nw_ckc cX5_first nw_cd87 = true := by decide +kernel
theorem nw_ck88 : nw_ckc cX5_firstBest nw_cd88 = true := by decide +kernel
theorem nw_ck89 : nw_ckc cX5_findCan nw_cd89 = true := by decide +kernel
theorem nw_ck90 : nw_ckc cX5_isClash nw_cd90 = true := by decide +kernel
theorem nw_ck91 : nw_ckc cX5_isRelaxation nw_cd91 = true := by decide +kernel
theorem nw_ck92 : nw_ckc cX5_sizeOf nw_cd92 = true := by decide +kernel
theorem nw_ck93 : nw_ckc cX5_rankOf nw_cd93 = true := by decide +kernel
theorem nw_ck94 : nw_ckc cX5_manySets nw_cd94 = true := by decide +kernel
theorem nw_ck95 : nw_ckc cX5_setAt nw_cd95 = true := by decide +kernel
theorem nw_ck96 : nw_ckc cX5_standing nw_cd96 = true := by decide +kernel
theorem nw_ck97 : nw_ckc cX5_count nw_cd97 = true := by decide +kernel
theorem nw_ck98 : nw_ckc cX5_best nw_cd98 = true := by decide +kernel
theorem nw_ck99 : nw_ckc cX5_pick nw_cd99 = true := by decide +kernel
theorem nw_ck100 : nw_ckc cX5_fixed nw_cd100 = true := by decide +kernel
theorem nw_ck101 : nw_ckc cX5_force nw_cd101 = true := by decide +kernel
theorem nw_ck102 : nw_ckc cX5_forced nw_cd102 = true := by decide +kernel
theorem nw_ck103 : nw_ckc cX5_avoid nw_cd103 = true := by decide +kernel
theorem nw_ck104 : nw_ckc cX5_raise nw_cd104 = true := by decide +kernel
theorem nw_ck105 : nw_ckc cX5_lower nw_cd105 = true := by decide +kernel
theorem nw_ck106 : nw_ckc cX5_needs nw_cd106 = true := by decide +kernel
theorem nw_ck107 : nw_ckc cX5_clash nw_cd107 = true := by decide +kernel
theorem nw_ck108 : nw_ckc cX5_clashAt nw_cd108 = true := by decide +kernel
theorem nw_ck109 : nw_ckc cX5_relaxAt nw_cd109 = true := by decide +kernel
theorem nw_ck110 : nw_ckc cX5_cost nw_cd110 = true := by decide +kernel
theorem nw_ck111 : nw_ckc cX5_price nw_cd111 = true := by decide +kernel
theorem nw_ck112 : nw_ckc cX5_isPlan nw_cd112 = true := by decide +kernel
theorem nw_ck113 : nw_ckc cX5_breaks nw_cd113 = true := by decide +kernel
theorem nw_ck114 : nw_ckc cX5_score nw_cd114 = true := by decide +kernel
theorem nw_ck115 : nw_ckc cJ6_bitCount_0f7a4 nw_cd115 = true := by decide +kernel
theorem nw_ck116 : nw_ckc cJ9_abs_0f7a4 nw_cd116 = true := by decide +kernel
theorem nw_ck117 : nw_ckc cJ9_max_7cf53 nw_cd117 = true := by decide +kernel
end
section
def nw_ckr (bytes : ByteArray) (cd : List (List (Option Instr))) (b : Nat) : Bool := (List.range 16).all fun r => match (cd.getD b []).getD r none with
  | none => true
  | some i => nw_ck bytes (16 * b + r) i
theorem nw_ckL0 : nw_ckr code nw_cd118 0 = true := by decide +kernel
theorem nw_ckL1 : nw_ckr code nw_cd118 1 = true := by decide +kernel
theorem nw_ckL2 : nw_ckr code nw_cd118 2 = true := by decide +kernel
theorem nw_ckL3 : nw_ckr code nw_cd118 3 = true := by decide +kernel
theorem nw_ckL4 : nw_ckr code nw_cd118 4 = true := by decide +kernel
theorem nw_ckL5 : nw_ckr code nw_cd118 5 = true := by decide +kernel
theorem nw_ckL6 : nw_ckr code nw_cd118 6 = true := by decide +kernel
theorem nw_ckL7 : nw_ckr code nw_cd118 7 = true := by decide +kernel
theorem nw_ckL8 : nw_ckr code nw_cd118 8 = true := by decide +kernel
theorem nw_ckL9 : nw_ckr code nw_cd118 9 = true := by decide +kernel
theorem nw_ckL10 : nw_ckr code nw_cd118 10 = true := by decide +kernel
theorem nw_ckL11 : nw_ckr code nw_cd118 11 = true := by decide +kernel
theorem nw_ckL12 : nw_ckr code nw_cd118 12 = true := by decide +kernel
theorem nw_ckL13 : nw_ckr code nw_cd118 13 = true := by decide +kernel
theorem nw_ckL14 : nw_ckr code nw_cd118 14 = true := by decide +kernel
theorem nw_ckL15 : nw_ckr code nw_cd118 15 = true := by decide +kernel
theorem nw_ckL16 : nw_ckr code nw_cd118 16 = true := by decide +kernel
theorem nw_ckL17 : nw_ckr code nw_cd118 17 = true := by decide +kernel
theorem nw_ckL18 : nw_ckr code nw_cd118 18 = true := by decide +kernel
theorem nw_ckL19 : nw_ckr code nw_cd118 19 = true := by decide +kernel
theorem nw_ckL20 : nw_ckr code nw_cd118 20 = true := by decide +kernel
theorem nw_ckL21 : nw_ckr code nw_cd118 21 = true := by decide +kernel
theorem nw_ckL22 : nw_ckr code nw_cd118 22 = true := by decide +kernel
theorem nw_ckL23 : nw_ckr code nw_cd118 23 = true := by decide +kernel
theorem nw_ckL24 : nw_ckr code nw_cd118 24 = true := by decide +kernel
theorem nw_ckL25 : nw_ckr code nw_cd118 25 = true := by decide +kernel
theorem nw_ckL26 : nw_ckr code nw_cd118 26 = true := by decide +kernel
theorem nw_ckL27 : nw_ckr code nw_cd118 27 = true := by decide +kernel
theorem nw_ckL28 : nw_ckr code nw_cd118 28 = true := by decide +kernel
theorem nw_ckL29 : nw_ckr code nw_cd118 29 = true := by decide +kernel
theorem nw_ckL30 : nw_ckr code nw_cd118 30 = true := by decide +kernel
theorem nw_ckL31 : nw_ckr code nw_cd118 31 = true := by decide +kernel
theorem nw_ckL32 : nw_ckr code nw_cd118 32 = true := by decide +kernel
theorem nw_ckL33 : nw_ckr code nw_cd118 33 = true := by decide +kernel
theorem nw_ckL34 : nw_ckr code nw_cd118 34 = true := by decide +kernel
theorem nw_ckL35 : nw_ckr code nw_cd118 35 = true := by decide +kernel
theorem nw_ckL36 : nw_ckr code nw_cd118 36 = true := by decide +kernel
theorem nw_ckL37 : nw_ckr code nw_cd118 37 = true := by decide +kernel
theorem nw_ckL38 : nw_ckr code nw_cd118 38 = true := by decide +kernel
theorem nw_ckL39 : nw_ckr code nw_cd118 39 = true := by decide +kernel
theorem nw_ckL40 : nw_ckr code nw_cd118 40 = true := by decide +kernel
theorem nw_ckL41 : nw_ckr code nw_cd118 41 = true := by decide +kernel
theorem nw_ckL42 : nw_ckr code nw_cd118 42 = true := by decide +kernel
theorem nw_ckL43 : nw_ckr code nw_cd118 43 = true := by decide +kernel
theorem nw_ckL44 : nw_ckr code nw_cd118 44 = true := by decide +kernel
theorem nw_ckL45 : nw_ckr code nw_cd118 45 = true := by decide +kernel
theorem nw_ckL46 : nw_ckr code nw_cd118 46 = true := by decide +kernel
theorem nw_ckL47 : nw_ckr code nw_cd118 47 = true := by decide +kernel
theorem nw_ckL48 : nw_ckr code nw_cd118 48 = true := by decide +kernel
theorem nw_ckL49 : nw_ckr code nw_cd118 49 = true := by decide +kernel
theorem nw_ckL50 : nw_ckr code nw_cd118 50 = true := by decide +kernel
theorem nw_ckL51 : nw_ckr code nw_cd118 51 = true := by decide +kernel
theorem nw_ckL52 : nw_ckr code nw_cd118 52 = true := by decide +kernel
theorem nw_ckL53 : nw_ckr code nw_cd118 53 = true := by decide +kernel
theorem nw_ckL54 : nw_ckr code nw_cd118 54 = true := by decide +kernel
theorem nw_ckL55 : nw_ckr code nw_cd118 55 = true := by decide +kernel
theorem nw_ckL56 : nw_ckr code nw_cd118 56 = true := by decide +kernel
theorem nw_ck118 : nw_ckc code nw_cd118 = true := by
  refine List.all_eq_true.mpr fun b hb => ?_
  have hb : b < 57 := List.mem_range.mp hb
  match b, hb with
  | 0, _ => exact nw_ckL0
  | 1, _ => exact nw_ckL1
  | 2, _ => exact nw_ckL2
  | 3, _ => exact nw_ckL3
  | 4, _ => exact nw_ckL4
  | 5, _ => exact nw_ckL5
  | 6, _ => exact nw_ckL6
  | 7, _ => exact nw_ckL7
  | 8, _ => exact nw_ckL8
  | 9, _ => exact nw_ckL9
  | 10, _ => exact nw_ckL10
  | 11, _ => exact nw_ckL11
  | 12, _ => exact nw_ckL12
  | 13, _ => exact nw_ckL13
  | 14, _ => exact nw_ckL14
  | 15, _ => exact nw_ckL15
  | 16, _ => exact nw_ckL16
  | 17, _ => exact nw_ckL17
  | 18, _ => exact nw_ckL18
  | 19, _ => exact nw_ckL19
  | 20, _ => exact nw_ckL20
  | 21, _ => exact nw_ckL21
  | 22, _ => exact nw_ckL22
  | 23, _ => exact nw_ckL23
  | 24, _ => exact nw_ckL24
  | 25, _ => exact nw_ckL25
  | 26, _ => exact nw_ckL26
  | 27, _ => exact nw_ckL27
  | 28, _ => exact nw_ckL28
  | 29, _ => exact nw_ckL29
  | 30, _ => exact nw_ckL30
  | 31, _ => exact nw_ckL31
  | 32, _ => exact nw_ckL32
  | 33, _ => exact nw_ckL33
  | 34, _ => exact nw_ckL34
  | 35, _ => exact nw_ckL35
  | 36, _ => exact nw_ckL36
  | 37, _ => exact nw_ckL37
  | 38, _ => exact nw_ckL38
  | 39, _ => exact nw_ckL39
  | 40, _ => exact nw_ckL40
  | 41, _ => exact nw_ckL41
  | 42, _ => exact nw_ckL42
  | 43, _ => exact nw_ckL43
  | 44, _ => exact nw_ckL44
  | 45, _ => exact nw_ckL45
  | 46, _ => exact nw_ckL46
  | 47, _ => exact nw_ckL47
  | 48, _ => exact nw_ckL48
  | 49, _ => exact nw_ckL49
  | 50, _ => exact nw_ckL50
  | 51, _ => exact nw_ckL51
  | 52, _ => exact nw_ckL52
  | 53, _ => exact nw_ckL53
  | 54, _ => exact nw_ckL54
  | 55, _ => exact nw_ckL55
  | 56, _ => exact nw_ckL56
  | b + 57, hb => omega
theorem nw_code_ok {μ : Nat} {cd : List (List (Option Instr))} (h : nw_codes[μ]? = some cd) : nw_ckc (nw_B μ) cd = true := by
  have hl : μ < 119 := (List.getElem?_eq_some_iff.mp h).1
  match μ, hl, h with
  | 0, _, h => cases h; rfl
  | 1, _, h => cases h; exact nw_ck1
  | 2, _, h => cases h; exact nw_ck2
  | 3, _, h => cases h; exact nw_ck3
  | 4, _, h => cases h; exact nw_ck4
  | 5, _, h => cases h; exact nw_ck5
  | 6, _, h => cases h; exact nw_ck6
  | 7, _, h => cases h; exact nw_ck7
  | 8, _, h => cases h; rfl
  | 9, _, h => cases h; exact nw_ck9
  | 10, _, h => cases h; exact nw_ck10
  | 11, _, h => cases h; exact nw_ck11
  | 12, _, h => cases h; rfl
  | 13, _, h => cases h; exact nw_ck13
  | 14, _, h => cases h; exact nw_ck14
  | 15, _, h => cases h; exact nw_ck15
  | 16, _, h => cases h; exact nw_ck16
  | 17, _, h => cases h; exact nw_ck17
  | 18, _, h => cases h; exact nw_ck18
  | 19, _, h => cases h; exact nw_ck19
  | 20, _, h => cases h; exact nw_ck20
  | 21, _, h => cases h; exact nw_ck21
  | 22, _, h => cases h; rfl
  | 23, _, h => cases h; exact nw_ck23
  | 24, _, h => cases h; exact nw_ck24
  | 25, _, h => cases h; exact nw_ck25
  | 26, _, h => cases h; rfl
  | 27, _, h => cases h; exact nw_ck27
  | 28, _, h => cases h; exact nw_ck28
  | 29, _, h => cases h; exact nw_ck29
  | 30, _, h => cases h; exact nw_ck30
  | 31, _, h => cases h; exact nw_ck31
  | 32, _, h => cases h; exact nw_ck32
  | 33, _, h => cases h; exact nw_ck33
  | 34, _, h => cases h; exact nw_ck34
  | 35, _, h => cases h; exact nw_ck35
  | 36, _, h => cases h; exact nw_ck36
  | 37, _, h => cases h; exact nw_ck37
  | 38, _, h => cases h; exact nw_ck38
  | 39, _, h => cases h; exact nw_ck39
  | 40, _, h => cases h; exact nw_ck40
  | 41, _, h => cases h; exact nw_ck41
  | 42, _, h => cases h; exact nw_ck42
  | 43, _, h => cases h; exact nw_ck43
  | 44, _, h => cases h; exact nw_ck44
  | 45, _, h => cases h; exact nw_ck45
  | 46, _, h => cases h; exact nw_ck46
  | 47, _, h => cases h; exact nw_ck47
  | 48, _, h => cases h; exact nw_ck48
  | 49, _, h => cases h; exact nw_ck49
  | 50, _, h => cases h; exact nw_ck50
  | 51, _, h => cases h; exact nw_ck51
  | 52, _, h => cases h; exact nw_ck52
  | 53, _, h => cases h; exact nw_ck53
  | 54, _, h => cases h; exact nw_ck54
  | 55, _, h => cases h; exact nw_ck55
  | 56, _, h => cases h; exact nw_ck56
  | 57, _, h => cases h; exact nw_ck57
  | 58, _, h => cases h; exact nw_ck58
  | 59, _, h => cases h; exact nw_ck59
  | 60, _, h => cases h; exact nw_ck60
  | 61, _, h => cases h; exact nw_ck61
  | 62, _, h => cases h; exact nw_ck62
  | 63, _, h => cases h; exact nw_ck63
  | 64, _, h => cases h; exact nw_ck64
  | 65, _, h => cases h; rfl
  | 66, _, h => cases h; exact nw_ck66
  | 67, _, h => cases h; exact nw_ck67
  | 68, _, h => cases h; exact nw_ck68
  | 69, _, h => cases h; exact nw_ck69
  | 70, _, h => cases h; exact nw_ck70
  | 71, _, h => cases h; exact nw_ck71
  | 72, _, h => cases h; exact nw_ck72
  | 73, _, h => cases h; exact nw_ck73
  | 74, _, h => cases h; exact nw_ck74
  | 75, _, h => cases h; exact nw_ck75
  | 76, _, h => cases h; exact nw_ck76
  | 77, _, h => cases h; exact nw_ck77
  | 78, _, h => cases h; exact nw_ck78
  | 79, _, h => cases h; exact nw_ck79
  | 80, _, h => cases h; exact nw_ck80
  | 81, _, h => cases h; exact nw_ck81
  | 82, _, h => cases h; exact nw_ck82
  | 83, _, h => cases h; exact nw_ck83
  | 84, _, h => cases h; exact nw_ck84
  | 85, _, h => cases h; exact nw_ck85
  | 86, _, h => cases h; exact nw_ck86
  | 87, _, h => cases h; exact nw_ck87
  | 88, _, h => cases h; exact nw_ck88
  | 89, _, h => cases h; exact nw_ck89
  | 90, _, h => cases h; exact nw_ck90
  | 91, _, h => cases h; exact nw_ck91
  | 92, _, h => cases h; exact nw_ck92
  | 93, _, h => cases h; exact nw_ck93
  | 94, _, h => cases h; exact nw_ck94
  | 95, _, h => cases h; exact nw_ck95
  | 96, _, h => cases h; exact nw_ck96
  | 97, _, h => cases h; exact nw_ck97
  | 98, _, h => cases h; exact nw_ck98
  | 99, _, h => cases h; exact nw_ck99
  | 100, _, h => cases h; exact nw_ck100
  | 101, _, h => cases h; exact nw_ck101
  | 102, _, h => cases h; exact nw_ck102
  | 103, _, h => cases h; exact nw_ck103
  | 104, _, h => cases h; exact nw_ck104
  | 105, _, h => cases h; exact nw_ck105
  | 106, _, h => cases h; exact nw_ck106
  | 107, _, h => cases h; exact nw_ck107
  | 108, _, h => cases h; exact nw_ck108
  | 109, _, h => cases h; exact nw_ck109
  | 110, _, h => cases h; exact nw_ck110
  | 111, _, h => cases h; exact nw_ck111
  | 112, _, h => cases h; exact nw_ck112
  | 113, _, h => cases h; exact nw_ck113
  | 114, _, h => cases h; exact nw_ck114
  | 115, _, h => cases h; exact nw_ck115
  | 116, _, h => cases h; exact nw_ck116
  | 117, _, h => cases h; exact nw_ck117
  | 118, _, h => cases h; exact nw_ck118
  | μ + 119, hl, _ => omega
theorem nw_ok_of {w : Cond} (i : Nat) (h : lw_tbl[i]? = some w) (g : goodWord w = true) : w ∈ nw_tb := List.mem_filter.mpr ⟨List.mem_of_getElem? h, g⟩
end
section
def nw_mOK (μ : Nat) : Bool := decide ((nw_Y μ).cls = nw_own (nw_C μ)) && Nat.ble (nw_mL μ) 15 && decide ((nw_Y μ).cls ≠ "java/lang/invoke/MethodHandle" ∧ (nw_Y μ).cls ≠ "java/lang/invoke/VarHandle") && decide ((parseMethodDescriptor (nw_Y μ).desc).map (fun d => d.parameters.length) = some (nw_N μ))
theorem nw_m_ok : (List.range 119).all nw_mOK = true := by decide +kernel
theorem nw_plain : (List.range 116).all (fun μ => plainName (nw_Y μ).cls) = true := by decide +kernel
def nw_mW (ν : Nat) : Prop := Cond.code (nw_Y ν) (nw_B ν) (nw_mL ν) (nw_Rt ν) ∈ nw_tb ∧ Cond.initialized (nw_Y ν).cls ∈ nw_tb ∧ (nw_St ν = true → Cond.static (nw_Y ν) ∈ nw_tb) ∧ (nw_St ν = false → Cond.instanceMethod (nw_Y ν) ∈ nw_tb ∧ Cond.selects (nw_Y ν).cls (nw_Y ν) (nw_Y ν) ∈ nw_tb ∧ ∃ T N, vwCl[nw_C ν]? = some ((nw_Y ν).cls, T, N))
theorem nw_mw1 : nw_mW 1 := ⟨nw_ok_of 249 (by decide +kernel) (by decide +kernel), nw_ok_of 38 (by decide +kernel) (by decide +kernel), fun h => absurd h (by decide), fun _ => ⟨nw_ok_of 247 (by decide +kernel) (by decide +kernel), nw_ok_of 248 (by decide +kernel) (by decide +kernel), _, _, rfl⟩⟩
theorem nw_mw2 : nw_mW 2 := ⟨nw_ok_of 245 (by decide +kernel) (by decide +kernel), nw_ok_of 38 (by decide +kernel) (by decide +kernel), fun h => absurd h (by decide), fun _ => ⟨nw_ok_of 243 (by decide +kernel) (by decide +kernel), nw_ok_of 244 (by decide +kernel) (by decide +kernel), _, _, rfl⟩⟩
theorem nw_mw3 : nw_mW 3 := ⟨nw_ok_of 208 (by decide +kernel) (by decide +kernel), nw_ok_of 38 (by decide +kernel) (by decide +kernel), fun h => absurd h (by decide), fun _ => ⟨nw_ok_of 206 (by decide +kernel) (by decide +kernel), nw_ok_of 207 (by decide +kernel) (by decide +kernel), _, _, rfl⟩⟩
theorem nw_mw4 : nw_mW 4 := ⟨nw_ok_of 254 (by decide +kernel) (by decide +kernel), nw_ok_of 38 (by decide +kernel) (by decide +kernel), fun h => absurd h (by decide), fun _ => ⟨nw_ok_of 252 (by decide +kernel) (by decide +kernel), nw_ok_of 253 (by decide +kernel) (by decide +kernel), _, _, rfl⟩⟩
theorem nw_mw5 : nw_mW 5 := ⟨nw_ok_of 220 (by decide +kernel) (by decide +kernel), nw_ok_of 38 (by decide +kernel) (by decide +kernel), fun h => absurd h (by decide), fun _ => ⟨nw_ok_of 218 (by decide +kernel) (by decide +kernel), nw_ok_of 219 (by decide +kernel) (by decide +kernel), _, _, rfl⟩⟩
theorem nw_mw6 : nw_mW 6 := ⟨nw_ok_of 216 (by decide +kernel) (by decide +kernel), nw_ok_of 38 (by decide +kernel) (by decide +kernel), fun h => absurd h (by decide), fun _ => ⟨nw_ok_of 214 (by decide +kernel) (by decide +kernel), nw_ok_of 215 (by decide +kernel) (by decide +kernel), _, _, rfl⟩⟩
theorem nw_mw7 : nw_mW 7 := ⟨nw_ok_of 450 (by decide +kernel) (by decide +kernel), nw_ok_of 38 (by decide +kernel) (by decide +kernel), fun h => absurd h (by decide), fun _ => ⟨nw_ok_of 448 (by decide +kernel) (by decide +kernel), nw_ok_of 449 (by decide +kernel) (by decide +kernel), _, _, rfl⟩⟩
theorem nw_mw9 : nw_mW 9 := ⟨nw_ok_of 342 (by decide +kernel) (by decide +kernel), nw_ok_of 41 (by decide +kernel) (by decide +kernel), fun h => absurd h (by decide), fun _ => ⟨nw_ok_of 340 (by decide +kernel) (by decide +kernel), nw_ok_of 341 (by decide +kernel) (by decide +kernel), _, _, rfl⟩⟩
theorem nw_mw10 : nw_mW 10 := ⟨nw_ok_of 356 (by decide +kernel) (by decide +kernel), nw_ok_of 41 (by decide +kernel) (by decide +kernel), fun h => absurd h (by decide), fun _ => ⟨nw_ok_of 354 (by decide +kernel) (by decide +kernel), nw_ok_of 355 (by decide +kernel) (by decide +kernel), _, _, rfl⟩⟩
theorem nw_mw11 : nw_mW 11 := ⟨nw_ok_of 425 (by decide +kernel) (by decide +kernel), nw_ok_of 41 (by decide +kernel) (by decide +kernel), fun h => absurd h (by decide), fun _ => ⟨nw_ok_of 423 (by decide +kernel) (by decide +kernel), nw_ok_of 424 (by decide +kernel) (by decide +kernel), _, _, rfl⟩⟩
theorem nw_mw13 : nw_mW 13 := ⟨nw_ok_of 285 (by decide +kernel) (by decide +kernel), nw_ok_of 39 (by decide +kernel) (by decide +kernel), fun h => absurd h (by decide), fun _ => ⟨nw_ok_of 283 (by decide +kernel) (by decide +kernel), nw_ok_of 284 (by decide +kernel) (by decide +kernel), _, _, rfl⟩⟩
theorem nw_mw14 : nw_mW 14 := ⟨nw_ok_of 277 (by decide +kernel) (by decide +kernel), nw_ok_of 39 (by decide +kernel) (by decide +kernel), fun h => absurd h (by decide), fun _ => ⟨nw_ok_of 275 (by decide +kernel) (by decide +kernel), nw_ok_of 276 (by decide +kernel) (by decide +kernel), _, _, rfl⟩⟩
theorem nw_mw15 : nw_mW 15 := ⟨nw_ok_of 273 (by decide +kernel) (by decide +kernel), nw_ok_of 39 (by decide +kernel) (by decide +kernel), fun h => absurd h (by decide), fun _ => ⟨nw_ok_of 271 (by decide +kernel) (by decide +kernel), nw_ok_of 272 (by decide +kernel) (by decide +kernel), _, _, rfl⟩⟩
theorem nw_mw16 : nw_mW 16 := ⟨nw_ok_of 293 (by decide +kernel) (by decide +kernel), nw_ok_of 39 (by decide +kernel) (by decide +kernel), fun h => absurd h (by decide), fun _ => ⟨nw_ok_of 291 (by decide +kernel) (by decide +kernel), nw_ok_of 292 (by decide +kernel) (by decide +kernel), _, _, rfl⟩⟩
theorem nw_mw17 : nw_mW 17 := ⟨nw_ok_of 309 (by decide +kernel) (by decide +kernel), nw_ok_of 39 (by decide +kernel) (by decide +kernel), fun h => absurd h (by decide), fun _ => ⟨nw_ok_of 307 (by decide +kernel) (by decide +kernel), nw_ok_of 308 (by decide +kernel) (by decide +kernel), _, _, rfl⟩⟩
theorem nw_mw18 : nw_mW 18 := ⟨nw_ok_of 413 (by decide +kernel) (by decide +kernel), nw_ok_of 39 (by decide +kernel) (by decide +kernel), fun h => absurd h (by decide), fun _ => ⟨nw_ok_of 411 (by decide +kernel) (by decide +kernel), nw_ok_of 412 (by decide +kernel) (by decide +kernel), _, _, rfl⟩⟩
theorem nw_mw19 : nw_mW 19 := ⟨nw_ok_of 224 (by decide +kernel) (by decide +kernel), nw_ok_of 39 (by decide +kernel) (by decide +kernel), fun h => absurd h (by decide), fun _ => ⟨nw_ok_of 222 (by decide +kernel) (by decide +kernel), nw_ok_of 223 (by decide +kernel) (by decide +kernel), _, _, rfl⟩⟩
theorem nw_mw20 : nw_mW 20 := ⟨nw_ok_of 230 (by decide +kernel) (by decide +kernel), nw_ok_of 39 (by decide +kernel) (by decide +kernel), fun _ => nw_ok_of 229 (by decide +kernel) (by decide +kernel), fun h => absurd h (by decide)⟩
theorem nw_mw21 : nw_mW 21 := ⟨nw_ok_of 233 (by decide +kernel) (by decide +kernel), nw_ok_of 39 (by decide +kernel) (by decide +kernel), fun _ => nw_ok_of 232 (by decide +kernel) (by decide +kernel), fun h => absurd h (by decide)⟩
theorem nw_mw23 : nw_mW 23 := ⟨nw_ok_of 317 (by decide +kernel) (by decide +kernel), nw_ok_of 40 (by decide +kernel) (by decide +kernel), fun h => absurd h (by decide), fun _ => ⟨nw_ok_of 315 (by decide +kernel) (by decide +kernel), nw_ok_of 316 (by decide +kernel) (by decide +kernel), _, _, rfl⟩⟩
theorem nw_mw24 : nw_mW 24 := ⟨nw_ok_of 325 (by decide +kernel) (by decide +kernel), nw_ok_of 40 (by decide +kernel) (by decide +kernel), fun h => absurd h (by decide), fun _ => ⟨nw_ok_of 323 (by decide +kernel) (by decide +kernel), nw_ok_of 324 (by decide +kernel) (by decide +kernel), _, _, rfl⟩⟩
theorem nw_mw25 : nw_mW 25 := ⟨nw_ok_of 398 (by decide +kernel) (by decide +kernel), nw_ok_of 40 (by decide +kernel) (by decide +kernel), fun h => absurd h (by decide), fun _ => ⟨nw_ok_of 396 (by decide +kernel) (by decide +kernel), nw_ok_of 397 (by decide +kernel) (by decide +kernel), _, _, rfl⟩⟩
theorem nw_mw27 : nw_mW 27 := ⟨nw_ok_of 202 (by decide +kernel) (by decide +kernel), nw_ok_of 37 (by decide +kernel) (by decide +kernel), fun h => absurd h (by decide), fun _ => ⟨nw_ok_of 200 (by decide +kernel) (by decide +kernel), nw_ok_of 201 (by decide +kernel) (by decide +kernel), _, _, rfl⟩⟩
theorem nw_mw28 : nw_mW 28 := ⟨nw_ok_of 241 (by decide +kernel) (by decide +kernel), nw_ok_of 37 (by decide +kernel) (by decide +kernel), fun h => absurd h (by decide), fun _ => ⟨nw_ok_of 239 (by decide +kernel) (by decide +kernel), nw_ok_of 240 (by decide +kernel) (by decide +kernel), _, _, rfl⟩⟩
theorem nw_mw29 : nw_mW 29 := ⟨nw_ok_of 258 (by decide +kernel) (by decide +kernel), nw_ok_of 37 (by decide +kernel) (by decide +kernel), fun h => absurd h (by decide), fun _ => ⟨nw_ok_of 256 (by decide +kernel) (by decide +kernel), nw_ok_of 257 (by decide +kernel) (by decide +kernel), _, _, rfl⟩⟩
theorem nw_mw30 : nw_mW 30 := ⟨nw_ok_of 281 (by decide +kernel) (by decide +kernel), nw_ok_of 37 (by decide +kernel) (by decide +kernel), fun h => absurd h (by decide), fun _ => ⟨nw_ok_of 279 (by decide +kernel) (by decide +kernel), nw_ok_of 280 (by decide +kernel) (by decide +kernel), _, _, rfl⟩⟩
theorem nw_mw31 : nw_mW 31 := ⟨nw_ok_of 289 (by decide +kernel) (by decide +kernel), nw_ok_of 37 (by decide +kernel) (by decide +kernel), fun h => absurd h (by decide), fun _ => ⟨nw_ok_of 287 (by decide +kernel) (by decide +kernel), nw_ok_of 288 (by decide +kernel) (by decide +kernel), _, _, rfl⟩⟩
theorem nw_mw32 : nw_mW 32 := ⟨nw_ok_of 297 (by decide +kernel) (by decide +kernel), nw_ok_of 37 (by decide +kernel) (by decide +kernel), fun h => absurd h (by decide), fun _ => ⟨nw_ok_of 295 (by decide +kernel) (by decide +kernel), nw_ok_of 296 (by decide +kernel) (by decide +kernel), _, _, rfl⟩⟩
theorem nw_mw33 : nw_mW 33 := ⟨nw_ok_of 301 (by decide +kernel) (by decide +kernel), nw_ok_of 37 (by decide +kernel) (by decide +kernel), fun h => absurd h (by decide), fun _ => ⟨nw_ok_of 299 (by decide +kernel) (by decide +kernel), nw_ok_of 300 (by decide +kernel) (by decide +kernel), _, _, rfl⟩⟩
theorem nw_mw34 : nw_mW 34 := ⟨nw_ok_of 364 (by decide +kernel) (by decide +kernel), nw_ok_of 37 (by decide +kernel) (by decide +kernel), fun h => absurd h (by decide), fun _ => ⟨nw_ok_of 362 (by decide +kernel) (by decide +kernel), nw_ok_of 363 (by decide +kernel) (by decide +kernel), _, _, rfl⟩⟩
theorem nw_mw35 : nw_mW 35 := ⟨nw_ok_of 369 (by decide +kernel) (by decide +kernel), nw_ok_of 37 (by decide +kernel) (by decide +kernel), fun h => absurd h (by decide), fun _ => ⟨nw_ok_of 367 (by decide +kernel) (by decide +kernel), nw_ok_of 368 (by decide +kernel) (by decide +kernel), _, _, rfl⟩⟩
theorem nw_mw36 : nw_mW 36 := ⟨nw_ok_of 374 (by decide +kernel) (by decide +kernel), nw_ok_of 37 (by decide +kernel) (by decide +kernel), fun h => absurd h (by decide), fun _ => ⟨nw_ok_of 372 (by decide +kernel) (by decide +kernel), nw_ok_of 373 (by decide +kernel) (by decide +kernel), _, _, rfl⟩⟩
theorem nw_mw37 : nw_mW 37 := ⟨nw_ok_of 378 (by decide +kernel) (by decide +kernel), nw_ok_of 37 (by decide +kernel) (by decide +kernel), fun h => absurd h (by decide), fun _ => ⟨nw_ok_of 376 (by decide +kernel) (by decide +kernel), nw_ok_of 377 (by decide +kernel) (by decide +kernel), _, _, rfl⟩⟩
theorem nw_mw38 : nw_mW 38 := ⟨nw_ok_of 386 (by decide +kernel) (by decide +kernel), nw_ok_of 37 (by decide +kernel) (by decide +kernel), fun h => absurd h (by decide), fun _ => ⟨nw_ok_of 384 (by decide +kernel) (by decide +kernel), nw_ok_of 385 (by decide +kernel) (by decide +kernel), _, _, rfl⟩⟩
theorem nw_mw39 : nw_mW 39 := ⟨nw_ok_of 390 (by decide +kernel) (by decide +kernel), nw_ok_of 37 (by decide +kernel) (by decide +kernel), fun h => absurd h (by decide), fun _ => ⟨nw_ok_of 388 (by decide +kernel) (by decide +kernel), nw_ok_of 389 (by decide +kernel) (by decide +kernel), _, _, rfl⟩⟩
theorem nw_mw40 : nw_mW 40 := ⟨nw_ok_of 394 (by decide +kernel) (by decide +kernel), nw_ok_of 37 (by decide +kernel) (by decide +kernel), fun h => absurd h (by decide), fun _ => ⟨nw_ok_of 392 (by decide +kernel) (by decide +kernel), nw_ok_of 393 (by decide +kernel) (by decide +kernel), _, _, rfl⟩⟩
theorem nw_mw41 : nw_mW 41 := ⟨nw_ok_of 405 (by decide +kernel) (by decide +kernel), nw_ok_of 37 (by decide +kernel) (by decide +kernel), fun h => absurd h (by decide), fun _ => ⟨nw_ok_of 403 (by decide +kernel) (by decide +kernel), nw_ok_of 404 (by decide +kernel) (by decide +kernel), _, _, rfl⟩⟩
theorem nw_mw42 : nw_mW 42 := ⟨nw_ok_of 409 (by decide +kernel) (by decide +kernel), nw_ok_of 37 (by decide +kernel) (by decide +kernel), fun h => absurd h (by decide), fun _ => ⟨nw_ok_of 407 (by decide +kernel) (by decide +kernel), nw_ok_of 408 (by decide +kernel) (by decide +kernel), _, _, rfl⟩⟩
theorem nw_mw43 : nw_mW 43 := ⟨nw_ok_of 417 (by decide +kernel) (by decide +kernel), nw_ok_of 37 (by decide +kernel) (by decide +kernel), fun h => absurd h (by decide), fun _ => ⟨nw_ok_of 415 (by decide +kernel) (by decide +kernel), nw_ok_of 416 (by decide +kernel) (by decide +kernel), _, _, rfl⟩⟩
theorem nw_mw44 : nw_mW 44 := ⟨nw_ok_of 421 (by decide +kernel) (by decide +kernel), nw_ok_of 37 (by decide +kernel) (by decide +kernel), fun h => absurd h (by decide), fun _ => ⟨nw_ok_of 419 (by decide +kernel) (by decide +kernel), nw_ok_of 420 (by decide +kernel) (by decide +kernel), _, _, rfl⟩⟩
theorem nw_mw45 : nw_mW 45 := ⟨nw_ok_of 430 (by decide +kernel) (by decide +kernel), nw_ok_of 37 (by decide +kernel) (by decide +kernel), fun h => absurd h (by decide), fun _ => ⟨nw_ok_of 428 (by decide +kernel) (by decide +kernel), nw_ok_of 429 (by decide +kernel) (by decide +kernel), _, _, rfl⟩⟩
theorem nw_mw46 : nw_mW 46 := ⟨nw_ok_of 434 (by decide +kernel) (by decide +kernel), nw_ok_of 37 (by decide +kernel) (by decide +kernel), fun h => absurd h (by decide), fun _ => ⟨nw_ok_of 432 (by decide +kernel) (by decide +kernel), nw_ok_of 433 (by decide +kernel) (by decide +kernel), _, _, rfl⟩⟩
theorem nw_mw47 : nw_mW 47 := ⟨nw_ok_of 438 (by decide +kernel) (by decide +kernel), nw_ok_of 37 (by decide +kernel) (by decide +kernel), fun h => absurd h (by decide), fun _ => ⟨nw_ok_of 436 (by decide +kernel) (by decide +kernel), nw_ok_of 437 (by decide +kernel) (by decide +kernel), _, _, rfl⟩⟩
theorem nw_mw48 : nw_mW 48 := ⟨nw_ok_of 442 (by decide +kernel) (by decide +kernel), nw_ok_of 37 (by decide +kernel) (by decide +kernel), fun h => absurd h (by decide), fun _ => ⟨nw_ok_of 440 (by decide +kernel) (by decide +kernel), nw_ok_of 441 (by decide +kernel) (by decide +kernel), _, _, rfl⟩⟩
theorem nw_mw49 : nw_mW 49 := ⟨nw_ok_of 455 (by decide +kernel) (by decide +kernel), nw_ok_of 37 (by decide +kernel) (by decide +kernel), fun h => absurd h (by decide), fun _ => ⟨nw_ok_of 453 (by decide +kernel) (by decide +kernel), nw_ok_of 454 (by decide +kernel) (by decide +kernel), _, _, rfl⟩⟩
theorem nw_mw50 : nw_mW 50 := ⟨nw_ok_of 237 (by decide +kernel) (by decide +kernel), nw_ok_of 37 (by decide +kernel) (by decide +kernel), fun h => absurd h (by decide), fun _ => ⟨nw_ok_of 236 (by decide +kernel) (by decide +kernel), nw_ok_of 1 (by decide +kernel) (by decide +kernel), _, _, rfl⟩⟩
theorem nw_mw51 : nw_mW 51 := ⟨nw_ok_of 269 (by decide +kernel) (by decide +kernel), nw_ok_of 37 (by decide +kernel) (by decide +kernel), fun _ => nw_ok_of 268 (by decide +kernel) (by decide +kernel), fun h => absurd h (by decide)⟩
theorem nw_mw52 : nw_mW 52 := ⟨nw_ok_of 262 (by decide +kernel) (by decide +kernel), nw_ok_of 37 (by decide +kernel) (by decide +kernel), fun h => absurd h (by decide), fun _ => ⟨nw_ok_of 261 (by decide +kernel) (by decide +kernel), nw_ok_of 2 (by decide +kernel) (by decide +kernel), _, _, rfl⟩⟩
theorem nw_mw53 : nw_mW 53 := ⟨nw_ok_of 266 (by decide +kernel) (by decide +kernel), nw_ok_of 37 (by decide +kernel) (by decide +kernel), fun _ => nw_ok_of 265 (by decide +kernel) (by decide +kernel), fun h => absurd h (by decide)⟩
theorem nw_mw54 : nw_mW 54 := ⟨nw_ok_of 212 (by decide +kernel) (by decide +kernel), nw_ok_of 37 (by decide +kernel) (by decide +kernel), fun h => absurd h (by decide), fun _ => ⟨nw_ok_of 211 (by decide +kernel) (by decide +kernel), nw_ok_of 0 (by decide +kernel) (by decide +kernel), _, _, rfl⟩⟩
theorem nw_mw55 : nw_mW 55 := ⟨nw_ok_of 446 (by decide +kernel) (by decide +kernel), nw_ok_of 37 (by decide +kernel) (by decide +kernel), fun h => absurd h (by decide), fun _ => ⟨nw_ok_of 445 (by decide +kernel) (by decide +kernel), nw_ok_of 12 (by decide +kernel) (by decide +kernel), _, _, rfl⟩⟩
theorem nw_mw56 : nw_mW 56 := ⟨nw_ok_of 321 (by decide +kernel) (by decide +kernel), nw_ok_of 37 (by decide +kernel) (by decide +kernel), fun h => absurd h (by decide), fun _ => ⟨nw_ok_of 320 (by decide +kernel) (by decide +kernel), nw_ok_of 5 (by decide +kernel) (by decide +kernel), _, _, rfl⟩⟩
theorem nw_mw57 : nw_mW 57 := ⟨nw_ok_of 313 (by decide +kernel) (by decide +kernel), nw_ok_of 37 (by decide +kernel) (by decide +kernel), fun h => absurd h (by decide), fun _ => ⟨nw_ok_of 312 (by decide +kernel) (by decide +kernel), nw_ok_of 4 (by decide +kernel) (by decide +kernel), _, _, rfl⟩⟩
theorem nw_mw58 : nw_mW 58 := ⟨nw_ok_of 305 (by decide +kernel) (by decide +kernel), nw_ok_of 37 (by decide +kernel) (by decide +kernel), fun h => absurd h (by decide), fun _ => ⟨nw_ok_of 304 (by decide +kernel) (by decide +kernel), nw_ok_of 3 (by decide +kernel) (by decide +kernel), _, _, rfl⟩⟩
theorem nw_mw59 : nw_mW 59 := ⟨nw_ok_of 382 (by decide +kernel) (by decide +kernel), nw_ok_of 37 (by decide +kernel) (by decide +kernel), fun h => absurd h (by decide), fun _ => ⟨nw_ok_of 381 (by decide +kernel) (by decide +kernel), nw_ok_of 11 (by decide +kernel) (by decide +kernel), _, _, rfl⟩⟩
theorem nw_mw60 : nw_mW 60 := ⟨nw_ok_of 329 (by decide +kernel) (by decide +kernel), nw_ok_of 37 (by decide +kernel) (by decide +kernel), fun h => absurd h (by decide), fun _ => ⟨nw_ok_of 328 (by decide +kernel) (by decide +kernel), nw_ok_of 6 (by decide +kernel) (by decide +kernel), _, _, rfl⟩⟩
theorem nw_mw61 : nw_mW 61 := ⟨nw_ok_of 333 (by decide +kernel) (by decide +kernel), nw_ok_of 37 (by decide +kernel) (by decide +kernel), fun h => absurd h (by decide), fun _ => ⟨nw_ok_of 332 (by decide +kernel) (by decide +kernel), nw_ok_of 7 (by decide +kernel) (by decide +kernel), _, _, rfl⟩⟩
theorem nw_mw62 : nw_mW 62 := ⟨nw_ok_of 338 (by decide +kernel) (by decide +kernel), nw_ok_of 37 (by decide +kernel) (by decide +kernel), fun h => absurd h (by decide), fun _ => ⟨nw_ok_of 337 (by decide +kernel) (by decide +kernel), nw_ok_of 8 (by decide +kernel) (by decide +kernel), _, _, rfl⟩⟩
theorem nw_mw63 : nw_mW 63 := ⟨nw_ok_of 346 (by decide +kernel) (by decide +kernel), nw_ok_of 37 (by decide +kernel) (by decide +kernel), fun h => absurd h (by decide), fun _ => ⟨nw_ok_of 345 (by decide +kernel) (by decide +kernel), nw_ok_of 9 (by decide +kernel) (by decide +kernel), _, _, rfl⟩⟩
theorem nw_mw64 : nw_mW 64 := ⟨nw_ok_of 360 (by decide +kernel) (by decide +kernel), nw_ok_of 37 (by decide +kernel) (by decide +kernel), fun h => absurd h (by decide), fun _ => ⟨nw_ok_of 359 (by decide +kernel) (by decide +kernel), nw_ok_of 10 (by decide +kernel) (by decide +kernel), _, _, rfl⟩⟩
theorem nw_mw66 : nw_mW 66 := ⟨nw_ok_of 514 (by decide +kernel) (by decide +kernel), nw_ok_of 42 (by decide +kernel) (by decide +kernel), fun _ => nw_ok_of 513 (by decide +kernel) (by decide +kernel), fun h => absurd h (by decide)⟩
theorem nw_mw67 : nw_mW 67 := ⟨nw_ok_of 528 (by decide +kernel) (by decide +kernel), nw_ok_of 42 (by decide +kernel) (by decide +kernel), fun h => absurd h (by decide), fun _ => ⟨nw_ok_of 527 (by decide +kernel) (by decide +kernel), nw_ok_of 14 (by decide +kernel) (by decide +kernel), _, _, rfl⟩⟩
theorem nw_mw68 : nw_mW 68 := ⟨nw_ok_of 524 (by decide +kernel) (by decide +kernel), nw_ok_of 42 (by decide +kernel) (by decide +kernel), fun h => absurd h (by decide), fun _ => ⟨nw_ok_of 523 (by decide +kernel) (by decide +kernel), nw_ok_of 13 (by decide +kernel) (by decide +kernel), _, _, rfl⟩⟩
theorem nw_mw69 : nw_mW 69 := ⟨nw_ok_of 544 (by decide +kernel) (by decide +kernel), nw_ok_of 42 (by decide +kernel) (by decide +kernel), fun h => absurd h (by decide), fun _ => ⟨nw_ok_of 543 (by decide +kernel) (by decide +kernel), nw_ok_of 15 (by decide +kernel) (by decide +kernel), _, _, rfl⟩⟩
theorem nw_mw70 : nw_mW 70 := ⟨nw_ok_of 511 (by decide +kernel) (by decide +kernel), nw_ok_of 42 (by decide +kernel) (by decide +kernel), fun h => absurd h (by decide), fun _ => ⟨nw_ok_of 509 (by decide +kernel) (by decide +kernel), nw_ok_of 510 (by decide +kernel) (by decide +kernel), _, _, rfl⟩⟩
theorem nw_mw71 : nw_mW 71 := ⟨nw_ok_of 520 (by decide +kernel) (by decide +kernel), nw_ok_of 42 (by decide +kernel) (by decide +kernel), fun h => absurd h (by decide), fun _ => ⟨nw_ok_of 518 (by decide +kernel) (by decide +kernel), nw_ok_of 519 (by decide +kernel) (by decide +kernel), _, _, rfl⟩⟩
theorem nw_mw72 : nw_mW 72 := ⟨nw_ok_of 536 (by decide +kernel) (by decide +kernel), nw_ok_of 42 (by decide +kernel) (by decide +kernel), fun _ => nw_ok_of 535 (by decide +kernel) (by decide +kernel), fun h => absurd h (by decide)⟩
theorem nw_mw73 : nw_mW 73 := ⟨nw_ok_of 533 (by decide +kernel) (by decide +kernel), nw_ok_of 42 (by decide +kernel) (by decide +kernel), fun h => absurd h (by decide), fun _ => ⟨nw_ok_of 531 (by decide +kernel) (by decide +kernel), nw_ok_of 532 (by decide +kernel) (by decide +kernel), _, _, rfl⟩⟩
theorem nw_mw74 : nw_mW 74 := ⟨nw_ok_of 540 (by decide +kernel) (by decide +kernel), nw_ok_of 42 (by decide +kernel) (by decide +kernel), fun h => absurd h (by decide), fun _ => ⟨nw_ok_of 538 (by decide +kernel) (by decide +kernel), nw_ok_of 539 (by decide +kernel) (by decide +kernel), _, _, rfl⟩⟩
theorem nw_mw75 : nw_mW 75 := ⟨nw_ok_of 548 (by decide +kernel) (by decide +kernel), nw_ok_of 42 (by decide +kernel) (by decide +kernel), fun h => absurd h (by decide), fun _ => ⟨nw_ok_of 546 (by decide +kernel) (by decide +kernel), nw_ok_of 547 (by decide +kernel) (by decide +kernel), _, _, rfl⟩⟩
theorem nw_mw76 : nw_mW 76 := ⟨nw_ok_of 552 (by decide +kernel) (by decide +kernel), nw_ok_of 42 (by decide +kernel) (by decide +kernel), fun h => absurd h (by decide), fun _ => ⟨nw_ok_of 550 (by decide +kernel) (by decide +kernel), nw_ok_of 551 (by decide +kernel) (by decide +kernel), _, _, rfl⟩⟩
theorem nw_mw77 : nw_mW 77 := ⟨nw_ok_of 560 (by decide +kernel) (by decide +kernel), nw_ok_of 42 (by decide +kernel) (by decide +kernel), fun h => absurd h (by decide), fun _ => ⟨nw_ok_of 559 (by decide +kernel) (by decide +kernel), nw_ok_of 16 (by decide +kernel) (by decide +kernel), _, _, rfl⟩⟩
theorem nw_mw78 : nw_mW 78 := ⟨nw_ok_of 572 (by decide +kernel) (by decide +kernel), nw_ok_of 42 (by decide +kernel) (by decide +kernel), fun h => absurd h (by decide), fun _ => ⟨nw_ok_of 571 (by decide +kernel) (by decide +kernel), nw_ok_of 19 (by decide +kernel) (by decide +kernel), _, _, rfl⟩⟩
theorem nw_mw79 : nw_mW 79 := ⟨nw_ok_of 580 (by decide +kernel) (by decide +kernel), nw_ok_of 42 (by decide +kernel) (by decide +kernel), fun h => absurd h (by decide), fun _ => ⟨nw_ok_of 579 (by decide +kernel) (by decide +kernel), nw_ok_of 21 (by decide +kernel) (by decide +kernel), _, _, rfl⟩⟩
theorem nw_mw80 : nw_mW 80 := ⟨nw_ok_of 576 (by decide +kernel) (by decide +kernel), nw_ok_of 42 (by decide +kernel) (by decide +kernel), fun h => absurd h (by decide), fun _ => ⟨nw_ok_of 575 (by decide +kernel) (by decide +kernel), nw_ok_of 20 (by decide +kernel) (by decide +kernel), _, _, rfl⟩⟩
theorem nw_mw81 : nw_mW 81 := ⟨nw_ok_of 568 (by decide +kernel) (by decide +kernel), nw_ok_of 42 (by decide +kernel) (by decide +kernel), fun h => absurd h (by decide), fun _ => ⟨nw_ok_of 567 (by decide +kernel) (by decide +kernel), nw_ok_of 18 (by decide +kernel) (by decide +kernel), _, _, rfl⟩⟩
theorem nw_mw82 : nw_mW 82 := ⟨nw_ok_of 584 (by decide +kernel) (by decide +kernel), nw_ok_of 42 (by decide +kernel) (by decide +kernel), fun h => absurd h (by decide), fun _ => ⟨nw_ok_of 583 (by decide +kernel) (by decide +kernel), nw_ok_of 22 (by decide +kernel) (by decide +kernel), _, _, rfl⟩⟩
theorem nw_mw83 : nw_mW 83 := ⟨nw_ok_of 596 (by decide +kernel) (by decide +kernel), nw_ok_of 42 (by decide +kernel) (by decide +kernel), fun h => absurd h (by decide), fun _ => ⟨nw_ok_of 595 (by decide +kernel) (by decide +kernel), nw_ok_of 25 (by decide +kernel) (by decide +kernel), _, _, rfl⟩⟩
theorem nw_mw84 : nw_mW 84 := ⟨nw_ok_of 608 (by decide +kernel) (by decide +kernel), nw_ok_of 42 (by decide +kernel) (by decide +kernel), fun h => absurd h (by decide), fun _ => ⟨nw_ok_of 607 (by decide +kernel) (by decide +kernel), nw_ok_of 28 (by decide +kernel) (by decide +kernel), _, _, rfl⟩⟩
theorem nw_mw85 : nw_mW 85 := ⟨nw_ok_of 592 (by decide +kernel) (by decide +kernel), nw_ok_of 42 (by decide +kernel) (by decide +kernel), fun h => absurd h (by decide), fun _ => ⟨nw_ok_of 591 (by decide +kernel) (by decide +kernel), nw_ok_of 24 (by decide +kernel) (by decide +kernel), _, _, rfl⟩⟩
theorem nw_mw86 : nw_mW 86 := ⟨nw_ok_of 588 (by decide +kernel) (by decide +kernel), nw_ok_of 42 (by decide +kernel) (by decide +kernel), fun h => absurd h (by decide), fun _ => ⟨nw_ok_of 587 (by decide +kernel) (by decide +kernel), nw_ok_of 23 (by decide +kernel) (by decide +kernel), _, _, rfl⟩⟩
theorem nw_mw87 : nw_mW 87 := ⟨nw_ok_of 604 (by decide +kernel) (by decide +kernel), nw_ok_of 42 (by decide +kernel) (by decide +kernel), fun h => absurd h (by decide), fun _ => ⟨nw_ok_of 603 (by decide +kernel) (by decide +kernel), nw_ok_of 27 (by decide +kernel) (by decide +kernel), _, _, rfl⟩⟩
theorem nw_mw88 : nw_mW 88 := ⟨nw_ok_of 600 (by decide +kernel) (by decide +kernel), nw_ok_of 42 (by decide +kernel) (by decide +kernel), fun h => absurd h (by decide), fun _ => ⟨nw_ok_of 599 (by decide +kernel) (by decide +kernel), nw_ok_of 26 (by decide +kernel) (by decide +kernel), _, _, rfl⟩⟩
theorem nw_mw89 : nw_mW 89 := ⟨nw_ok_of 616 (by decide +kernel) (by decide +kernel), nw_ok_of 42 (by decide +kernel) (by decide +kernel), fun h => absurd h (by decide), fun _ => ⟨nw_ok_of 615 (by decide +kernel) (by decide +kernel), nw_ok_of 30 (by decide +kernel) (by decide +kernel), _, _, rfl⟩⟩
theorem nw_mw90 : nw_mW 90 := ⟨nw_ok_of 620 (by decide +kernel) (by decide +kernel), nw_ok_of 42 (by decide +kernel) (by decide +kernel), fun h => absurd h (by decide), fun _ => ⟨nw_ok_of 619 (by decide +kernel) (by decide +kernel), nw_ok_of 31 (by decide +kernel) (by decide +kernel), _, _, rfl⟩⟩
theorem nw_mw91 : nw_mW 91 := ⟨nw_ok_of 624 (by decide +kernel) (by decide +kernel), nw_ok_of 42 (by decide +kernel) (by decide +kernel), fun h => absurd h (by decide), fun _ => ⟨nw_ok_of 623 (by decide +kernel) (by decide +kernel), nw_ok_of 32 (by decide +kernel) (by decide +kernel), _, _, rfl⟩⟩
theorem nw_mw92 : nw_mW 92 := ⟨nw_ok_of 680 (by decide +kernel) (by decide +kernel), nw_ok_of 42 (by decide +kernel) (by decide +kernel), fun _ => nw_ok_of 679 (by decide +kernel) (by decide +kernel), fun h => absurd h (by decide)⟩
theorem nw_mw93 : nw_mW 93 := ⟨nw_ok_of 677 (by decide +kernel) (by decide +kernel), nw_ok_of 42 (by decide +kernel) (by decide +kernel), fun h => absurd h (by decide), fun _ => ⟨nw_ok_of 676 (by decide +kernel) (by decide +kernel), nw_ok_of 34 (by decide +kernel) (by decide +kernel), _, _, rfl⟩⟩
theorem nw_mw94 : nw_mW 94 := ⟨nw_ok_of 612 (by decide +kernel) (by decide +kernel), nw_ok_of 42 (by decide +kernel) (by decide +kernel), fun h => absurd h (by decide), fun _ => ⟨nw_ok_of 611 (by decide +kernel) (by decide +kernel), nw_ok_of 29 (by decide +kernel) (by decide +kernel), _, _, rfl⟩⟩
theorem nw_mw95 : nw_mW 95 := ⟨nw_ok_of 673 (by decide +kernel) (by decide +kernel), nw_ok_of 42 (by decide +kernel) (by decide +kernel), fun h => absurd h (by decide), fun _ => ⟨nw_ok_of 672 (by decide +kernel) (by decide +kernel), nw_ok_of 33 (by decide +kernel) (by decide +kernel), _, _, rfl⟩⟩
theorem nw_mw96 : nw_mW 96 := ⟨nw_ok_of 564 (by decide +kernel) (by decide +kernel), nw_ok_of 42 (by decide +kernel) (by decide +kernel), fun h => absurd h (by decide), fun _ => ⟨nw_ok_of 563 (by decide +kernel) (by decide +kernel), nw_ok_of 17 (by decide +kernel) (by decide +kernel), _, _, rfl⟩⟩
theorem nw_mw97 : nw_mW 97 := ⟨nw_ok_of 556 (by decide +kernel) (by decide +kernel), nw_ok_of 42 (by decide +kernel) (by decide +kernel), fun h => absurd h (by decide), fun _ => ⟨nw_ok_of 554 (by decide +kernel) (by decide +kernel), nw_ok_of 555 (by decide +kernel) (by decide +kernel), _, _, rfl⟩⟩
theorem nw_mw98 : nw_mW 98 := ⟨nw_ok_of 628 (by decide +kernel) (by decide +kernel), nw_ok_of 42 (by decide +kernel) (by decide +kernel), fun h => absurd h (by decide), fun _ => ⟨nw_ok_of 626 (by decide +kernel) (by decide +kernel), nw_ok_of 627 (by decide +kernel) (by decide +kernel), _, _, rfl⟩⟩
theorem nw_mw99 : nw_mW 99 := ⟨nw_ok_of 633 (by decide +kernel) (by decide +kernel), nw_ok_of 42 (by decide +kernel) (by decide +kernel), fun h => absurd h (by decide), fun _ => ⟨nw_ok_of 631 (by decide +kernel) (by decide +kernel), nw_ok_of 632 (by decide +kernel) (by decide +kernel), _, _, rfl⟩⟩
theorem nw_mw100 : nw_mW 100 := ⟨nw_ok_of 637 (by decide +kernel) (by decide +kernel), nw_ok_of 42 (by decide +kernel) (by decide +kernel), fun h => absurd h (by decide), fun _ => ⟨nw_ok_of 635 (by decide +kernel) (by decide +kernel), nw_ok_of 636 (by decide +kernel) (by decide +kernel), _, _, rfl⟩⟩
theorem nw_mw101 : nw_mW 101 := ⟨nw_ok_of 641 (by decide +kernel) (by decide +kernel), nw_ok_of 42 (by decide +kernel) (by decide +kernel), fun h => absurd h (by decide), fun _ => ⟨nw_ok_of 639 (by decide +kernel) (by decide +kernel), nw_ok_of 640 (by decide +kernel) (by decide +kernel), _, _, rfl⟩⟩
theorem nw_mw102 : nw_mW 102 := ⟨nw_ok_of 645 (by decide +kernel) (by decide +kernel), nw_ok_of 42 (by decide +kernel) (by decide +kernel), fun h => absurd h (by decide), fun _ => ⟨nw_ok_of 643 (by decide +kernel) (by decide +kernel), nw_ok_of 644 (by decide +kernel) (by decide +kernel), _, _, rfl⟩⟩
theorem nw_mw103 : nw_mW 103 := ⟨nw_ok_of 649 (by decide +kernel) (by decide +kernel), nw_ok_of 42 (by decide +kernel) (by decide +kernel), fun h => absurd h (by decide), fun _ => ⟨nw_ok_of 647 (by decide +kernel) (by decide +kernel), nw_ok_of 648 (by decide +kernel) (by decide +kernel), _, _, rfl⟩⟩
theorem nw_mw104 : nw_mW 104 := ⟨nw_ok_of 653 (by decide +kernel) (by decide +kernel), nw_ok_of 42 (by decide +kernel) (by decide +kernel), fun h => absurd h (by decide), fun _ => ⟨nw_ok_of 651 (by decide +kernel) (by decide +kernel), nw_ok_of 652 (by decide +kernel) (by decide +kernel), _, _, rfl⟩⟩
theorem nw_mw105 : nw_mW 105 := ⟨nw_ok_of 657 (by decide +kernel) (by decide +kernel), nw_ok_of 42 (by decide +kernel) (by decide +kernel), fun h => absurd h (by decide), fun _ => ⟨nw_ok_of 655 (by decide +kernel) (by decide +kernel), nw_ok_of 656 (by decide +kernel) (by decide +kernel), _, _, rfl⟩⟩
theorem nw_mw106 : nw_mW 106 := ⟨nw_ok_of 661 (by decide +kernel) (by decide +kernel), nw_ok_of 42 (by decide +kernel) (by decide +kernel), fun h => absurd h (by decide), fun _ => ⟨nw_ok_of 659 (by decide +kernel) (by decide +kernel), nw_ok_of 660 (by decide +kernel) (by decide +kernel), _, _, rfl⟩⟩
theorem nw_mw107 : nw_mW 107 := ⟨nw_ok_of 665 (by decide +kernel) (by decide +kernel), nw_ok_of 42 (by decide +kernel) (by decide +kernel), fun h => absurd h (by decide), fun _ => ⟨nw_ok_of 663 (by decide +kernel) (by decide +kernel), nw_ok_of 664 (by decide +kernel) (by decide +kernel), _, _, rfl⟩⟩
theorem nw_mw108 : nw_mW 108 := ⟨nw_ok_of 669 (by decide +kernel) (by decide +kernel), nw_ok_of 42 (by decide +kernel) (by decide +kernel), fun h => absurd h (by decide), fun _ => ⟨nw_ok_of 667 (by decide +kernel) (by decide +kernel), nw_ok_of 668 (by decide +kernel) (by decide +kernel), _, _, rfl⟩⟩
theorem nw_mw109 : nw_mW 109 := ⟨nw_ok_of 684 (by decide +kernel) (by decide +kernel), nw_ok_of 42 (by decide +kernel) (by decide +kernel), fun h => absurd h (by decide), fun _ => ⟨nw_ok_of 682 (by decide +kernel) (by decide +kernel), nw_ok_of 683 (by decide +kernel) (by decide +kernel), _, _, rfl⟩⟩
theorem nw_mw110 : nw_mW 110 := ⟨nw_ok_of 688 (by decide +kernel) (by decide +kernel), nw_ok_of 42 (by decide +kernel) (by decide +kernel), fun h => absurd h (by decide), fun _ => ⟨nw_ok_of 686 (by decide +kernel) (by decide +kernel), nw_ok_of 687 (by decide +kernel) (by decide +kernel), _, _, rfl⟩⟩
theorem nw_mw111 : nw_mW 111 := ⟨nw_ok_of 692 (by decide +kernel) (by decide +kernel), nw_ok_of 42 (by decide +kernel) (by decide +kernel), fun h => absurd h (by decide), fun _ => ⟨nw_ok_of 690 (by decide +kernel) (by decide +kernel), nw_ok_of 691 (by decide +kernel) (by decide +kernel), _, _, rfl⟩⟩
theorem nw_mw112 : nw_mW 112 := ⟨nw_ok_of 700 (by decide +kernel) (by decide +kernel), nw_ok_of 42 (by decide +kernel) (by decide +kernel), fun h => absurd h (by decide), fun _ => ⟨nw_ok_of 699 (by decide +kernel) (by decide +kernel), nw_ok_of 35 (by decide +kernel) (by decide +kernel), _, _, rfl⟩⟩
theorem nw_mw113 : nw_mW 113 := ⟨nw_ok_of 696 (by decide +kernel) (by decide +kernel), nw_ok_of 42 (by decide +kernel) (by decide +kernel), fun h => absurd h (by decide), fun _ => ⟨nw_ok_of 694 (by decide +kernel) (by decide +kernel), nw_ok_of 695 (by decide +kernel) (by decide +kernel), _, _, rfl⟩⟩
theorem nw_mw114 : nw_mW 114 := ⟨nw_ok_of 704 (by decide +kernel) (by decide +kernel), nw_ok_of 42 (by decide +kernel) (by decide +kernel), fun h => absurd h (by decide), fun _ => ⟨nw_ok_of 702 (by decide +kernel) (by decide +kernel), nw_ok_of 703 (by decide +kernel) (by decide +kernel), _, _, rfl⟩⟩
theorem nw_mw115 : nw_mW 115 := ⟨nw_ok_of 349 (by decide +kernel) (by decide +kernel), nw_ok_of 44 (by decide +kernel) (by decide +kernel), fun _ => nw_ok_of 348 (by decide +kernel) (by decide +kernel), fun h => absurd h (by decide)⟩
theorem nw_mw116 : nw_mW 116 := ⟨nw_ok_of 227 (by decide +kernel) (by decide +kernel), nw_ok_of 43 (by decide +kernel) (by decide +kernel), fun _ => nw_ok_of 226 (by decide +kernel) (by decide +kernel), fun h => absurd h (by decide)⟩
theorem nw_mw117 : nw_mW 117 := ⟨nw_ok_of 401 (by decide +kernel) (by decide +kernel), nw_ok_of 43 (by decide +kernel) (by decide +kernel), fun _ => nw_ok_of 400 (by decide +kernel) (by decide +kernel), fun h => absurd h (by decide)⟩
def nw_cOK (i : Nat) (q : Nat × Nat) : Prop := q.2 < 118 ∧ Cond.methodLink (nw_own i) q.1 (nw_Y q.2) ∈ nw_tb ∧ nw_mW q.2
theorem nw_c0_ok : ∀ q ∈ nw_cTab.getD 0 [], nw_cOK 0 q := List.forall_mem_cons.mpr ⟨⟨by decide, nw_ok_of 246 (by decide +kernel) (by decide +kernel), nw_mw1⟩, List.forall_mem_cons.mpr ⟨⟨by decide, nw_ok_of 217 (by decide +kernel) (by decide +kernel), nw_mw5⟩, List.forall_mem_cons.mpr ⟨⟨by decide, nw_ok_of 451 (by decide +kernel) (by decide +kernel), nw_mw2⟩, fun _ h => absurd h List.not_mem_nil⟩⟩⟩
theorem nw_c1_ok : ∀ q ∈ nw_cTab.getD 1 [], nw_cOK 1 q := fun _ h => absurd h List.not_mem_nil
theorem nw_c2_ok : ∀ q ∈ nw_cTab.getD 2 [], nw_cOK 2 q := List.forall_mem_cons.mpr ⟨⟨by decide, nw_ok_of 274 (by decide +kernel) (by decide +kernel), nw_mw14⟩, List.forall_mem_cons.mpr ⟨⟨by decide, nw_ok_of 225 (by decide +kernel) (by decide +kernel), nw_mw116⟩, List.forall_mem_cons.mpr ⟨⟨by decide, nw_ok_of 228 (by decide +kernel) (by decide +kernel), nw_mw20⟩, List.forall_mem_cons.mpr ⟨⟨by decide, nw_ok_of 231 (by decide +kernel) (by decide +kernel), nw_mw21⟩, fun _ h => absurd h List.not_mem_nil⟩⟩⟩⟩
theorem nw_c3_ok : ∀ q ∈ nw_cTab.getD 3 [], nw_cOK 3 q := List.forall_mem_cons.mpr ⟨⟨by decide, nw_ok_of 399 (by decide +kernel) (by decide +kernel), nw_mw117⟩, fun _ h => absurd h List.not_mem_nil⟩
theorem nw_c4_ok : ∀ q ∈ nw_cTab.getD 4 [], nw_cOK 4 q := List.forall_mem_cons.mpr ⟨⟨by decide, nw_ok_of 205 (by decide +kernel) (by decide +kernel), nw_mw3⟩, List.forall_mem_cons.mpr ⟨⟨by decide, nw_ok_of 209 (by decide +kernel) (by decide +kernel), nw_mw54⟩, List.forall_mem_cons.mpr ⟨⟨by decide, nw_ok_of 234 (by decide +kernel) (by decide +kernel), nw_mw50⟩, List.forall_mem_cons.mpr ⟨⟨by decide, nw_ok_of 242 (by decide +kernel) (by decide +kernel), nw_mw2⟩, List.forall_mem_cons.mpr ⟨⟨by decide, nw_ok_of 251 (by decide +kernel) (by decide +kernel), nw_mw4⟩, List.forall_mem_cons.mpr ⟨⟨by decide, nw_ok_of 259 (by decide +kernel) (by decide +kernel), nw_mw52⟩, List.forall_mem_cons.mpr ⟨⟨by decide, nw_ok_of 264 (by decide +kernel) (by decide +kernel), nw_mw53⟩, List.forall_mem_cons.mpr ⟨⟨by decide, nw_ok_of 267 (by decide +kernel) (by decide +kernel), nw_mw51⟩, List.forall_mem_cons.mpr ⟨⟨by decide, nw_ok_of 270 (by decide +kernel) (by decide +kernel), nw_mw15⟩, List.forall_mem_cons.mpr ⟨⟨by decide, nw_ok_of 282 (by decide +kernel) (by decide +kernel), nw_mw13⟩, List.forall_mem_cons.mpr ⟨⟨by decide, nw_ok_of 290 (by decide +kernel) (by decide +kernel), nw_mw16⟩, List.forall_mem_cons.mpr ⟨⟨by decide, nw_ok_of 302 (by decide +kernel) (by decide +kernel), nw_mw58⟩, List.forall_mem_cons.mpr ⟨⟨by decide, nw_ok_of 326 (by decide +kernel) (by decide +kernel), nw_mw60⟩, List.forall_mem_cons.mpr ⟨⟨by decide, nw_ok_of 263 (by decide +kernel) (by decide +kernel), nw_mw1⟩, List.forall_mem_cons.mpr ⟨⟨by decide, nw_ok_of 370 (by decide +kernel) (by decide +kernel), nw_mw5⟩, List.forall_mem_cons.mpr ⟨⟨by decide, nw_ok_of 306 (by decide +kernel) (by decide +kernel), nw_mw17⟩, List.forall_mem_cons.mpr ⟨⟨by decide, nw_ok_of 318 (by decide +kernel) (by decide +kernel), nw_mw56⟩, List.forall_mem_cons.mpr ⟨⟨by decide, nw_ok_of 379 (by decide +kernel) (by decide +kernel), nw_mw59⟩, List.forall_mem_cons.mpr ⟨⟨by decide, nw_ok_of 395 (by decide +kernel) (by decide +kernel), nw_mw25⟩, List.forall_mem_cons.mpr ⟨⟨by decide, nw_ok_of 410 (by decide +kernel) (by decide +kernel), nw_mw18⟩, List.forall_mem_cons.mpr ⟨⟨by decide, nw_ok_of 422 (by decide +kernel) (by decide +kernel), nw_mw11⟩, List.forall_mem_cons.mpr ⟨⟨by decide, nw_ok_of 334 (by decide +kernel) (by decide +kernel), nw_mw14⟩, List.forall_mem_cons.mpr ⟨⟨by decide, nw_ok_of 310 (by decide +kernel) (by decide +kernel), nw_mw57⟩, List.forall_mem_cons.mpr ⟨⟨by decide, nw_ok_of 443 (by decide +kernel) (by decide +kernel), nw_mw55⟩, List.forall_mem_cons.mpr ⟨⟨by decide, nw_ok_of 213 (by decide +kernel) (by decide +kernel), nw_mw6⟩, List.forall_mem_cons.mpr ⟨⟨by decide, nw_ok_of 221 (by decide +kernel) (by decide +kernel), nw_mw19⟩, List.forall_mem_cons.mpr ⟨⟨by decide, nw_ok_of 447 (by decide +kernel) (by decide +kernel), nw_mw7⟩, List.forall_mem_cons.mpr ⟨⟨by decide, nw_ok_of 314 (by decide +kernel) (by decide +kernel), nw_mw23⟩, List.forall_mem_cons.mpr ⟨⟨by decide, nw_ok_of 322 (by decide +kernel) (by decide +kernel), nw_mw24⟩, List.forall_mem_cons.mpr ⟨⟨by decide, nw_ok_of 330 (by decide +kernel) (by decide +kernel), nw_mw61⟩, List.forall_mem_cons.mpr ⟨⟨by decide, nw_ok_of 335 (by decide +kernel) (by decide +kernel), nw_mw62⟩, List.forall_mem_cons.mpr ⟨⟨by decide, nw_ok_of 339 (by decide +kernel) (by decide +kernel), nw_mw9⟩, List.forall_mem_cons.mpr ⟨⟨by decide, nw_ok_of 343 (by decide +kernel) (by decide +kernel), nw_mw63⟩, List.forall_mem_cons.mpr ⟨⟨by decide, nw_ok_of 347 (by decide +kernel) (by decide +kernel), nw_mw115⟩, List.forall_mem_cons.mpr ⟨⟨by decide, nw_ok_of 353 (by decide +kernel) (by decide +kernel), nw_mw10⟩, List.forall_mem_cons.mpr ⟨⟨by decide, nw_ok_of 357 (by decide +kernel) (by decide +kernel), nw_mw64⟩, fun _ h => absurd h List.not_mem_nil⟩⟩⟩⟩⟩⟩⟩⟩⟩⟩⟩⟩⟩⟩⟩⟩⟩⟩⟩⟩⟩⟩⟩⟩⟩⟩⟩⟩⟩⟩⟩⟩⟩⟩⟩⟩
theorem nw_c5_ok : ∀ q ∈ nw_cTab.getD 5 [], nw_cOK 5 q := List.forall_mem_cons.mpr ⟨⟨by decide, nw_ok_of 512 (by decide +kernel) (by decide +kernel), nw_mw66⟩, List.forall_mem_cons.mpr ⟨⟨by decide, nw_ok_of 525 (by decide +kernel) (by decide +kernel), nw_mw67⟩, List.forall_mem_cons.mpr ⟨⟨by decide, nw_ok_of 521 (by decide +kernel) (by decide +kernel), nw_mw68⟩, List.forall_mem_cons.mpr ⟨⟨by decide, nw_ok_of 534 (by decide +kernel) (by decide +kernel), nw_mw72⟩, List.forall_mem_cons.mpr ⟨⟨by decide, nw_ok_of 541 (by decide +kernel) (by decide +kernel), nw_mw69⟩, List.forall_mem_cons.mpr ⟨⟨by decide, nw_ok_of 577 (by decide +kernel) (by decide +kernel), nw_mw79⟩, List.forall_mem_cons.mpr ⟨⟨by decide, nw_ok_of 557 (by decide +kernel) (by decide +kernel), nw_mw77⟩, List.forall_mem_cons.mpr ⟨⟨by decide, nw_ok_of 569 (by decide +kernel) (by decide +kernel), nw_mw78⟩, List.forall_mem_cons.mpr ⟨⟨by decide, nw_ok_of 573 (by decide +kernel) (by decide +kernel), nw_mw80⟩, List.forall_mem_cons.mpr ⟨⟨by decide, nw_ok_of 593 (by decide +kernel) (by decide +kernel), nw_mw83⟩, List.forall_mem_cons.mpr ⟨⟨by decide, nw_ok_of 589 (by decide +kernel) (by decide +kernel), nw_mw85⟩, List.forall_mem_cons.mpr ⟨⟨by decide, nw_ok_of 565 (by decide +kernel) (by decide +kernel), nw_mw81⟩, List.forall_mem_cons.mpr ⟨⟨by decide, nw_ok_of 605 (by decide +kernel) (by decide +kernel), nw_mw84⟩, List.forall_mem_cons.mpr ⟨⟨by decide, nw_ok_of 585 (by decide +kernel) (by decide +kernel), nw_mw86⟩, List.forall_mem_cons.mpr ⟨⟨by decide, nw_ok_of 581 (by decide +kernel) (by decide +kernel), nw_mw82⟩, List.forall_mem_cons.mpr ⟨⟨by decide, nw_ok_of 601 (by decide +kernel) (by decide +kernel), nw_mw87⟩, List.forall_mem_cons.mpr ⟨⟨by decide, nw_ok_of 678 (by decide +kernel) (by decide +kernel), nw_mw92⟩, List.forall_mem_cons.mpr ⟨⟨by decide, nw_ok_of 613 (by decide +kernel) (by decide +kernel), nw_mw89⟩, List.forall_mem_cons.mpr ⟨⟨by decide, nw_ok_of 617 (by decide +kernel) (by decide +kernel), nw_mw90⟩, List.forall_mem_cons.mpr ⟨⟨by decide, nw_ok_of 621 (by decide +kernel) (by decide +kernel), nw_mw91⟩, List.forall_mem_cons.mpr ⟨⟨by decide, nw_ok_of 674 (by decide +kernel) (by decide +kernel), nw_mw93⟩, List.forall_mem_cons.mpr ⟨⟨by decide, nw_ok_of 561 (by decide +kernel) (by decide +kernel), nw_mw96⟩, List.forall_mem_cons.mpr ⟨⟨by decide, nw_ok_of 597 (by decide +kernel) (by decide +kernel), nw_mw88⟩, List.forall_mem_cons.mpr ⟨⟨by decide, nw_ok_of 609 (by decide +kernel) (by decide +kernel), nw_mw94⟩, List.forall_mem_cons.mpr ⟨⟨by decide, nw_ok_of 670 (by decide +kernel) (by decide +kernel), nw_mw95⟩, List.forall_mem_cons.mpr ⟨⟨by decide, nw_ok_of 697 (by decide +kernel) (by decide +kernel), nw_mw112⟩, fun _ h => absurd h List.not_mem_nil⟩⟩⟩⟩⟩⟩⟩⟩⟩⟩⟩⟩⟩⟩⟩⟩⟩⟩⟩⟩⟩⟩⟩⟩⟩⟩
theorem nw_c6_ok : ∀ q ∈ nw_cTab.getD 6 [], nw_cOK 6 q := fun _ h => absurd h List.not_mem_nil
theorem nw_c7_ok : ∀ q ∈ nw_cTab.getD 7 [], nw_cOK 7 q := fun _ h => absurd h List.not_mem_nil
theorem nw_c8_ok : ∀ q ∈ nw_cTab.getD 8 [], nw_cOK 8 q := List.forall_mem_cons.mpr ⟨⟨by decide, nw_ok_of 199 (by decide +kernel) (by decide +kernel), nw_mw27⟩, List.forall_mem_cons.mpr ⟨⟨by decide, nw_ok_of 508 (by decide +kernel) (by decide +kernel), nw_mw70⟩, List.forall_mem_cons.mpr ⟨⟨by decide, nw_ok_of 238 (by decide +kernel) (by decide +kernel), nw_mw28⟩, List.forall_mem_cons.mpr ⟨⟨by decide, nw_ok_of 517 (by decide +kernel) (by decide +kernel), nw_mw71⟩, List.forall_mem_cons.mpr ⟨⟨by decide, nw_ok_of 255 (by decide +kernel) (by decide +kernel), nw_mw29⟩, List.forall_mem_cons.mpr ⟨⟨by decide, nw_ok_of 530 (by decide +kernel) (by decide +kernel), nw_mw73⟩, List.forall_mem_cons.mpr ⟨⟨by decide, nw_ok_of 278 (by decide +kernel) (by decide +kernel), nw_mw30⟩, List.forall_mem_cons.mpr ⟨⟨by decide, nw_ok_of 537 (by decide +kernel) (by decide +kernel), nw_mw74⟩, List.forall_mem_cons.mpr ⟨⟨by decide, nw_ok_of 286 (by decide +kernel) (by decide +kernel), nw_mw31⟩, List.forall_mem_cons.mpr ⟨⟨by decide, nw_ok_of 545 (by decide +kernel) (by decide +kernel), nw_mw75⟩, List.forall_mem_cons.mpr ⟨⟨by decide, nw_ok_of 294 (by decide +kernel) (by decide +kernel), nw_mw32⟩, List.forall_mem_cons.mpr ⟨⟨by decide, nw_ok_of 549 (by decide +kernel) (by decide +kernel), nw_mw76⟩, List.forall_mem_cons.mpr ⟨⟨by decide, nw_ok_of 298 (by decide +kernel) (by decide +kernel), nw_mw33⟩, List.forall_mem_cons.mpr ⟨⟨by decide, nw_ok_of 553 (by decide +kernel) (by decide +kernel), nw_mw97⟩, List.forall_mem_cons.mpr ⟨⟨by decide, nw_ok_of 361 (by decide +kernel) (by decide +kernel), nw_mw34⟩, List.forall_mem_cons.mpr ⟨⟨by decide, nw_ok_of 625 (by decide +kernel) (by decide +kernel), nw_mw98⟩, List.forall_mem_cons.mpr ⟨⟨by decide, nw_ok_of 366 (by decide +kernel) (by decide +kernel), nw_mw35⟩, List.forall_mem_cons.mpr ⟨⟨by decide, nw_ok_of 630 (by decide +kernel) (by decide +kernel), nw_mw99⟩, List.forall_mem_cons.mpr ⟨⟨by decide, nw_ok_of 371 (by decide +kernel) (by decide +kernel), nw_mw36⟩, List.forall_mem_cons.mpr ⟨⟨by decide, nw_ok_of 634 (by decide +kernel) (by decide +kernel), nw_mw100⟩, List.forall_mem_cons.mpr ⟨⟨by decide, nw_ok_of 375 (by decide +kernel) (by decide +kernel), nw_mw37⟩, List.forall_mem_cons.mpr ⟨⟨by decide, nw_ok_of 638 (by decide +kernel) (by decide +kernel), nw_mw101⟩, List.forall_mem_cons.mpr ⟨⟨by decide, nw_ok_of 383 (by decide +kernel) (by decide +kernel), nw_mw38⟩, List.forall_mem_cons.mpr ⟨⟨by decide, nw_ok_of 642 (by decide +kernel) (by decide +kernel), nw_mw102⟩, List.forall_mem_cons.mpr ⟨⟨by decide, nw_ok_of 387 (by decide +kernel) (by decide +kernel), nw_mw39⟩, List.forall_mem_cons.mpr ⟨⟨by decide, nw_ok_of 646 (by decide +kernel) (by decide +kernel), nw_mw103⟩, List.forall_mem_cons.mpr ⟨⟨by decide, nw_ok_of 391 (by decide +kernel) (by decide +kernel), nw_mw40⟩, List.forall_mem_cons.mpr ⟨⟨by decide, nw_ok_of 650 (by decide +kernel) (by decide +kernel), nw_mw104⟩, List.forall_mem_cons.mpr ⟨⟨by decide, nw_ok_of 402 (by decide +kernel) (by decide +kernel), nw_mw41⟩, List.forall_mem_cons.mpr ⟨⟨by decide, nw_ok_of 654 (by decide +kernel) (by decide +kernel), nw_mw105⟩, List.forall_mem_cons.mpr ⟨⟨by decide, nw_ok_of 406 (by decide +kernel) (by decide +kernel), nw_mw42⟩, List.forall_mem_cons.mpr ⟨⟨by decide, nw_ok_of 658 (by decide +kernel) (by decide +kernel), nw_mw106⟩, List.forall_mem_cons.mpr ⟨⟨by decide, nw_ok_of 414 (by decide +kernel) (by decide +kernel), nw_mw43⟩, List.forall_mem_cons.mpr ⟨⟨by decide, nw_ok_of 662 (by decide +kernel) (by decide +kernel), nw_mw107⟩, List.forall_mem_cons.mpr ⟨⟨by decide, nw_ok_of 418 (by decide +kernel) (by decide +kernel), nw_mw44⟩, List.forall_mem_cons.mpr ⟨⟨by decide, nw_ok_of 666 (by decide +kernel) (by decide +kernel), nw_mw108⟩, List.forall_mem_cons.mpr ⟨⟨by decide, nw_ok_of 427 (by decide +kernel) (by decide +kernel), nw_mw45⟩, List.forall_mem_cons.mpr ⟨⟨by decide, nw_ok_of 681 (by decide +kernel) (by decide +kernel), nw_mw109⟩, List.forall_mem_cons.mpr ⟨⟨by decide, nw_ok_of 431 (by decide +kernel) (by decide +kernel), nw_mw46⟩, List.forall_mem_cons.mpr ⟨⟨by decide, nw_ok_of 685 (by decide +kernel) (by decide +kernel), nw_mw110⟩, List.forall_mem_cons.mpr ⟨⟨by decide, nw_ok_of 435 (by decide +kernel) (by decide +kernel), nw_mw47⟩, List.forall_mem_cons.mpr ⟨⟨by decide, nw_ok_of 689 (by decide +kernel) (by decide +kernel), nw_mw111⟩, List.forall_mem_cons.mpr ⟨⟨by decide, nw_ok_of 439 (by decide +kernel) (by decide +kernel), nw_mw48⟩, List.forall_mem_cons.mpr ⟨⟨by decide, nw_ok_of 693 (by decide +kernel) (by decide +kernel), nw_mw113⟩, List.forall_mem_cons.mpr ⟨⟨by decide, nw_ok_of 452 (by decide +kernel) (by decide +kernel), nw_mw49⟩, List.forall_mem_cons.mpr ⟨⟨by decide, nw_ok_of 701 (by decide +kernel) (by decide +kernel), nw_mw114⟩, fun _ h => absurd h List.not_mem_nil⟩⟩⟩⟩⟩⟩⟩⟩⟩⟩⟩⟩⟩⟩⟩⟩⟩⟩⟩⟩⟩⟩⟩⟩⟩⟩⟩⟩⟩⟩⟩⟩⟩⟩⟩⟩⟩⟩⟩⟩⟩⟩⟩⟩⟩⟩
def nw_fOK (i : Nat) (q : Nat × Nat × Nat × Nat) : Prop := ∃ C T N, vwCl[q.2.1]? = some (C, T, N) ∧ q.2.2.1 < N ∧ Cond.fieldLink (nw_own i) q.1 (T q.2.2.1).1 (T q.2.2.1).2.1 (T q.2.2.1).2.2.1 ∈ nw_tb ∧ (q.2.2.2 = 0 → (T q.2.2.1).2.2.1 = "I" ∧ (T q.2.2.1).2.2.2 = false) ∧ (q.2.2.2 = 1 → (T q.2.2.1).2.2.1 = "Z" ∧ (T q.2.2.1).2.2.2 = false)
theorem nw_f0_ok : ∀ q ∈ nw_fTab.getD 0 [], nw_fOK 0 q := List.forall_mem_cons.mpr ⟨⟨_, _, _, rfl, by decide, nw_ok_of 59 (by decide +kernel) (by decide +kernel), fun _ => ⟨rfl, rfl⟩, fun h => absurd h (by decide)⟩, List.forall_mem_cons.mpr ⟨⟨_, _, _, rfl, by decide, nw_ok_of 61 (by decide +kernel) (by decide +kernel), fun _ => ⟨rfl, rfl⟩, fun h => absurd h (by decide)⟩, List.forall_mem_cons.mpr ⟨⟨_, _, _, rfl, by decide, nw_ok_of 63 (by decide +kernel) (by decide +kernel), fun h => absurd h (by decide), fun h => absurd h (by decide)⟩, List.forall_mem_cons.mpr ⟨⟨_, _, _, rfl, by decide, nw_ok_of 64 (by decide +kernel) (by decide +kernel), fun h => absurd h (by decide), fun h => absurd h (by decide)⟩, List.forall_mem_cons.mpr ⟨⟨_, _, _, rfl, by decide, nw_ok_of 65 (by decide +kernel) (by decide +kernel), fun h => absurd h (by decide), fun h => absurd h (by decide)⟩, List.forall_mem_cons.mpr ⟨⟨_, _, _, rfl, by decide, nw_ok_of 66 (by decide +kernel) (by decide +kernel), fun h => absurd h (by decide), fun h => absurd h (by decide)⟩, fun _ h => absurd h List.not_mem_nil⟩⟩⟩⟩⟩⟩
theorem nw_f1_ok : ∀ q ∈ nw_fTab.getD 1 [], nw_fOK 1 q := List.forall_mem_cons.mpr ⟨⟨_, _, _, rfl, by decide, nw_ok_of 150 (by decide +kernel) (by decide +kernel), fun _ => ⟨rfl, rfl⟩, fun h => absurd h (by decide)⟩, List.forall_mem_cons.mpr ⟨⟨_, _, _, rfl, by decide, nw_ok_of 152 (by decide +kernel) (by decide +kernel), fun h => absurd h (by decide), fun h => absurd h (by decide)⟩, List.forall_mem_cons.mpr ⟨⟨_, _, _, rfl, by decide, nw_ok_of 153 (by decide +kernel) (by decide +kernel), fun h => absurd h (by decide), fun h => absurd h (by decide)⟩, fun _ h => absurd h List.not_mem_nil⟩⟩⟩
theorem nw_f2_ok : ∀ q ∈ nw_fTab.getD 2 [], nw_fOK 2 q := List.forall_mem_cons.mpr ⟨⟨_, _, _, rfl, by decide, nw_ok_of 88 (by decide +kernel) (by decide +kernel), fun _ => ⟨rfl, rfl⟩, fun h => absurd h (by decide)⟩, List.forall_mem_cons.mpr ⟨⟨_, _, _, rfl, by decide, nw_ok_of 90 (by decide +kernel) (by decide +kernel), fun h => absurd h (by decide), fun h => absurd h (by decide)⟩, List.forall_mem_cons.mpr ⟨⟨_, _, _, rfl, by decide, nw_ok_of 92 (by decide +kernel) (by decide +kernel), fun h => absurd h (by decide), fun h => absurd h (by decide)⟩, List.forall_mem_cons.mpr ⟨⟨_, _, _, rfl, by decide, nw_ok_of 94 (by decide +kernel) (by decide +kernel), fun h => absurd h (by decide), fun h => absurd h (by decide)⟩, List.forall_mem_cons.mpr ⟨⟨_, _, _, rfl, by decide, nw_ok_of 96 (by decide +kernel) (by decide +kernel), fun h => absurd h (by decide), fun h => absurd h (by decide)⟩, List.forall_mem_cons.mpr ⟨⟨_, _, _, rfl, by decide, nw_ok_of 98 (by decide +kernel) (by decide +kernel), fun h => absurd h (by decide), fun h => absurd h (by decide)⟩, List.forall_mem_cons.mpr ⟨⟨_, _, _, rfl, by decide, nw_ok_of 100 (by decide +kernel) (by decide +kernel), fun h => absurd h (by decide), fun h => absurd h (by decide)⟩, List.forall_mem_cons.mpr ⟨⟨_, _, _, rfl, by decide, nw_ok_of 102 (by decide +kernel) (by decide +kernel), fun h => absurd h (by decide), fun h => absurd h (by decide)⟩, fun _ h => absurd h List.not_mem_nil⟩⟩⟩⟩⟩⟩⟩⟩
theorem nw_f3_ok : ∀ q ∈ nw_fTab.getD 3 [], nw_fOK 3 q := List.forall_mem_cons.mpr ⟨⟨_, _, _, rfl, by decide, nw_ok_of 127 (by decide +kernel) (by decide +kernel), fun _ => ⟨rfl, rfl⟩, fun h => absurd h (by decide)⟩, List.forall_mem_cons.mpr ⟨⟨_, _, _, rfl, by decide, nw_ok_of 129 (by decide +kernel) (by decide +kernel), fun _ => ⟨rfl, rfl⟩, fun h => absurd h (by decide)⟩, List.forall_mem_cons.mpr ⟨⟨_, _, _, rfl, by decide, nw_ok_of 131 (by decide +kernel) (by decide +kernel), fun _ => ⟨rfl, rfl⟩, fun h => absurd h (by decide)⟩, List.forall_mem_cons.mpr ⟨⟨_, _, _, rfl, by decide, nw_ok_of 133 (by decide +kernel) (by decide +kernel), fun _ => ⟨rfl, rfl⟩, fun h => absurd h (by decide)⟩, fun _ h => absurd h List.not_mem_nil⟩⟩⟩⟩
theorem nw_f4_ok : ∀ q ∈ nw_fTab.getD 4 [], nw_fOK 4 q := List.forall_mem_cons.mpr ⟨⟨_, _, _, rfl, by decide, nw_ok_of 162 (by decide +kernel) (by decide +kernel), fun h => absurd h (by decide), fun h => absurd h (by decide)⟩, List.forall_mem_cons.mpr ⟨⟨_, _, _, rfl, by decide, nw_ok_of 163 (by decide +kernel) (by decide +kernel), fun h => absurd h (by decide), fun h => absurd h (by decide)⟩, List.forall_mem_cons.mpr ⟨⟨_, _, _, rfl, by decide, nw_ok_of 164 (by decide +kernel) (by decide +kernel), fun h => absurd h (by decide), fun h => absurd h (by decide)⟩, List.forall_mem_cons.mpr ⟨⟨_, _, _, rfl, by decide, nw_ok_of 165 (by decide +kernel) (by decide +kernel), fun h => absurd h (by decide), fun h => absurd h (by decide)⟩, List.forall_mem_cons.mpr ⟨⟨_, _, _, rfl, by decide, nw_ok_of 166 (by decide +kernel) (by decide +kernel), fun h => absurd h (by decide), fun h => absurd h (by decide)⟩, List.forall_mem_cons.mpr ⟨⟨_, _, _, rfl, by decide, nw_ok_of 167 (by decide +kernel) (by decide +kernel), fun h => absurd h (by decide), fun _ => ⟨rfl, rfl⟩⟩, List.forall_mem_cons.mpr ⟨⟨_, _, _, rfl, by decide, nw_ok_of 168 (by decide +kernel) (by decide +kernel), fun h => absurd h (by decide), fun h => absurd h (by decide)⟩, List.forall_mem_cons.mpr ⟨⟨_, _, _, rfl, by decide, nw_ok_of 169 (by decide +kernel) (by decide +kernel), fun h => absurd h (by decide), fun h => absurd h (by decide)⟩, List.forall_mem_cons.mpr ⟨⟨_, _, _, rfl, by decide, nw_ok_of 170 (by decide +kernel) (by decide +kernel), fun h => absurd h (by decide), fun h => absurd h (by decide)⟩, List.forall_mem_cons.mpr ⟨⟨_, _, _, rfl, by decide, nw_ok_of 171 (by decide +kernel) (by decide +kernel), fun h => absurd h (by decide), fun h => absurd h (by decide)⟩, List.forall_mem_cons.mpr ⟨⟨_, _, _, rfl, by decide, nw_ok_of 172 (by decide +kernel) (by decide +kernel), fun h => absurd h (by decide), fun h => absurd h (by decide)⟩, List.forall_mem_cons.mpr ⟨⟨_, _, _, rfl, by decide, nw_ok_of 173 (by decide +kernel) (by decide +kernel), fun h => absurd h (by decide), fun _ => ⟨rfl, rfl⟩⟩, List.forall_mem_cons.mpr ⟨⟨_, _, _, rfl, by decide, nw_ok_of 60 (by decide +kernel) (by decide +kernel), fun _ => ⟨rfl, rfl⟩, fun h => absurd h (by decide)⟩, List.forall_mem_cons.mpr ⟨⟨_, _, _, rfl, by decide, nw_ok_of 89 (by decide +kernel) (by decide +kernel), fun _ => ⟨rfl, rfl⟩, fun h => absurd h (by decide)⟩, List.forall_mem_cons.mpr ⟨⟨_, _, _, rfl, by decide, nw_ok_of 101 (by decide +kernel) (by decide +kernel), fun h => absurd h (by decide), fun h => absurd h (by decide)⟩, List.forall_mem_cons.mpr ⟨⟨_, _, _, rfl, by decide, nw_ok_of 91 (by decide +kernel) (by decide +kernel), fun h => absurd h (by decide), fun h => absurd h (by decide)⟩, List.forall_mem_cons.mpr ⟨⟨_, _, _, rfl, by decide, nw_ok_of 93 (by decide +kernel) (by decide +kernel), fun h => absurd h (by decide), fun h => absurd h (by decide)⟩, List.forall_mem_cons.mpr ⟨⟨_, _, _, rfl, by decide, nw_ok_of 95 (by decide +kernel) (by decide +kernel), fun h => absurd h (by decide), fun h => absurd h (by decide)⟩, List.forall_mem_cons.mpr ⟨⟨_, _, _, rfl, by decide, nw_ok_of 97 (by decide +kernel) (by decide +kernel), fun h => absurd h (by decide), fun h => absurd h (by decide)⟩, List.forall_mem_cons.mpr ⟨⟨_, _, _, rfl, by decide, nw_ok_of 99 (by decide +kernel) (by decide +kernel), fun h => absurd h (by decide), fun h => absurd h (by decide)⟩, List.forall_mem_cons.mpr ⟨⟨_, _, _, rfl, by decide, nw_ok_of 62 (by decide +kernel) (by decide +kernel), fun _ => ⟨rfl, rfl⟩, fun h => absurd h (by decide)⟩, List.forall_mem_cons.mpr ⟨⟨_, _, _, rfl, by decide, nw_ok_of 128 (by decide +kernel) (by decide +kernel), fun _ => ⟨rfl, rfl⟩, fun h => absurd h (by decide)⟩, List.forall_mem_cons.mpr ⟨⟨_, _, _, rfl, by decide, nw_ok_of 134 (by decide +kernel) (by decide +kernel), fun _ => ⟨rfl, rfl⟩, fun h => absurd h (by decide)⟩, List.forall_mem_cons.mpr ⟨⟨_, _, _, rfl, by decide, nw_ok_of 151 (by decide +kernel) (by decide +kernel), fun _ => ⟨rfl, rfl⟩, fun h => absurd h (by decide)⟩, List.forall_mem_cons.mpr ⟨⟨_, _, _, rfl, by decide, nw_ok_of 130 (by decide +kernel) (by decide +kernel), fun _ => ⟨rfl, rfl⟩, fun h => absurd h (by decide)⟩, List.forall_mem_cons.mpr ⟨⟨_, _, _, rfl, by decide, nw_ok_of 132 (by decide +kernel) (by decide +kernel), fun _ => ⟨rfl, rfl⟩, fun h => absurd h (by decide)⟩, List.forall_mem_cons.mpr ⟨⟨_, _, _, rfl, by decide, nw_ok_of 103 (by decide +kernel) (by decide +kernel), fun h => absurd h (by decide), fun h => absurd h (by decide)⟩, List.forall_mem_cons.mpr ⟨⟨_, _, _, rfl, by decide, nw_ok_of 67 (by decide +kernel) (by decide +kernel), fun h => absurd h (by decide), fun h => absurd h (by decide)⟩, fun _ h => absurd h List.not_mem_nil⟩⟩⟩⟩⟩⟩⟩⟩⟩⟩⟩⟩⟩⟩⟩⟩⟩⟩⟩⟩⟩⟩⟩⟩⟩⟩⟩⟩
theorem nw_f5_ok : ∀ q ∈ nw_fTab.getD 5 [], nw_fOK 5 q := List.forall_mem_cons.mpr ⟨⟨_, _, _, rfl, by decide, nw_ok_of 463 (by decide +kernel) (by decide +kernel), fun h => absurd h (by decide), fun h => absurd h (by decide)⟩, List.forall_mem_cons.mpr ⟨⟨_, _, _, rfl, by decide, nw_ok_of 464 (by decide +kernel) (by decide +kernel), fun h => absurd h (by decide), fun h => absurd h (by decide)⟩, List.forall_mem_cons.mpr ⟨⟨_, _, _, rfl, by decide, nw_ok_of 466 (by decide +kernel) (by decide +kernel), fun h => absurd h (by decide), fun h => absurd h (by decide)⟩, List.forall_mem_cons.mpr ⟨⟨_, _, _, rfl, by decide, nw_ok_of 467 (by decide +kernel) (by decide +kernel), fun h => absurd h (by decide), fun h => absurd h (by decide)⟩, List.forall_mem_cons.mpr ⟨⟨_, _, _, rfl, by decide, nw_ok_of 468 (by decide +kernel) (by decide +kernel), fun h => absurd h (by decide), fun h => absurd h (by decide)⟩, List.forall_mem_cons.mpr ⟨⟨_, _, _, rfl, by decide, nw_ok_of 469 (by decide +kernel) (by decide +kernel), fun h => absurd h (by decide), fun h => absurd h (by decide)⟩, List.forall_mem_cons.mpr ⟨⟨_, _, _, rfl, by decide, nw_ok_of 470 (by decide +kernel) (by decide +kernel), fun h => absurd h (by decide), fun h => absurd h (by decide)⟩, List.forall_mem_cons.mpr ⟨⟨_, _, _, rfl, by decide, nw_ok_of 471 (by decide +kernel) (by decide +kernel), fun h => absurd h (by decide), fun h => absurd h (by decide)⟩, List.forall_mem_cons.mpr ⟨⟨_, _, _, rfl, by decide, nw_ok_of 472 (by decide +kernel) (by decide +kernel), fun h => absurd h (by decide), fun h => absurd h (by decide)⟩, List.forall_mem_cons.mpr ⟨⟨_, _, _, rfl, by decide, nw_ok_of 474 (by decide +kernel) (by decide +kernel), fun h => absurd h (by decide), fun h => absurd h (by decide)⟩, List.forall_mem_cons.mpr ⟨⟨_, _, _, rfl, by decide, nw_ok_of 475 (by decide +kernel) (by decide +kernel), fun h => absurd h (by decide), fun h => absurd h (by decide)⟩, List.forall_mem_cons.mpr ⟨⟨_, _, _, rfl, by decide, nw_ok_of 473 (by decide +kernel) (by decide +kernel), fun h => absurd h (by decide), fun _ => ⟨rfl, rfl⟩⟩, List.forall_mem_cons.mpr ⟨⟨_, _, _, rfl, by decide, nw_ok_of 462 (by decide +kernel) (by decide +kernel), fun _ => ⟨rfl, rfl⟩, fun h => absurd h (by decide)⟩, List.forall_mem_cons.mpr ⟨⟨_, _, _, rfl, by decide, nw_ok_of 465 (by decide +kernel) (by decide +kernel), fun _ => ⟨rfl, rfl⟩, fun h => absurd h (by decide)⟩, List.forall_mem_cons.mpr ⟨⟨_, _, _, rfl, by decide, nw_ok_of 476 (by decide +kernel) (by decide +kernel), fun _ => ⟨rfl, rfl⟩, fun h => absurd h (by decide)⟩, fun _ h => absurd h List.not_mem_nil⟩⟩⟩⟩⟩⟩⟩⟩⟩⟩⟩⟩⟩⟩⟩
theorem nw_f6_ok : ∀ q ∈ nw_fTab.getD 6 [], nw_fOK 6 q := fun _ h => absurd h List.not_mem_nil
theorem nw_f7_ok : ∀ q ∈ nw_fTab.getD 7 [], nw_fOK 7 q := fun _ h => absurd h List.not_mem_nil
theorem nw_f8_ok : ∀ q ∈ nw_fTab.getD 8 [], nw_fOK 8 q := fun _ h => absurd h List.not_mem_nil
def nw_kOK (i : Nat) (q : Nat × Int) : Prop := Cond.constant (nw_own i) q.1 (Int32.ofInt q.2) ∈ nw_tb
theorem nw_k0_ok : ∀ q ∈ nw_kTab.getD 0 [], nw_kOK 0 q := fun _ h => absurd h List.not_mem_nil
theorem nw_k1_ok : ∀ q ∈ nw_kTab.getD 1 [], nw_kOK 1 q := List.forall_mem_cons.mpr ⟨nw_ok_of 426 (by decide +kernel) (by decide +kernel), fun _ h => absurd h List.not_mem_nil⟩
theorem nw_k2_ok : ∀ q ∈ nw_kTab.getD 2 [], nw_kOK 2 q := fun _ h => absurd h List.not_mem_nil
theorem nw_k3_ok : ∀ q ∈ nw_kTab.getD 3 [], nw_kOK 3 q := fun _ h => absurd h List.not_mem_nil
theorem nw_k4_ok : ∀ q ∈ nw_kTab.getD 4 [], nw_kOK 4 q := List.forall_mem_cons.mpr ⟨nw_ok_of 203 (by decide +kernel) (by decide +kernel), List.forall_mem_cons.mpr ⟨nw_ok_of 204 (by decide +kernel) (by decide +kernel), List.forall_mem_cons.mpr ⟨nw_ok_of 250 (by decide +kernel) (by decide +kernel), List.forall_mem_cons.mpr ⟨nw_ok_of 365 (by decide +kernel) (by decide +kernel), fun _ h => absurd h List.not_mem_nil⟩⟩⟩⟩
theorem nw_k5_ok : ∀ q ∈ nw_kTab.getD 5 [], nw_kOK 5 q := List.forall_mem_cons.mpr ⟨nw_ok_of 515 (by decide +kernel) (by decide +kernel), List.forall_mem_cons.mpr ⟨nw_ok_of 516 (by decide +kernel) (by decide +kernel), List.forall_mem_cons.mpr ⟨nw_ok_of 529 (by decide +kernel) (by decide +kernel), List.forall_mem_cons.mpr ⟨nw_ok_of 629 (by decide +kernel) (by decide +kernel), fun _ h => absurd h List.not_mem_nil⟩⟩⟩⟩
theorem nw_k6_ok : ∀ q ∈ nw_kTab.getD 6 [], nw_kOK 6 q := List.forall_mem_cons.mpr ⟨nw_ok_of 350 (by decide +kernel) (by decide +kernel), List.forall_mem_cons.mpr ⟨nw_ok_of 351 (by decide +kernel) (by decide +kernel), List.forall_mem_cons.mpr ⟨nw_ok_of 352 (by decide +kernel) (by decide +kernel), fun _ h => absurd h List.not_mem_nil⟩⟩⟩
theorem nw_k7_ok : ∀ q ∈ nw_kTab.getD 7 [], nw_kOK 7 q := fun _ h => absurd h List.not_mem_nil
theorem nw_k8_ok : ∀ q ∈ nw_kTab.getD 8 [], nw_kOK 8 q := fun _ h => absurd h List.not_mem_nil
theorem nw_c_ok (i : Nat) : ∀ q ∈ nw_cTab.getD i [], nw_cOK i q := by
  rcases Nat.lt_or_ge i 9 with hl | hl
  · match i, hl with
    | 0, _ => exact nw_c0_ok
    | 1, _ => exact nw_c1_ok
    | 2, _ => exact nw_c2_ok
    | 3, _ => exact nw_c3_ok
    | 4, _ => exact nw_c4_ok
    | 5, _ => exact nw_c5_ok
    | 6, _ => exact nw_c6_ok
    | 7, _ => exact nw_c7_ok
    | 8, _ => exact nw_c8_ok
    | i + 9, hl => omega
  · rw [show nw_cTab.getD i [] = [] from by rw [List.getD_eq_getElem?_getD, List.getElem?_eq_none (by exact hl)]; rfl]
    exact fun _ h => absurd h List.not_mem_nil
theorem nw_f_ok (i : Nat) : ∀ q ∈ nw_fTab.getD i [], nw_fOK i q := by
  rcases Nat.lt_or_ge i 9 with hl | hl
  · match i, hl with
    | 0, _ => exact nw_f0_ok
    | 1, _ => exact nw_f1_ok
    | 2, _ => exact nw_f2_ok
    | 3, _ => exact nw_f3_ok
    | 4, _ => exact nw_f4_ok
    | 5, _ => exact nw_f5_ok
    | 6, _ => exact nw_f6_ok
    | 7, _ => exact nw_f7_ok
    | 8, _ => exact nw_f8_ok
    | i + 9, hl => omega
  · rw [show nw_fTab.getD i [] = [] from by rw [List.getD_eq_getElem?_getD, List.getElem?_eq_none (by exact hl)]; rfl]
    exact fun _ h => absurd h List.not_mem_nil
theorem nw_k_ok (i : Nat) : ∀ q ∈ nw_kTab.getD i [], nw_kOK i q := by
  rcases Nat.lt_or_ge i 9 with hl | hl
  · match i, hl with
    | 0, _ => exact nw_k0_ok
    | 1, _ => exact nw_k1_ok
    | 2, _ => exact nw_k2_ok
    | 3, _ => exact nw_k3_ok
    | 4, _ => exact nw_k4_ok
    | 5, _ => exact nw_k5_ok
    | 6, _ => exact nw_k6_ok
    | 7, _ => exact nw_k7_ok
    | 8, _ => exact nw_k8_ok
    | i + 9, hl => omega
  · rw [show nw_kTab.getD i [] = [] from by rw [List.getD_eq_getElem?_getD, List.getElem?_eq_none (by exact hl)]; rfl]
    exact fun _ h => absurd h List.not_mem_nil
theorem nw_look {β : Type} {l : List (Nat × β)} {k : Nat} {v : β} (h : l.lookup k = some v) : (k, v) ∈ l := by
  induction l with
  | nil => simp at h
  | cons q r ih =>
    obtain ⟨a, b⟩ := q
    rw [List.lookup_cons] at h
    by_cases hk : k = a
    · subst hk
      simp at h
      subst h
      exact List.mem_cons_self
    · rw [show (k == a) = false from by simpa using hk] at h
      exact List.mem_cons_of_mem _ (ih h)
theorem nw_in0 : ∀ w ∈ u_ws RX0 TX0 6, w ∈ nw_tb := by
  show ∀ w ∈ [u_lay RX0 TX0 0, u_lay RX0 TX0 1, u_lay RX0 TX0 2, u_lay RX0 TX0 3, u_lay RX0 TX0 4, u_lay RX0 TX0 5], w ∈ nw_tb
  exact List.forall_mem_cons.mpr ⟨nw_ok_of 68 (by decide +kernel) (by decide +kernel), List.forall_mem_cons.mpr ⟨nw_ok_of 70 (by decide +kernel) (by decide +kernel), List.forall_mem_cons.mpr ⟨nw_ok_of 72 (by decide +kernel) (by decide +kernel), List.forall_mem_cons.mpr ⟨nw_ok_of 74 (by decide +kernel) (by decide +kernel), List.forall_mem_cons.mpr ⟨nw_ok_of 76 (by decide +kernel) (by decide +kernel), List.forall_mem_cons.mpr ⟨nw_ok_of 78 (by decide +kernel) (by decide +kernel), fun _ h => absurd h List.not_mem_nil⟩⟩⟩⟩⟩⟩
theorem nw_in1 : ∀ w ∈ u_ws RX1 TX1 3, w ∈ nw_tb := by
  show ∀ w ∈ [u_lay RX1 TX1 0, u_lay RX1 TX1 1, u_lay RX1 TX1 2], w ∈ nw_tb
  exact List.forall_mem_cons.mpr ⟨nw_ok_of 154 (by decide +kernel) (by decide +kernel), List.forall_mem_cons.mpr ⟨nw_ok_of 156 (by decide +kernel) (by decide +kernel), List.forall_mem_cons.mpr ⟨nw_ok_of 158 (by decide +kernel) (by decide +kernel), fun _ h => absurd h List.not_mem_nil⟩⟩⟩
theorem nw_in2 : ∀ w ∈ u_ws RX2 TX2 8, w ∈ nw_tb := by
  show ∀ w ∈ [u_lay RX2 TX2 0, u_lay RX2 TX2 1, u_lay RX2 TX2 2, u_lay RX2 TX2 3, u_lay RX2 TX2 4, u_lay RX2 TX2 5, u_lay RX2 TX2 6, u_lay RX2 TX2 7], w ∈ nw_tb
  exact List.forall_mem_cons.mpr ⟨nw_ok_of 104 (by decide +kernel) (by decide +kernel), List.forall_mem_cons.mpr ⟨nw_ok_of 106 (by decide +kernel) (by decide +kernel), List.forall_mem_cons.mpr ⟨nw_ok_of 108 (by decide +kernel) (by decide +kernel), List.forall_mem_cons.mpr ⟨nw_ok_of 110 (by decide +kernel) (by decide +kernel), List.forall_mem_cons.mpr ⟨nw_ok_of 112 (by decide +kernel) (by decide +kernel), List.forall_mem_cons.mpr ⟨nw_ok_of 114 (by decide +kernel) (by decide +kernel), List.forall_mem_cons.mpr ⟨nw_ok_of 116 (by decide +kernel) (by decide +kernel), List.forall_mem_cons.mpr ⟨nw_ok_of 118 (by decide +kernel) (by decide +kernel), fun _ h => absurd h List.not_mem_nil⟩⟩⟩⟩⟩⟩⟩⟩
theorem nw_in3 : ∀ w ∈ u_ws RX3 TX3 4, w ∈ nw_tb := by
  show ∀ w ∈ [u_lay RX3 TX3 0, u_lay RX3 TX3 1, u_lay RX3 TX3 2, u_lay RX3 TX3 3], w ∈ nw_tb
  exact List.forall_mem_cons.mpr ⟨nw_ok_of 135 (by decide +kernel) (by decide +kernel), List.forall_mem_cons.mpr ⟨nw_ok_of 137 (by decide +kernel) (by decide +kernel), List.forall_mem_cons.mpr ⟨nw_ok_of 139 (by decide +kernel) (by decide +kernel), List.forall_mem_cons.mpr ⟨nw_ok_of 141 (by decide +kernel) (by decide +kernel), fun _ h => absurd h List.not_mem_nil⟩⟩⟩⟩
theorem nw_in4 : ∀ w ∈ u_ws RX4 TX4 12, w ∈ nw_tb := by
  show ∀ w ∈ [u_lay RX4 TX4 0, u_lay RX4 TX4 1, u_lay RX4 TX4 2, u_lay RX4 TX4 3, u_lay RX4 TX4 4, u_lay RX4 TX4 5, u_lay RX4 TX4 6, u_lay RX4 TX4 7, u_lay RX4 TX4 8, u_lay RX4 TX4 9, u_lay RX4 TX4 10, u_lay RX4 TX4 11], w ∈ nw_tb
  exact List.forall_mem_cons.mpr ⟨nw_ok_of 174 (by decide +kernel) (by decide +kernel), List.forall_mem_cons.mpr ⟨nw_ok_of 176 (by decide +kernel) (by decide +kernel), List.forall_mem_cons.mpr ⟨nw_ok_of 178 (by decide +kernel) (by decide +kernel), List.forall_mem_cons.mpr ⟨nw_ok_of 180 (by decide +kernel) (by decide +kernel), List.forall_mem_cons.mpr ⟨nw_ok_of 182 (by decide +kernel) (by decide +kernel), List.forall_mem_cons.mpr ⟨nw_ok_of 184 (by decide +kernel) (by decide +kernel), List.forall_mem_cons.mpr ⟨nw_ok_of 186 (by decide +kernel) (by decide +kernel), List.forall_mem_cons.mpr ⟨nw_ok_of 188 (by decide +kernel) (by decide +kernel), List.forall_mem_cons.mpr ⟨nw_ok_of 190 (by decide +kernel) (by decide +kernel), List.forall_mem_cons.mpr ⟨nw_ok_of 192 (by decide +kernel) (by decide +kernel), List.forall_mem_cons.mpr ⟨nw_ok_of 194 (by decide +kernel) (by decide +kernel), List.forall_mem_cons.mpr ⟨nw_ok_of 196 (by decide +kernel) (by decide +kernel), fun _ h => absurd h List.not_mem_nil⟩⟩⟩⟩⟩⟩⟩⟩⟩⟩⟩⟩
theorem nw_in5 : ∀ w ∈ u_ws RX5 TX5 15, w ∈ nw_tb := by
  show ∀ w ∈ [u_lay RX5 TX5 0, u_lay RX5 TX5 1, u_lay RX5 TX5 2, u_lay RX5 TX5 3, u_lay RX5 TX5 4, u_lay RX5 TX5 5, u_lay RX5 TX5 6, u_lay RX5 TX5 7, u_lay RX5 TX5 8, u_lay RX5 TX5 9, u_lay RX5 TX5 10, u_lay RX5 TX5 11, u_lay RX5 TX5 12, u_lay RX5 TX5 13, u_lay RX5 TX5 14], w ∈ nw_tb
  exact List.forall_mem_cons.mpr ⟨nw_ok_of 477 (by decide +kernel) (by decide +kernel), List.forall_mem_cons.mpr ⟨nw_ok_of 479 (by decide +kernel) (by decide +kernel), List.forall_mem_cons.mpr ⟨nw_ok_of 481 (by decide +kernel) (by decide +kernel), List.forall_mem_cons.mpr ⟨nw_ok_of 483 (by decide +kernel) (by decide +kernel), List.forall_mem_cons.mpr ⟨nw_ok_of 485 (by decide +kernel) (by decide +kernel), List.forall_mem_cons.mpr ⟨nw_ok_of 487 (by decide +kernel) (by decide +kernel), List.forall_mem_cons.mpr ⟨nw_ok_of 489 (by decide +kernel) (by decide +kernel), List.forall_mem_cons.mpr ⟨nw_ok_of 491 (by decide +kernel) (by decide +kernel), List.forall_mem_cons.mpr ⟨nw_ok_of 493 (by decide +kernel) (by decide +kernel), List.forall_mem_cons.mpr ⟨nw_ok_of 495 (by decide +kernel) (by decide +kernel), List.forall_mem_cons.mpr ⟨nw_ok_of 497 (by decide +kernel) (by decide +kernel), List.forall_mem_cons.mpr ⟨nw_ok_of 499 (by decide +kernel) (by decide +kernel), List.forall_mem_cons.mpr ⟨nw_ok_of 501 (by decide +kernel) (by decide +kernel), List.forall_mem_cons.mpr ⟨nw_ok_of 503 (by decide +kernel) (by decide +kernel), List.forall_mem_cons.mpr ⟨nw_ok_of 505 (by decide +kernel) (by decide +kernel), fun _ h => absurd h List.not_mem_nil⟩⟩⟩⟩⟩⟩⟩⟩⟩⟩⟩⟩⟩⟩⟩
theorem nw_kinds {ci : Nat} {C : String} {T : u_T} {N : Nat} (h : vwCl[ci]? = some (C, T, N)) : (∀ w ∈ u_ws C T N, w ∈ nw_tb) ∧ (∃ ty0 : Nat → FieldType, ∀ k, k < N → parseFieldDescriptor (T k).2.2.1 = some (ty0 k)) ∧ (∀ a, a < N → ∀ b, b < N → a ≠ b → (T a).2.1 ≠ (T b).2.1) := by
  have hl : ci < 6 := (List.getElem?_eq_some_iff.mp h).1
  match ci, hl, h with
  | 0, _, h => cases h; exact ⟨nw_in0, ⟨tyX0, tyX0_ok⟩, nmX0⟩
  | 1, _, h => cases h; exact ⟨nw_in1, ⟨tyX1, tyX1_ok⟩, nmX1⟩
  | 2, _, h => cases h; exact ⟨nw_in2, ⟨tyX2, tyX2_ok⟩, nmX2⟩
  | 3, _, h => cases h; exact ⟨nw_in3, ⟨tyX3, tyX3_ok⟩, nmX3⟩
  | 4, _, h => cases h; exact ⟨nw_in4, ⟨tyX4, tyX4_ok⟩, nmX4⟩
  | 5, _, h => cases h; exact ⟨nw_in5, ⟨tyX5, tyX5_ok⟩, nmX5⟩
  | ci + 6, hl, _ => omega
end
section
/-- what holds all through a run of method μ, from its start s on -/
def nw_Gd (G : nw_G) (μ : Nat) (Ψ : Option Int → nw_S → Prop) (p : Program) (e : Env) (s : State) (m : MethodId) (args : Array Value) (below : List Frame) (meth : Method) (c : Code) (cs ss : Nat) (Q : State → Prop) (R : Room) (A : Nat → Prop) : Prop :=
  p.tables.exec = Jvm.exec ∧ c.code = nw_B μ ∧ c.maxLocals = nw_mL μ ∧ s.vm.findClass (nw_own (nw_C μ)) = some m.cls ∧ (∀ w ∈ nw_tb, w.before args s = true) ∧ nw_K G s ∧ nw_I G ∧ nw_Lv μ ≤ R.frames ∧ 34 * nw_Lv μ ≤ R.locals ∧ cs ≤ R.cells ∧ ss ≤ R.slots ∧ (∀ k, k < 38 → A (nw_ad G k)) ∧
  (∀ (r : Option Int) (u : nw_S) (H : Heap) (locs : List Loc) (pc : Nat) (la : Array Slot), nw_rOK (nw_Rt μ) r → Ψ r u → nw_P G u H → va_S A s.heap H locs → decode (nw_B μ) pc = .ok (if r.isSome then .ireturn else .return_, 1) → W p G.1 e R s m args below meth c H locs cs ss Q (F0 m pc la (r.toList.map (fun v => Value.int (Int32.ofInt v))))) ∧
  (μ = 118 → va_X (nw_ad G 38) (nw_len G) (nw_xs G) s s.heap ∧ nw_ad G 38 < s.heap.size ∧ ¬ A (nw_ad G 38) ∧ nw_len G < 2147483648)
/-- from here on method μ comes to an end that is as Ψ says -/
def nw_V (G : nw_G) (μ : Nat) (Ψ : Option Int → nw_S → Prop) (pc : Nat) (ls : nw_L) (st : List nw_v) (σ : nw_S) : Prop :=
  ∀ (p : Program) (e : Env) (s : State) (m : MethodId) (args : Array Value) (below : List Frame) (meth : Method) (c : Code) (cs ss : Nat) (Q : State → Prop) (R : Room) (A : Nat → Prop), nw_Gd G μ Ψ p e s m args below meth c cs ss Q R A →
    ∀ (H : Heap) (locs : List Loc) (la : Array Slot), nw_lh G (nw_mL μ) la ls → nw_P G σ H → va_S A s.heap H locs → W p G.1 e R s m args below meth c H locs cs ss Q (F0 m pc la (st.map (nw_cv G)))
section NWS
variable {G : nw_G} {μ : Nat} {Ψ : Option Int → nw_S → Prop} {pc : Nat} {ls : nw_L} {st : List nw_v} {σ : nw_S}
variable {k : Nat → nw_L → List nw_v → nw_S → Prop}
theorem nw_tgt {o : Int} (h : 0 ≤ (pc : Int) + o) : (pc : Int) + o = (nw_tg pc o : Int) := by
  unfold nw_tg
  omega
theorem nw_ro_map (r : Option Int) (st : List nw_v) : (nw_ro r st).map (nw_cv G) = r.toList.map (fun v => Value.int (Int32.ofInt v)) ++ st.map (nw_cv G) := by
  cases r <;> rfl
theorem nw_room {st : List nw_v} (h : st.length ≤ 8) : ((st.map (nw_cv G)).map fun v => v.category).sum ≤ 8 := by
  have : ((st.map (nw_cv G)).map fun v => v.category).sum = st.length := by
    clear h
    induction st with
    | nil => rfl
    | cons a r ih =>
      simp only [List.map_cons, List.sum_cons, List.length_cons, nw_cat]
      omega
  omega

theorem nw_s_iconst {n : Int} (hk : ∀ a b c d, k a b c d → nw_V G μ Ψ a b c d) (hd : decode (nw_B μ) pc = .ok (.iconst n, 1)) (h : nw_step G μ Ψ (.iconst n) pc ls st σ k) : nw_V G μ Ψ pc ls st σ := by
  intro p e s m args below meth c cs ss Q R A hG H locs la hl hP hS
  obtain ⟨hx, hb, hml, hown, hts, hK, hI, hfr, hlo, hce, hsl, hA, hret, hlaw⟩ := id hG
  refine lv_iconst hx hb hd rfl ?_
  exact hk _ _ _ _ h p e s m args below meth c cs ss Q R A hG _ _ _ hl hP hS
theorem nw_s_bipush {n : Int} (hk : ∀ a b c d, k a b c d → nw_V G μ Ψ a b c d) (hd : decode (nw_B μ) pc = .ok (.bipush n, 2)) (h : nw_step G μ Ψ (.bipush n) pc ls st σ k) : nw_V G μ Ψ pc ls st σ := by
  intro p e s m args below meth c cs ss Q R A hG H locs la hl hP hS
  obtain ⟨hx, hb, hml, hown, hts, hK, hI, hfr, hlo, hce, hsl, hA, hret, hlaw⟩ := id hG
  obtain ⟨h12, h⟩ := nw_if_el h
  simp only [Bool.and_eq_true, decide_eq_true_eq] at h12
  obtain ⟨h1, h2⟩ := h12
  refine lv_bipush (v := Int32.ofInt n) hx hb hd ?_ ?_
  · rw [← Int32.toInt_inj, nw_toInt ⟨by omega, by omega⟩, Int8.toInt_toInt32, Int8.toInt_ofInt_of_le (by omega) (by omega)]
  exact hk _ _ _ _ h p e s m args below meth c cs ss Q R A hG _ _ _ hl hP hS
theorem nw_s_sipush {n : Int} (hk : ∀ a b c d, k a b c d → nw_V G μ Ψ a b c d) (hd : decode (nw_B μ) pc = .ok (.sipush n, 3)) (h : nw_step G μ Ψ (.sipush n) pc ls st σ k) : nw_V G μ Ψ pc ls st σ := by
  intro p e s m args below meth c cs ss Q R A hG H locs la hl hP hS
  obtain ⟨hx, hb, hml, hown, hts, hK, hI, hfr, hlo, hce, hsl, hA, hret, hlaw⟩ := id hG
  obtain ⟨h12, h⟩ := nw_if_el h
  simp only [Bool.and_eq_true, decide_eq_true_eq] at h12
  obtain ⟨h1, h2⟩ := h12
  refine lv_sipush (v := Int32.ofInt n) hx hb hd ?_ ?_
  · rw [← Int32.toInt_inj, nw_toInt ⟨by omega, by omega⟩, Int16.toInt_toInt32, Int16.toInt_ofInt_of_le (by omega) (by omega)]
  exact hk _ _ _ _ h p e s m args below meth c cs ss Q R A hG _ _ _ hl hP hS
theorem nw_s_ldc {idx : Nat} (hk : ∀ a b c d, k a b c d → nw_V G μ Ψ a b c d) (hd : decode (nw_B μ) pc = .ok (.ldc idx, 2)) (h : nw_step G μ Ψ (.ldc idx) pc ls st σ k) : nw_V G μ Ψ pc ls st σ := by
  intro p e s m args below meth c cs ss Q R A hG H locs la hl hP hS
  obtain ⟨hx, hb, hml, hown, hts, hK, hI, hfr, hlo, hce, hsl, hA, hret, hlaw⟩ := id hG
  obtain ⟨n, h1, h⟩ := nw_oS_el h
  refine lv_ldc (v := Int32.ofInt n) hx hb hown (hts _ (nw_k_ok _ _ (nw_look h1))) hd ?_
  exact hk _ _ _ _ h p e s m args below meth c cs ss Q R A hG _ _ _ hl hP hS
theorem nw_s_ldc_w {idx : Nat} (hk : ∀ a b c d, k a b c d → nw_V G μ Ψ a b c d) (hd : decode (nw_B μ) pc = .ok (.ldc_w idx, 3)) (h : nw_step G μ Ψ (.ldc_w idx) pc ls st σ k) : nw_V G μ Ψ pc ls st σ := by
  intro p e s m args below meth c cs ss Q R A hG H locs la hl hP hS
  obtain ⟨hx, hb, hml, hown, hts, hK, hI, hfr, hlo, hce, hsl, hA, hret, hlaw⟩ := id hG
  obtain ⟨n, h1, h⟩ := nw_oS_el h
  refine lv_ldcw (v := Int32.ofInt n) hx hb hown (hts _ (nw_k_ok _ _ (nw_look h1))) hd ?_
  exact hk _ _ _ _ h p e s m args below meth c cs ss Q R A hG _ _ _ hl hP hS
theorem nw_s_iload_n {j : Fin 4} (hk : ∀ a b c d, k a b c d → nw_V G μ Ψ a b c d) (hd : decode (nw_B μ) pc = .ok (.iload_n j, 1)) (h : nw_step G μ Ψ (.iload_n j) pc ls st σ k) : nw_V G μ Ψ pc ls st σ := by
  intro p e s m args below meth c cs ss Q R A hG H locs la hl hP hS
  obtain ⟨hx, hb, hml, hown, hts, hK, hI, hfr, hlo, hce, hsl, hA, hret, hlaw⟩ := id hG
  obtain ⟨a, h1, h⟩ := nw_lI_el h
  refine lv_iload_n hx hb hd rfl (hl.2.2 _ _ h1) ?_
  exact hk _ _ _ _ h p e s m args below meth c cs ss Q R A hG _ _ _ hl hP hS
theorem nw_s_iload {j : Nat} (hk : ∀ a b c d, k a b c d → nw_V G μ Ψ a b c d) (hd : decode (nw_B μ) pc = .ok (.iload j, 2)) (h : nw_step G μ Ψ (.iload j) pc ls st σ k) : nw_V G μ Ψ pc ls st σ := by
  intro p e s m args below meth c cs ss Q R A hG H locs la hl hP hS
  obtain ⟨hx, hb, hml, hown, hts, hK, hI, hfr, hlo, hce, hsl, hA, hret, hlaw⟩ := id hG
  obtain ⟨a, h1, h⟩ := nw_lI_el h
  refine lv_iload hx hb hd (hl.2.2 _ _ h1) ?_
  exact hk _ _ _ _ h p e s m args below meth c cs ss Q R A hG _ _ _ hl hP hS
theorem nw_s_aload_n {j : Fin 4} (hk : ∀ a b c d, k a b c d → nw_V G μ Ψ a b c d) (hd : decode (nw_B μ) pc = .ok (.aload_n j, 1)) (h : nw_step G μ Ψ (.aload_n j) pc ls st σ k) : nw_V G μ Ψ pc ls st σ := by
  intro p e s m args below meth c cs ss Q R A hG H locs la hl hP hS
  obtain ⟨hx, hb, hml, hown, hts, hK, hI, hfr, hlo, hce, hsl, hA, hret, hlaw⟩ := id hG
  obtain ⟨a, h1, h⟩ := nw_lR_el h
  refine lv_aload_n hx hb hd rfl (hl.2.2 _ _ h1) ?_
  exact hk _ _ _ _ h p e s m args below meth c cs ss Q R A hG _ _ _ hl hP hS
theorem nw_s_aload {j : Nat} (hk : ∀ a b c d, k a b c d → nw_V G μ Ψ a b c d) (hd : decode (nw_B μ) pc = .ok (.aload j, 2)) (h : nw_step G μ Ψ (.aload j) pc ls st σ k) : nw_V G μ Ψ pc ls st σ := by
  intro p e s m args below meth c cs ss Q R A hG H locs la hl hP hS
  obtain ⟨hx, hb, hml, hown, hts, hK, hI, hfr, hlo, hce, hsl, hA, hret, hlaw⟩ := id hG
  obtain ⟨a, h1, h⟩ := nw_lR_el h
  refine lv_aload hx hb hd (hl.2.2 _ _ h1) ?_
  exact hk _ _ _ _ h p e s m args below meth c cs ss Q R A hG _ _ _ hl hP hS
theorem nw_s_istore_n {j : Fin 4} (hk : ∀ a b c d, k a b c d → nw_V G μ Ψ a b c d) (hd : decode (nw_B μ) pc = .ok (.istore_n j, 1)) (h : nw_step G μ Ψ (.istore_n j) pc ls st σ k) : nw_V G μ Ψ pc ls st σ := by
  intro p e s m args below meth c cs ss Q R A hG H locs la hl hP hS
  obtain ⟨hx, hb, hml, hown, hts, hK, hI, hfr, hlo, hce, hsl, hA, hret, hlaw⟩ := id hG
  obtain ⟨h1, h⟩ := nw_if_el h
  obtain ⟨a, r, rfl, h⟩ := nw_pI_el h
  refine lv_istore_n hx hb hd rfl hl.has (Nat.le_of_ble_eq_true h1) rfl fun la' hl' => ?_
  exact hk _ _ _ _ h p e s m args below meth c cs ss Q R A hG _ _ _ (nw_lh.store (v := (.inr a)) hl') hP hS
theorem nw_s_istore {j : Nat} (hk : ∀ a b c d, k a b c d → nw_V G μ Ψ a b c d) (hd : decode (nw_B μ) pc = .ok (.istore j, 2)) (h : nw_step G μ Ψ (.istore j) pc ls st σ k) : nw_V G μ Ψ pc ls st σ := by
  intro p e s m args below meth c cs ss Q R A hG H locs la hl hP hS
  obtain ⟨hx, hb, hml, hown, hts, hK, hI, hfr, hlo, hce, hsl, hA, hret, hlaw⟩ := id hG
  obtain ⟨h1, h⟩ := nw_if_el h
  obtain ⟨a, r, rfl, h⟩ := nw_pI_el h
  refine lv_istore hx hb hd hl.has (Nat.le_of_ble_eq_true h1) rfl fun la' hl' => ?_
  exact hk _ _ _ _ h p e s m args below meth c cs ss Q R A hG _ _ _ (nw_lh.store (v := (.inr a)) hl') hP hS
theorem nw_s_astore_n {j : Fin 4} (hk : ∀ a b c d, k a b c d → nw_V G μ Ψ a b c d) (hd : decode (nw_B μ) pc = .ok (.astore_n j, 1)) (h : nw_step G μ Ψ (.astore_n j) pc ls st σ k) : nw_V G μ Ψ pc ls st σ := by
  intro p e s m args below meth c cs ss Q R A hG H locs la hl hP hS
  obtain ⟨hx, hb, hml, hown, hts, hK, hI, hfr, hlo, hce, hsl, hA, hret, hlaw⟩ := id hG
  obtain ⟨h1, h⟩ := nw_if_el h
  obtain ⟨a, r, rfl, h⟩ := nw_pR_el h
  refine lv_astore_n hx hb hd rfl hl.has (Nat.le_of_ble_eq_true h1) rfl fun la' hl' => ?_
  exact hk _ _ _ _ h p e s m args below meth c cs ss Q R A hG _ _ _ (nw_lh.store (v := (.inl a)) hl') hP hS
theorem nw_s_astore {j : Nat} (hk : ∀ a b c d, k a b c d → nw_V G μ Ψ a b c d) (hd : decode (nw_B μ) pc = .ok (.astore j, 2)) (h : nw_step G μ Ψ (.astore j) pc ls st σ k) : nw_V G μ Ψ pc ls st σ := by
  intro p e s m args below meth c cs ss Q R A hG H locs la hl hP hS
  obtain ⟨hx, hb, hml, hown, hts, hK, hI, hfr, hlo, hce, hsl, hA, hret, hlaw⟩ := id hG
  obtain ⟨h1, h⟩ := nw_if_el h
  obtain ⟨a, r, rfl, h⟩ := nw_pR_el h
  refine lv_astore hx hb hd hl.has (Nat.le_of_ble_eq_true h1) rfl fun la' hl' => ?_
  exact hk _ _ _ _ h p e s m args below meth c cs ss Q R A hG _ _ _ (nw_lh.store (v := (.inl a)) hl') hP hS
theorem nw_s_iinc {j : Nat} {n : Int} (hk : ∀ a b c d, k a b c d → nw_V G μ Ψ a b c d) (hd : decode (nw_B μ) pc = .ok (.iinc j n, 3)) (h : nw_step G μ Ψ (.iinc j n) pc ls st σ k) : nw_V G μ Ψ pc ls st σ := by
  intro p e s m args below meth c cs ss Q R A hG H locs la hl hP hS
  obtain ⟨hx, hb, hml, hown, hts, hK, hI, hfr, hlo, hce, hsl, hA, hret, hlaw⟩ := id hG
  obtain ⟨h1, h⟩ := nw_if_el h
  obtain ⟨a, h2, h⟩ := nw_lI_el h
  obtain ⟨kk, hkk⟩ := List.getElem?_of_mem (nw_lv_mem (G := G).mpr ⟨j, _, h2, rfl⟩)
  refine lv_iinc (v := Int32.ofInt (a + n)) hx hb hd hl.has (k := kk) hkk (Int32.ofInt_add a n).symm (Nat.le_of_ble_eq_true h1) rfl fun la' hl' => ?_
  exact hk _ _ _ _ h p e s m args below meth c cs ss Q R A hG _ _ _ (nw_lh.store (v := .inr (a + n)) hl') hP hS
theorem nw_s_iadd (hk : ∀ a b c d, k a b c d → nw_V G μ Ψ a b c d) (hd : decode (nw_B μ) pc = .ok (.iadd, 1)) (h : nw_step G μ Ψ (.iadd) pc ls st σ k) : nw_V G μ Ψ pc ls st σ := by
  intro p e s m args below meth c cs ss Q R A hG H locs la hl hP hS
  obtain ⟨hx, hb, hml, hown, hts, hK, hI, hfr, hlo, hce, hsl, hA, hret, hlaw⟩ := id hG
  obtain ⟨b, r, rfl, h⟩ := nw_pI_el h
  obtain ⟨a, r, rfl, h⟩ := nw_pI_el h
  refine lv_iadd hx hb hd ?_
  rw [← Int32.ofInt_add]
  exact hk _ _ _ _ h p e s m args below meth c cs ss Q R A hG _ _ _ hl hP hS
theorem nw_s_isub (hk : ∀ a b c d, k a b c d → nw_V G μ Ψ a b c d) (hd : decode (nw_B μ) pc = .ok (.isub, 1)) (h : nw_step G μ Ψ (.isub) pc ls st σ k) : nw_V G μ Ψ pc ls st σ := by
  intro p e s m args below meth c cs ss Q R A hG H locs la hl hP hS
  obtain ⟨hx, hb, hml, hown, hts, hK, hI, hfr, hlo, hce, hsl, hA, hret, hlaw⟩ := id hG
  obtain ⟨b, r, rfl, h⟩ := nw_pI_el h
  obtain ⟨a, r, rfl, h⟩ := nw_pI_el h
  refine lv_isub hx hb hd ?_
  rw [← Int32.ofInt_sub]
  exact hk _ _ _ _ h p e s m args below meth c cs ss Q R A hG _ _ _ hl hP hS
theorem nw_s_imul (hk : ∀ a b c d, k a b c d → nw_V G μ Ψ a b c d) (hd : decode (nw_B μ) pc = .ok (.imul, 1)) (h : nw_step G μ Ψ (.imul) pc ls st σ k) : nw_V G μ Ψ pc ls st σ := by
  intro p e s m args below meth c cs ss Q R A hG H locs la hl hP hS
  obtain ⟨hx, hb, hml, hown, hts, hK, hI, hfr, hlo, hce, hsl, hA, hret, hlaw⟩ := id hG
  obtain ⟨b, r, rfl, h⟩ := nw_pI_el h
  obtain ⟨a, r, rfl, h⟩ := nw_pI_el h
  refine lv_imul hx hb hd ?_
  rw [← Int32.ofInt_mul]
  exact hk _ _ _ _ h p e s m args below meth c cs ss Q R A hG _ _ _ hl hP hS
theorem nw_s_ineg (hk : ∀ a b c d, k a b c d → nw_V G μ Ψ a b c d) (hd : decode (nw_B μ) pc = .ok (.ineg, 1)) (h : nw_step G μ Ψ (.ineg) pc ls st σ k) : nw_V G μ Ψ pc ls st σ := by
  intro p e s m args below meth c cs ss Q R A hG H locs la hl hP hS
  obtain ⟨hx, hb, hml, hown, hts, hK, hI, hfr, hlo, hce, hsl, hA, hret, hlaw⟩ := id hG
  obtain ⟨a, r, rfl, h⟩ := nw_pI_el h
  refine lv_ineg hx hb hd ?_
  rw [← Int32.ofInt_neg]
  exact hk _ _ _ _ h p e s m args below meth c cs ss Q R A hG _ _ _ hl hP hS
theorem nw_s_idiv (hk : ∀ a b c d, k a b c d → nw_V G μ Ψ a b c d) (hd : decode (nw_B μ) pc = .ok (.idiv, 1)) (h : nw_step G μ Ψ (.idiv) pc ls st σ k) : nw_V G μ Ψ pc ls st σ := by
  intro p e s m args below meth c cs ss Q R A hG H locs la hl hP hS
  obtain ⟨hx, hb, hml, hown, hts, hK, hI, hfr, hlo, hce, hsl, hA, hret, hlaw⟩ := id hG
  obtain ⟨b, r, rfl, h⟩ := nw_pI_el h
  obtain ⟨a, r, rfl, hc, h⟩ := nw_pI_el h
  refine lv_idiv hx hb hd (nw_div hc).2 ?_
  rw [(nw_div hc).1]
  exact hk _ _ _ _ h p e s m args below meth c cs ss Q R A hG _ _ _ hl hP hS
theorem nw_s_irem (hk : ∀ a b c d, k a b c d → nw_V G μ Ψ a b c d) (hd : decode (nw_B μ) pc = .ok (.irem, 1)) (h : nw_step G μ Ψ (.irem) pc ls st σ k) : nw_V G μ Ψ pc ls st σ := by
  intro p e s m args below meth c cs ss Q R A hG H locs la hl hP hS
  obtain ⟨hx, hb, hml, hown, hts, hK, hI, hfr, hlo, hce, hsl, hA, hret, hlaw⟩ := id hG
  obtain ⟨b, r, rfl, h⟩ := nw_pI_el h
  obtain ⟨a, r, rfl, hc, h⟩ := nw_pI_el h
  refine lv_irem hx hb hd (nw_div hc).2 ?_
  rw [nw_rem hc]
  exact hk _ _ _ _ h p e s m args below meth c cs ss Q R A hG _ _ _ hl hP hS
theorem nw_s_iand (hk : ∀ a b c d, k a b c d → nw_V G μ Ψ a b c d) (hd : decode (nw_B μ) pc = .ok (.iand, 1)) (h : nw_step G μ Ψ (.iand) pc ls st σ k) : nw_V G μ Ψ pc ls st σ := by
  intro p e s m args below meth c cs ss Q R A hG H locs la hl hP hS
  obtain ⟨hx, hb, hml, hown, hts, hK, hI, hfr, hlo, hce, hsl, hA, hret, hlaw⟩ := id hG
  obtain ⟨b, r, rfl, h⟩ := nw_pI_el h
  obtain ⟨a, r, rfl, h⟩ := nw_pI_el h
  refine lv_iand hx hb hd ?_
  rw [← Int32.ofInt_toInt (Int32.ofInt a &&& Int32.ofInt b)]
  exact hk _ _ _ _ h p e s m args below meth c cs ss Q R A hG _ _ _ hl hP hS
theorem nw_s_ior (hk : ∀ a b c d, k a b c d → nw_V G μ Ψ a b c d) (hd : decode (nw_B μ) pc = .ok (.ior, 1)) (h : nw_step G μ Ψ (.ior) pc ls st σ k) : nw_V G μ Ψ pc ls st σ := by
  intro p e s m args below meth c cs ss Q R A hG H locs la hl hP hS
  obtain ⟨hx, hb, hml, hown, hts, hK, hI, hfr, hlo, hce, hsl, hA, hret, hlaw⟩ := id hG
  obtain ⟨b, r, rfl, h⟩ := nw_pI_el h
  obtain ⟨a, r, rfl, h⟩ := nw_pI_el h
  refine lv_ior hx hb hd ?_
  rw [← Int32.ofInt_toInt (Int32.ofInt a ||| Int32.ofInt b)]
  exact hk _ _ _ _ h p e s m args below meth c cs ss Q R A hG _ _ _ hl hP hS
theorem nw_s_ixor (hk : ∀ a b c d, k a b c d → nw_V G μ Ψ a b c d) (hd : decode (nw_B μ) pc = .ok (.ixor, 1)) (h : nw_step G μ Ψ (.ixor) pc ls st σ k) : nw_V G μ Ψ pc ls st σ := by
  intro p e s m args below meth c cs ss Q R A hG H locs la hl hP hS
  obtain ⟨hx, hb, hml, hown, hts, hK, hI, hfr, hlo, hce, hsl, hA, hret, hlaw⟩ := id hG
  obtain ⟨b, r, rfl, h⟩ := nw_pI_el h
  obtain ⟨a, r, rfl, h⟩ := nw_pI_el h
  refine lv_ixor hx hb hd ?_
  rw [← Int32.ofInt_toInt (Int32.ofInt a ^^^ Int32.ofInt b)]
  exact hk _ _ _ _ h p e s m args below meth c cs ss Q R A hG _ _ _ hl hP hS
theorem nw_s_ishl (hk : ∀ a b c d, k a b c d → nw_V G μ Ψ a b c d) (hd : decode (nw_B μ) pc = .ok (.ishl, 1)) (h : nw_step G μ Ψ (.ishl) pc ls st σ k) : nw_V G μ Ψ pc ls st σ := by
  intro p e s m args below meth c cs ss Q R A hG H locs la hl hP hS
  obtain ⟨hx, hb, hml, hown, hts, hK, hI, hfr, hlo, hce, hsl, hA, hret, hlaw⟩ := id hG
  obtain ⟨b, r, rfl, h⟩ := nw_pI_el h
  obtain ⟨a, r, rfl, h⟩ := nw_pI_el h
  refine lv_ishl hx hb hd ?_
  rw [← Int32.ofInt_toInt (Int32.ofInt a <<< (Int32.ofInt b &&& 31))]
  exact hk _ _ _ _ h p e s m args below meth c cs ss Q R A hG _ _ _ hl hP hS
theorem nw_s_ishr (hk : ∀ a b c d, k a b c d → nw_V G μ Ψ a b c d) (hd : decode (nw_B μ) pc = .ok (.ishr, 1)) (h : nw_step G μ Ψ (.ishr) pc ls st σ k) : nw_V G μ Ψ pc ls st σ := by
  intro p e s m args below meth c cs ss Q R A hG H locs la hl hP hS
  obtain ⟨hx, hb, hml, hown, hts, hK, hI, hfr, hlo, hce, hsl, hA, hret, hlaw⟩ := id hG
  obtain ⟨b, r, rfl, h⟩ := nw_pI_el h
  obtain ⟨a, r, rfl, h⟩ := nw_pI_el h
  refine lv_ishr hx hb hd ?_
  rw [← Int32.ofInt_toInt (Int32.ofInt a >>> (Int32.ofInt b &&& 31))]
  exact hk _ _ _ _ h p e s m args below meth c cs ss Q R A hG _ _ _ hl hP hS
theorem nw_s_iushr (hk : ∀ a b c d, k a b c d → nw_V G μ Ψ a b c d) (hd : decode (nw_B μ) pc = .ok (.iushr, 1)) (h : nw_step G μ Ψ (.iushr) pc ls st σ k) : nw_V G μ Ψ pc ls st σ := by
  intro p e s m args below meth c cs ss Q R A hG H locs la hl hP hS
  obtain ⟨hx, hb, hml, hown, hts, hK, hI, hfr, hlo, hce, hsl, hA, hret, hlaw⟩ := id hG
  obtain ⟨b, r, rfl, h⟩ := nw_pI_el h
  obtain ⟨a, r, rfl, h⟩ := nw_pI_el h
  refine lv_iushr (v := Int32.ofInt (nw_ushr a b)) hx hb hd ?_ ?_
  · unfold nw_ushr
    rw [Int32.ofInt_toInt]
  exact hk _ _ _ _ h p e s m args below meth c cs ss Q R A hG _ _ _ hl hP hS
theorem nw_s_dup (hk : ∀ a b c d, k a b c d → nw_V G μ Ψ a b c d) (hd : decode (nw_B μ) pc = .ok (.dup, 1)) (h : nw_step G μ Ψ (.dup) pc ls st σ k) : nw_V G μ Ψ pc ls st σ := by
  intro p e s m args below meth c cs ss Q R A hG H locs la hl hP hS
  obtain ⟨hx, hb, hml, hown, hts, hK, hI, hfr, hlo, hce, hsl, hA, hret, hlaw⟩ := id hG
  match st, h with
  | a :: r, h =>
    refine lv_dup hx hb hd (nw_cat G a) ?_
    exact hk _ _ _ _ h p e s m args below meth c cs ss Q R A hG _ _ _ hl hP hS
theorem nw_s_dup2 (hk : ∀ a b c d, k a b c d → nw_V G μ Ψ a b c d) (hd : decode (nw_B μ) pc = .ok (.dup2, 1)) (h : nw_step G μ Ψ (.dup2) pc ls st σ k) : nw_V G μ Ψ pc ls st σ := by
  intro p e s m args below meth c cs ss Q R A hG H locs la hl hP hS
  obtain ⟨hx, hb, hml, hown, hts, hK, hI, hfr, hlo, hce, hsl, hA, hret, hlaw⟩ := id hG
  match st, h with
  | a :: b :: r, h =>
    refine lv_dup2_11 hx hb hd (nw_cat G a) (nw_cat G b) ?_
    exact hk _ _ _ _ h p e s m args below meth c cs ss Q R A hG _ _ _ hl hP hS
theorem nw_s_goto {o : Int} (ho : 0 ≤ (pc : Int) + o) (hk : ∀ a b c d, k a b c d → nw_V G μ Ψ a b c d) (hd : decode (nw_B μ) pc = .ok (.goto o, 3)) (h : nw_step G μ Ψ (.goto o) pc ls st σ k) : nw_V G μ Ψ pc ls st σ := by
  intro p e s m args below meth c cs ss Q R A hG H locs la hl hP hS
  obtain ⟨hx, hb, hml, hown, hts, hK, hI, hfr, hlo, hce, hsl, hA, hret, hlaw⟩ := id hG
  refine lv_goto hx hb hd (nw_tgt ho) ?_
  exact hk _ _ _ _ h p e s m args below meth c cs ss Q R A hG _ _ _ hl hP hS
theorem nw_s_ifCond {o : Int} {cd : ClassFile.Cond} (ho : 0 ≤ (pc : Int) + o) (hk : ∀ a b c d, k a b c d → nw_V G μ Ψ a b c d) (hd : decode (nw_B μ) pc = .ok (.ifCond cd o, 3)) (h : nw_step G μ Ψ (.ifCond cd o) pc ls st σ k) : nw_V G μ Ψ pc ls st σ := by
  intro p e s m args below meth c cs ss Q R A hG H locs la hl hP hS
  obtain ⟨hx, hb, hml, hown, hts, hK, hI, hfr, hlo, hce, hsl, hA, hret, hlaw⟩ := id hG
  obtain ⟨a, r, rfl, ha, h⟩ := nw_pI_el h
  have hb2 : nw_r 0 := ⟨by decide, by decide⟩
  have el := nw_of_lt ha hb2
  have el' := nw_of_lt hb2 ha
  have ee := nw_of_eq ha hb2
  have ef := nw_of_le ha hb2
  have ef' := nw_of_le hb2 ha
  rw [show Int32.ofInt 0 = 0 from rfl] at el el' ee ef ef'
  cases cd with
  | eq =>
    refine lv_if_eq hx hb hd (nw_tgt ho) (fun q => ?_) (fun q => ?_)
    · exact hk _ _ _ _ (h.1 (by first | exact ee.mp q | exact (fun z => q (ee.mpr z)) | exact el.mp q | exact el'.mp q | exact ef.mp q | exact ef'.mp q)) p e s m args below meth c cs ss Q R A hG _ _ _ hl hP hS
    · exact hk _ _ _ _ (h.2 (by first | exact ee.mp q | exact ee.mp (Classical.not_not.mp q) | exact (fun z => q (ee.mpr z)) | exact Int.not_lt.mp (fun z => q (el.mpr z)) | exact Int.not_lt.mp (fun z => q (el'.mpr z)) | exact Int.not_le.mp (fun z => q (ef.mpr z)) | exact Int.not_le.mp (fun z => q (ef'.mpr z)))) p e s m args below meth c cs ss Q R A hG _ _ _ hl hP hS
  | ne =>
    refine lv_if_ne hx hb hd (nw_tgt ho) (fun q => ?_) (fun q => ?_)
    · exact hk _ _ _ _ (h.1 (by first | exact ee.mp q | exact (fun z => q (ee.mpr z)) | exact el.mp q | exact el'.mp q | exact ef.mp q | exact ef'.mp q)) p e s m args below meth c cs ss Q R A hG _ _ _ hl hP hS
    · exact hk _ _ _ _ (h.2 (by first | exact ee.mp q | exact ee.mp (Classical.not_not.mp q) | exact (fun z => q (ee.mpr z)) | exact Int.not_lt.mp (fun z => q (el.mpr z)) | exact Int.not_lt.mp (fun z => q (el'.mpr z)) | exact Int.not_le.mp (fun z => q (ef.mpr z)) | exact Int.not_le.mp (fun z => q (ef'.mpr z)))) p e s m args below meth c cs ss Q R A hG _ _ _ hl hP hS
  | lt =>
    refine lv_if_lt hx hb hd (nw_tgt ho) (fun q => ?_) (fun q => ?_)
    · exact hk _ _ _ _ (h.1 (by first | exact ee.mp q | exact (fun z => q (ee.mpr z)) | exact el.mp q | exact el'.mp q | exact ef.mp q | exact ef'.mp q)) p e s m args below meth c cs ss Q R A hG _ _ _ hl hP hS
    · exact hk _ _ _ _ (h.2 (by first | exact ee.mp q | exact ee.mp (Classical.not_not.mp q) | exact (fun z => q (ee.mpr z)) | exact Int.not_lt.mp (fun z => q (el.mpr z)) | exact Int.not_lt.mp (fun z => q (el'.mpr z)) | exact Int.not_le.mp (fun z => q (ef.mpr z)) | exact Int.not_le.mp (fun z => q (ef'.mpr z)))) p e s m args below meth c cs ss Q R A hG _ _ _ hl hP hS
  | ge =>
    refine lv_if_ge hx hb hd (nw_tgt ho) (fun q => ?_) (fun q => ?_)
    · exact hk _ _ _ _ (h.1 (by first | exact ee.mp q | exact (fun z => q (ee.mpr z)) | exact el.mp q | exact el'.mp q | exact ef.mp q | exact ef'.mp q)) p e s m args below meth c cs ss Q R A hG _ _ _ hl hP hS
    · exact hk _ _ _ _ (h.2 (by first | exact ee.mp q | exact ee.mp (Classical.not_not.mp q) | exact (fun z => q (ee.mpr z)) | exact Int.not_lt.mp (fun z => q (el.mpr z)) | exact Int.not_lt.mp (fun z => q (el'.mpr z)) | exact Int.not_le.mp (fun z => q (ef.mpr z)) | exact Int.not_le.mp (fun z => q (ef'.mpr z)))) p e s m args below meth c cs ss Q R A hG _ _ _ hl hP hS
  | gt =>
    refine lv_if_gt hx hb hd (nw_tgt ho) (fun q => ?_) (fun q => ?_)
    · exact hk _ _ _ _ (h.1 (by first | exact ee.mp q | exact (fun z => q (ee.mpr z)) | exact el.mp q | exact el'.mp q | exact ef.mp q | exact ef'.mp q)) p e s m args below meth c cs ss Q R A hG _ _ _ hl hP hS
    · exact hk _ _ _ _ (h.2 (by first | exact ee.mp q | exact ee.mp (Classical.not_not.mp q) | exact (fun z => q (ee.mpr z)) | exact Int.not_lt.mp (fun z => q (el.mpr z)) | exact Int.not_lt.mp (fun z => q (el'.mpr z)) | exact Int.not_le.mp (fun z => q (ef.mpr z)) | exact Int.not_le.mp (fun z => q (ef'.mpr z)))) p e s m args below meth c cs ss Q R A hG _ _ _ hl hP hS
  | le =>
    refine lv_if_le hx hb hd (nw_tgt ho) (fun q => ?_) (fun q => ?_)
    · exact hk _ _ _ _ (h.1 (by first | exact ee.mp q | exact (fun z => q (ee.mpr z)) | exact el.mp q | exact el'.mp q | exact ef.mp q | exact ef'.mp q)) p e s m args below meth c cs ss Q R A hG _ _ _ hl hP hS
    · exact hk _ _ _ _ (h.2 (by first | exact ee.mp q | exact ee.mp (Classical.not_not.mp q) | exact (fun z => q (ee.mpr z)) | exact Int.not_lt.mp (fun z => q (el.mpr z)) | exact Int.not_lt.mp (fun z => q (el'.mpr z)) | exact Int.not_le.mp (fun z => q (ef.mpr z)) | exact Int.not_le.mp (fun z => q (ef'.mpr z)))) p e s m args below meth c cs ss Q R A hG _ _ _ hl hP hS
theorem nw_s_if_icmp {o : Int} {cd : ClassFile.Cond} (ho : 0 ≤ (pc : Int) + o) (hk : ∀ a b c d, k a b c d → nw_V G μ Ψ a b c d) (hd : decode (nw_B μ) pc = .ok (.if_icmp cd o, 3)) (h : nw_step G μ Ψ (.if_icmp cd o) pc ls st σ k) : nw_V G μ Ψ pc ls st σ := by
  intro p e s m args below meth c cs ss Q R A hG H locs la hl hP hS
  obtain ⟨hx, hb, hml, hown, hts, hK, hI, hfr, hlo, hce, hsl, hA, hret, hlaw⟩ := id hG
  obtain ⟨b, r, rfl, h⟩ := nw_pI_el h
  obtain ⟨a, r, rfl, ha, hb2, h⟩ := nw_pI_el h
  have el := nw_of_lt ha hb2
  have el' := nw_of_lt hb2 ha
  have ee := nw_of_eq ha hb2
  have ef := nw_of_le ha hb2
  have ef' := nw_of_le hb2 ha
  cases cd with
  | eq =>
    refine lv_icmp_eq hx hb hd (nw_tgt ho) (fun q => ?_) (fun q => ?_)
    · exact hk _ _ _ _ (h.1 (by first | exact ee.mp q | exact (fun z => q (ee.mpr z)) | exact el.mp q | exact el'.mp q | exact ef.mp q | exact ef'.mp q)) p e s m args below meth c cs ss Q R A hG _ _ _ hl hP hS
    · exact hk _ _ _ _ (h.2 (by first | exact ee.mp q | exact ee.mp (Classical.not_not.mp q) | exact (fun z => q (ee.mpr z)) | exact Int.not_lt.mp (fun z => q (el.mpr z)) | exact Int.not_lt.mp (fun z => q (el'.mpr z)) | exact Int.not_le.mp (fun z => q (ef.mpr z)) | exact Int.not_le.mp (fun z => q (ef'.mpr z)))) p e s m args below meth c cs ss Q R A hG _ _ _ hl hP hS
  | ne =>
    refine lv_icmp_ne hx hb hd (nw_tgt ho) (fun q => ?_) (fun q => ?_)
    · exact hk _ _ _ _ (h.1 (by first | exact ee.mp q | exact (fun z => q (ee.mpr z)) | exact el.mp q | exact el'.mp q | exact ef.mp q | exact ef'.mp q)) p e s m args below meth c cs ss Q R A hG _ _ _ hl hP hS
    · exact hk _ _ _ _ (h.2 (by first | exact ee.mp q | exact ee.mp (Classical.not_not.mp q) | exact (fun z => q (ee.mpr z)) | exact Int.not_lt.mp (fun z => q (el.mpr z)) | exact Int.not_lt.mp (fun z => q (el'.mpr z)) | exact Int.not_le.mp (fun z => q (ef.mpr z)) | exact Int.not_le.mp (fun z => q (ef'.mpr z)))) p e s m args below meth c cs ss Q R A hG _ _ _ hl hP hS
  | lt =>
    refine lv_icmp_lt hx hb hd (nw_tgt ho) (fun q => ?_) (fun q => ?_)
    · exact hk _ _ _ _ (h.1 (by first | exact ee.mp q | exact (fun z => q (ee.mpr z)) | exact el.mp q | exact el'.mp q | exact ef.mp q | exact ef'.mp q)) p e s m args below meth c cs ss Q R A hG _ _ _ hl hP hS
    · exact hk _ _ _ _ (h.2 (by first | exact ee.mp q | exact ee.mp (Classical.not_not.mp q) | exact (fun z => q (ee.mpr z)) | exact Int.not_lt.mp (fun z => q (el.mpr z)) | exact Int.not_lt.mp (fun z => q (el'.mpr z)) | exact Int.not_le.mp (fun z => q (ef.mpr z)) | exact Int.not_le.mp (fun z => q (ef'.mpr z)))) p e s m args below meth c cs ss Q R A hG _ _ _ hl hP hS
  | ge =>
    refine lv_icmp_ge hx hb hd (nw_tgt ho) (fun q => ?_) (fun q => ?_)
    · exact hk _ _ _ _ (h.1 (by first | exact ee.mp q | exact (fun z => q (ee.mpr z)) | exact el.mp q | exact el'.mp q | exact ef.mp q | exact ef'.mp q)) p e s m args below meth c cs ss Q R A hG _ _ _ hl hP hS
    · exact hk _ _ _ _ (h.2 (by first | exact ee.mp q | exact ee.mp (Classical.not_not.mp q) | exact (fun z => q (ee.mpr z)) | exact Int.not_lt.mp (fun z => q (el.mpr z)) | exact Int.not_lt.mp (fun z => q (el'.mpr z)) | exact Int.not_le.mp (fun z => q (ef.mpr z)) | exact Int.not_le.mp (fun z => q (ef'.mpr z)))) p e s m args below meth c cs ss Q R A hG _ _ _ hl hP hS
  | gt =>
    refine lv_icmp_gt hx hb hd (nw_tgt ho) (fun q => ?_) (fun q => ?_)
    · exact hk _ _ _ _ (h.1 (by first | exact ee.mp q | exact (fun z => q (ee.mpr z)) | exact el.mp q | exact el'.mp q | exact ef.mp q | exact ef'.mp q)) p e s m args below meth c cs ss Q R A hG _ _ _ hl hP hS
    · exact hk _ _ _ _ (h.2 (by first | exact ee.mp q | exact ee.mp (Classical.not_not.mp q) | exact (fun z => q (ee.mpr z)) | exact Int.not_lt.mp (fun z => q (el.mpr z)) | exact Int.not_lt.mp (fun z => q (el'.mpr z)) | exact Int.not_le.mp (fun z => q (ef.mpr z)) | exact Int.not_le.mp (fun z => q (ef'.mpr z)))) p e s m args below meth c cs ss Q R A hG _ _ _ hl hP hS
  | le =>
    refine lv_icmp_le hx hb hd (nw_tgt ho) (fun q => ?_) (fun q => ?_)
    · exact hk _ _ _ _ (h.1 (by first | exact ee.mp q | exact (fun z => q (ee.mpr z)) | exact el.mp q | exact el'.mp q | exact ef.mp q | exact ef'.mp q)) p e s m args below meth c cs ss Q R A hG _ _ _ hl hP hS
    · exact hk _ _ _ _ (h.2 (by first | exact ee.mp q | exact ee.mp (Classical.not_not.mp q) | exact (fun z => q (ee.mpr z)) | exact Int.not_lt.mp (fun z => q (el.mpr z)) | exact Int.not_lt.mp (fun z => q (el'.mpr z)) | exact Int.not_le.mp (fun z => q (ef.mpr z)) | exact Int.not_le.mp (fun z => q (ef'.mpr z)))) p e s m args below meth c cs ss Q R A hG _ _ _ hl hP hS
theorem nw_sw_at {a : Int} {kk : Nat → Prop} {lo : Int} {offs : List Int} (h : nw_sw a kk pc lo offs) {j : Nat} {o : Int} (hj : offs[j]? = some o) (ha : a = lo + j) : kk (nw_tg pc o) := by
  induction offs generalizing lo j with
  | nil => simp at hj
  | cons x r ih =>
    cases j with
    | zero =>
      simp at hj
      subst hj
      exact h.1 (by omega)
    | succ j =>
      simp at hj
      exact ih h.2 hj (by omega)
theorem nw_s_tableswitch {d lo hi : Int} {offs : Array Int} {len : Nat} (hj : 0 ≤ (pc : Int) + d ∧ ∀ o ∈ offs.toList, 0 ≤ (pc : Int) + o) (hk : ∀ a b c d, k a b c d → nw_V G μ Ψ a b c d) (hd : decode (nw_B μ) pc = .ok (.tableswitch d lo hi offs, len)) (h : nw_step G μ Ψ (.tableswitch d lo hi offs) pc ls st σ k) : nw_V G μ Ψ pc ls st σ := by
  intro p e s m args below meth c cs ss Q R A hG H locs la hl hP hS
  obtain ⟨hx, hb, hml, hown, hts, hK, hI, hfr, hlo, hce, hsl, hA, hret, hlaw⟩ := id hG
  obtain ⟨a, r, rfl, h⟩ := nw_pI_el h
  obtain ⟨h0, ha, h1, h2⟩ := nw_if_el h
  have h0 : hi = lo + (offs.toList.length : Int) - 1 := by simpa using h0
  have hai := nw_toInt ha
  by_cases hq : a < lo ∨ hi < a
  · refine lv_tableOut hx hb hd (by rw [hai]; exact hq) (nw_tgt hj.1) ?_
    have h := h1 hq
    exact hk _ _ _ _ h p e s m args below meth c cs ss Q R A hG _ _ _ hl hP hS
  · have hlt : (a - lo).toNat < offs.toList.length := by omega
    have hget : offs.toList[(a - lo).toNat]? = some offs.toList[(a - lo).toNat] := List.getElem?_eq_getElem hlt
    have hget2 : offs[(a - lo).toNat]? = some offs.toList[(a - lo).toNat] := by rw [← Array.getElem?_toList]; exact hget
    refine lv_tableIn hx hb hd (by rw [hai]; omega) (by rw [hai]; omega) (by rw [hai]; exact hget2) (nw_tgt (hj.2 _ (List.getElem_mem hlt))) ?_
    have h := nw_sw_at h2 hget (by omega)
    exact hk _ _ _ _ h p e s m args below meth c cs ss Q R A hG _ _ _ hl hP hS
end NWS
end
section
section NWH
variable {G : nw_G} {μ : Nat} {Ψ : Option Int → nw_S → Prop} {pc : Nat} {ls : nw_L} {st : List nw_v} {σ : nw_S}
variable {k : Nat → nw_L → List nw_v → nw_S → Prop}
theorem nw_mo {μ : Nat} (h : μ < 119) : nw_mOK μ = true := List.all_eq_true.mp nw_m_ok μ (List.mem_range.mpr h)
theorem nw_shp_n {q n : Nat} {z : Bool} (h : nw_shp[q]? = some (.inl (n, z))) : n < 2147483648 := by
  have h0 : nw_shp.all (fun x => match x with
    | .inl (n, _) => Nat.blt n 2147483648
    | _ => true) = true := by decide +kernel
  have h1 := List.all_eq_true.mp h0 _ (List.mem_of_getElem? h)
  exact Nat.le_of_ble_eq_true h1
theorem nw_fld {q ci j f : Nat} {fs : List Nat} (h1 : fs[j]? = some f) : (fs.mapIdx (fun j f => if f < 2 then Value.int (Int32.ofInt (σ q j)) else .ref (nw_ad G (f - 2))))[j]? = some (if f < 2 then Value.int (Int32.ofInt (σ q j)) else .ref (nw_ad G (f - 2))) := by
  simp [List.getElem?_mapIdx, h1]
theorem nw_s_getfield {idx : Nat} (hk : ∀ a b c d, k a b c d → nw_V G μ Ψ a b c d) (hd : decode (nw_B μ) pc = .ok (.getfield idx, 3)) (h__0 : nw_step G μ Ψ (.getfield idx) pc ls st σ k) : nw_V G μ Ψ pc ls st σ := by
  intro p e s m args below meth c cs ss Q R A hG H locs la hl hP hS
  obtain ⟨hx, hb, hml, hown, hts, hK, hI, hfr, hlo, hce, hsl, hA, hret, hlaw⟩ := id hG
  obtain ⟨q, r, rfl, h__1⟩ := nw_pR_el h__0
  obtain ⟨⟨ci0, j, t⟩, h1, h__2⟩ := nw_oS_el h__1
  obtain ⟨ci, fs, h2, h__3⟩ := nw_sO_el h__2
  obtain ⟨h3, h__4⟩ := nw_if_el h__3
  obtain ⟨f, h4, h__5⟩ := nw_oS_el h__4
  have h3 : ci = ci0 := Nat.eq_of_beq_eq_true h3
  subst h3
  obtain ⟨C, T, N, g1, g2, g3, -, -⟩ := nw_f_ok _ _ (nw_look h1)
  dsimp only at g1 g2 g3 h4 h__5
  have hv := nw_fld (G := G) (σ := σ) (q := q) (ci := ci) h4
  refine va_get (D := G.2.1) (ci := ci) (C := C) (T := T) (N := N) hx hb hts (nw_kinds g1).1 hown hK.1 hP q (nw_w_at h2) g1 j g2 (hts _ g3) (fun _ h9 => h9) hv hd ?_
  match f, h__5 with
  | 0, h__5 => exact hk _ _ _ _ h__5 p e s m args below meth c cs ss Q R A hG _ _ _ hl hP hS
  | 1, h__5 => exact hk _ _ _ _ h__5 p e s m args below meth c cs ss Q R A hG _ _ _ hl hP hS
  | t + 2, h__5 => exact hk _ _ _ _ h__5 p e s m args below meth c cs ss Q R A hG _ _ _ hl hP hS
theorem nw_s_putfield {idx : Nat} (hk : ∀ a b c d, k a b c d → nw_V G μ Ψ a b c d) (hd : decode (nw_B μ) pc = .ok (.putfield idx, 3)) (h__0 : nw_step G μ Ψ (.putfield idx) pc ls st σ k) : nw_V G μ Ψ pc ls st σ := by
  intro p e s m args below meth c cs ss Q R A hG H locs la hl hP hS
  obtain ⟨hx, hb, hml, hown, hts, hK, hI, hfr, hlo, hce, hsl, hA, hret, hlaw⟩ := id hG
  obtain ⟨v, r, rfl, h__1⟩ := nw_pI_el h__0
  obtain ⟨q, r, rfl, h__2⟩ := nw_pR_el h__1
  obtain ⟨⟨ci0, j, t⟩, h1, h__3⟩ := nw_oS_el h__2
  obtain ⟨ci, fs, h2, h__4⟩ := nw_sO_el h__3
  obtain ⟨h3, h__5⟩ := nw_if_el h__4
  obtain ⟨f, h4, h__6⟩ := nw_oS_el h__5
  obtain ⟨h5, h__7⟩ := nw_if_el h__6
  have e3 : ci = ci0 := Nat.eq_of_beq_eq_true h3
  have e5 : f = t := Nat.eq_of_beq_eq_true h5
  subst e3
  subst e5
  obtain ⟨C, T, N, g1, g2, g3, g4, g5⟩ := nw_f_ok _ _ (nw_look h1)
  dsimp only at g1 g2 g3 g4 g5 h4 h__7
  obtain ⟨k1, ⟨ty0, k2⟩, k3⟩ := nw_kinds g1
  have hlen : j < (fs.mapIdx (fun j f => if f < 2 then Value.int (Int32.ofInt (σ q j)) else .ref (nw_ad G (f - 2)))).length := by simpa using (List.getElem?_eq_some_iff.mp h4).1
  match f, h__7, h4, g4, g5 with
  | 0, h__7, h4, g4, _ =>
    obtain ⟨d1, d2⟩ := g4 rfl
    refine va_put (D := G.2.1) (ci := ci) (C := C) (T := T) (N := N) (ty := .int) (v := Value.int (Int32.ofInt v)) hx hb hts k1 ty0 k2 k3 hown hK.1 hP (nw_w_D hI hA) hS q (nw_w_at h2) g1 j g2 (hts _ g3) (fun _ h9 => h9) d2 (by rw [d1]; decide) (vp_nar_int _) rfl hlen hd (fun H1 locs1 hP1 _ hS1 => ?_)
    rw [← nw_e_fld h4 (by decide), ← nw_w_set h2] at hP1
    exact hk _ _ _ _ h__7 p e s m args below meth c cs ss Q R A hG _ _ _ hl hP1 hS1
  | 1, h__7, h4, _, g5 =>
    obtain ⟨d1, d2⟩ := g5 rfl
    obtain ⟨hv, h__8⟩ := h__7
    refine va_put (D := G.2.1) (ci := ci) (C := C) (T := T) (N := N) (ty := .boolean) (v := Value.int (Int32.ofInt v)) hx hb hts k1 ty0 k2 k3 hown hK.1 hP (nw_w_D hI hA) hS q (nw_w_at h2) g1 j g2 (hts _ g3) (fun _ h9 => h9) d2 (by rw [d1]; decide) (by rcases hv with rfl | rfl <;> decide) (by rcases hv with rfl | rfl <;> decide) hlen hd (fun H1 locs1 hP1 _ hS1 => ?_)
    rw [← nw_e_fld h4 (by decide), ← nw_w_set h2] at hP1
    exact hk _ _ _ _ h__8 p e s m args below meth c cs ss Q R A hG _ _ _ hl hP1 hS1
  | t + 2, h__8, _, _, _ => exact h__8.elim
theorem nw_s_iaload (hk : ∀ a b c d, k a b c d → nw_V G μ Ψ a b c d) (hd : decode (nw_B μ) pc = .ok (.iaload, 1)) (h__0 : nw_step G μ Ψ (.iaload) pc ls st σ k) : nw_V G μ Ψ pc ls st σ := by
  intro p e s m args below meth c cs ss Q R A hG H locs la hl hP hS
  obtain ⟨hx, hb, hml, hown, hts, hK, hI, hfr, hlo, hce, hsl, hA, hret, hlaw⟩ := id hG
  obtain ⟨j, r, rfl, h__1⟩ := nw_pI_el h__0
  obtain ⟨q, r, rfl, h__2⟩ := nw_pR_el h__1
  cases hq : Nat.beq q 38 with
  | true =>
    rw [hq] at h__2
    obtain ⟨h1, hj, h__3⟩ := nw_if_el h__2
    have hq2 : q = 38 := Nat.eq_of_beq_eq_true hq
    have e0 : μ = 118 := Nat.eq_of_beq_eq_true h1
    subst hq2
    obtain ⟨hX, hXl, hXA, hXn⟩ := hlaw e0
    obtain ⟨e1, e2⟩ := nw_vpin hj hXn
    refine va_sld hx hb hX hXl hXA hS e1 hd ?_
    rw [e2, ← Int32.ofInt_toInt (nw_xs G j.toNat)]
    exact hk _ _ _ _ h__3 p e s m args below meth c cs ss Q R A hG _ _ _ hl hP hS
  | false =>
    rw [hq] at h__2
    obtain ⟨n, z, h1, hh⟩ := nw_sA_el h__2
    obtain ⟨h2, hj, hhh⟩ := nw_if_el hh
    have e3 : z = false := by simpa using h2
    subst e3
    obtain ⟨e1, e2⟩ := nw_vpin hj (nw_shp_n h1)
    refine va_iald hx hb (hK.arr h1) hP q 0 (nw_w_at h1) rfl e1 hd ?_
    rw [e2]
    exact hk _ _ _ _ hhh p e s m args below meth c cs ss Q R A hG _ _ _ hl hP hS
theorem nw_s_baload (hk : ∀ a b c d, k a b c d → nw_V G μ Ψ a b c d) (hd : decode (nw_B μ) pc = .ok (.baload, 1)) (h__0 : nw_step G μ Ψ (.baload) pc ls st σ k) : nw_V G μ Ψ pc ls st σ := by
  intro p e s m args below meth c cs ss Q R A hG H locs la hl hP hS
  obtain ⟨hx, hb, hml, hown, hts, hK, hI, hfr, hlo, hce, hsl, hA, hret, hlaw⟩ := id hG
  obtain ⟨j, r, rfl, h__1⟩ := nw_pI_el h__0
  obtain ⟨q, r, rfl, h__2⟩ := nw_pR_el h__1
  obtain ⟨n, z, h1, h__3⟩ := nw_sA_el h__2
  obtain ⟨h2, hj, h__4⟩ := nw_if_el h__3
  subst h2
  obtain ⟨e1, e2⟩ := nw_vpin hj (nw_shp_n h1)
  refine va_zald hx hb (hK.arr h1) hP q 0 (nw_w_at h1) rfl e1 hd ?_
  rw [e2]
  exact hk _ _ _ _ h__4 p e s m args below meth c cs ss Q R A hG _ _ _ hl hP hS
theorem nw_s_iastore (hk : ∀ a b c d, k a b c d → nw_V G μ Ψ a b c d) (hd : decode (nw_B μ) pc = .ok (.iastore, 1)) (h__0 : nw_step G μ Ψ (.iastore) pc ls st σ k) : nw_V G μ Ψ pc ls st σ := by
  intro p e s m args below meth c cs ss Q R A hG H locs la hl hP hS
  obtain ⟨hx, hb, hml, hown, hts, hK, hI, hfr, hlo, hce, hsl, hA, hret, hlaw⟩ := id hG
  obtain ⟨v, r, rfl, h__1⟩ := nw_pI_el h__0
  obtain ⟨j, r, rfl, h__2⟩ := nw_pI_el h__1
  obtain ⟨q, r, rfl, h__3⟩ := nw_pR_el h__2
  obtain ⟨n, z, h1, h__4⟩ := nw_sA_el h__3
  obtain ⟨h2, hj, h__5⟩ := nw_if_el h__4
  have e3 : z = false := by simpa using h2
  subst e3
  obtain ⟨e1, e2⟩ := nw_vpin hj (nw_shp_n h1)
  refine va_iast hx hb (hK.arr h1) hP (nw_w_D hI hA) hS q 0 (nw_w_at h1) rfl e1 hd (fun H1 locs1 hP1 _ hS1 => ?_)
  rw [e2, ← nw_e_arr (z := false), ← nw_w_set h1] at hP1
  exact hk _ _ _ _ h__5 p e s m args below meth c cs ss Q R A hG _ _ _ hl hP1 hS1
theorem nw_s_bastore (hk : ∀ a b c d, k a b c d → nw_V G μ Ψ a b c d) (hd : decode (nw_B μ) pc = .ok (.bastore, 1)) (h__0 : nw_step G μ Ψ (.bastore) pc ls st σ k) : nw_V G μ Ψ pc ls st σ := by
  intro p e s m args below meth c cs ss Q R A hG H locs la hl hP hS
  obtain ⟨hx, hb, hml, hown, hts, hK, hI, hfr, hlo, hce, hsl, hA, hret, hlaw⟩ := id hG
  obtain ⟨v, r, rfl, h__1⟩ := nw_pI_el h__0
  obtain ⟨j, r, rfl, h__2⟩ := nw_pI_el h__1
  obtain ⟨q, r, rfl, h__3⟩ := nw_pR_el h__2
  obtain ⟨n, z, h1, h__4⟩ := nw_sA_el h__3
  obtain ⟨h2, hj, hv, h__5⟩ := nw_if_el h__4
  subst h2
  obtain ⟨e1, e2⟩ := nw_vpin hj (nw_shp_n h1)
  refine va_zast hx hb (hK.arr h1) hP (nw_w_D hI hA) hS q 0 (nw_w_at h1) rfl e1 hd (fun H1 locs1 hP1 _ hS1 => ?_)
  rw [e2, show vp_nar .boolean (Int32.ofInt v) = Int32.ofInt v from by rcases hv with rfl | rfl <;> decide, ← nw_e_arr (z := true), ← nw_w_set h1] at hP1
  exact hk _ _ _ _ h__5 p e s m args below meth c cs ss Q R A hG _ _ _ hl hP1 hS1
theorem nw_s_arraylength (hk : ∀ a b c d, k a b c d → nw_V G μ Ψ a b c d) (hd : decode (nw_B μ) pc = .ok (.arraylength, 1)) (h__0 : nw_step G μ Ψ (.arraylength) pc ls st σ k) : nw_V G μ Ψ pc ls st σ := by
  intro p e s m args below meth c cs ss Q R A hG H locs la hl hP hS
  obtain ⟨hx, hb, hml, hown, hts, hK, hI, hfr, hlo, hce, hsl, hA, hret, hlaw⟩ := id hG
  obtain ⟨q, r, rfl, h__1⟩ := nw_pR_el h__0
  obtain ⟨h1, h__2⟩ := nw_if_el h__1
  simp only [Bool.and_eq_true] at h1
  have hq : q = 38 := Nat.eq_of_beq_eq_true h1.1
  have e1 : μ = 118 := Nat.eq_of_beq_eq_true h1.2
  subst hq
  obtain ⟨hX, hXl, hXA, hXn⟩ := hlaw e1
  refine va_slen hx hb hX hXl hXA hS hd ?_
  rw [← Int32.ofInt_eq_ofNat]
  exact hk _ _ _ _ h__2 p e s m args below meth c cs ss Q R A hG _ _ _ hl hP hS
theorem nw_s_ireturn (hd : decode (nw_B μ) pc = .ok (.ireturn, 1)) (h : nw_step G μ Ψ .ireturn pc ls st σ k) : nw_V G μ Ψ pc ls st σ := by
  intro p e s m args below meth c cs ss Q R A hG H locs la hl hP hS
  obtain ⟨hx, hb, hml, hown, hts, hK, hI, hfr, hlo, hce, hsl, hA, hret, hlaw⟩ := id hG
  match st, h with
  | [.inr v], h =>
    have h : (match nw_Rt μ with
      | some .int => Ψ (some v) σ
      | some .boolean => (v = 0 ∨ v = 1) ∧ Ψ (some v) σ
      | _ => False) := h
    refine hret (some v) σ H locs pc la ?_ ?_ hP hS hd
    · split at h
      · rename_i hR; rw [hR]; trivial
      · rename_i hR; rw [hR]; exact h.1
      · exact h.elim
    · split at h
      · exact h
      · exact h.2
      · exact h.elim
theorem nw_s_return (hd : decode (nw_B μ) pc = .ok (.return_, 1)) (h : nw_step G μ Ψ .return_ pc ls st σ k) : nw_V G μ Ψ pc ls st σ := by
  intro p e s m args below meth c cs ss Q R A hG H locs la hl hP hS
  obtain ⟨hx, hb, hml, hown, hts, hK, hI, hfr, hlo, hce, hsl, hA, hret, hlaw⟩ := id hG
  match st, h with
  | [], h =>
    have h : (match nw_Rt μ with
      | none => Ψ none σ
      | some _ => False) := h
    refine hret none σ H locs pc la ?_ ?_ hP hS hd
    · split at h
      · rename_i hR; rw [hR]; trivial
      · exact h.elim
    · split at h
      · exact h
      · exact h.elim
theorem nw_blind {args : List nw_v} {σ : nw_S} : FrameBlind (va_Pc (args.map (nw_cv G)) (fun U => nw_P G σ U.heap ∧ nw_K G U ∧ nw_I G)) := by
  intro a U g mk q
  obtain ⟨q1, q2, q3, q4⟩ := q
  exact ⟨q1, q2, nw_K.moved (u := U) (U := U.calling g mk a) (Vm.Alike.refl U.vm) q3, q4⟩
theorem nw_ca_el {n : Nat} {f : List nw_v → List nw_v → Prop} (h : nw_ca st n f) : ∃ as r, st = as.reverse ++ r ∧ as.length = n ∧ r.length ≤ 8 ∧ f as r := by
  obtain ⟨h1, h⟩ := nw_if_el h
  simp only [Bool.and_eq_true] at h1
  have h2 := Nat.le_of_ble_eq_true h1.1
  exact ⟨(st.take n).reverse, st.drop n, by simp, by simp [h2], Nat.le_of_ble_eq_true h1.2, h⟩
/-- behind a call, by the answer's kind -/
theorem nw_after {p : Program} {e : Env} {R : Room} {s : State} {m : MethodId} {args : Array Value} {below : List Frame} {meth : Method} {c : Code} {H : Heap} {locs : List Loc} {cs ss : Nat} {Q : State → Prop} {la : Array Slot} {st0 : List Value} {A : Nat → Prop} {ν : Nat} {Φ : Option Int → nw_S → Prop} {a : Array Value} {r : List nw_v}
    (hr : va_Run p G.1 e R s m args below meth c H locs cs ss 0 0 (F0 m pc la st0) (r.map (nw_cv G)) (nw_mQ G ν Φ a) (nw_A G)) (hS : va_S A s.heap H locs) (hA : ∀ k, k < 38 → A (nw_ad G k))
    (kk : ∀ (o : Option Int) (u : nw_S) (H1 : Heap) (locs1 : List Loc), Φ o u → nw_P G u H1 → va_S A s.heap H1 locs1 → W p G.1 e R s m args below meth c H1 locs1 cs ss Q (F0 m (pc + 3) la ((nw_ro o r).map (nw_cv G)))) : W p G.1 e R s m args below meth c H locs cs ss Q (F0 m pc la st0) := by
  have hA1 : ∀ q, nw_A G q → A q := by
    rintro q ⟨k, hk, rfl⟩
    exact hA k hk
  unfold nw_mQ at hr
  rcases Option.eq_none_or_eq_some (nw_Rt ν) with hR | ⟨ty, hR⟩
  · rw [hR] at hr
    refine va_callv hr hS (fun q _ h => hA1 q h) hA1 (fun u t H1 locs1 ht hvm hp hB hz hk hS1 => ?_)
    obtain ⟨hB1, -⟩ := hB
    rw [ht] at hB1
    exact kk none u H1 locs1 hp hB1 hS1
  · rw [hR] at hr
    refine va_calli hr hS (fun q _ h => hA1 q h) hA1 (fun v u t H1 locs1 ht hvm hp hB hz hk hS1 => ?_)
    obtain ⟨hB1, -⟩ := hB
    obtain ⟨rfl, hp⟩ := hp
    rw [ht] at hB1
    exact kk (some u.1) u.2 H1 locs1 hp hB1 hS1
theorem nw_cb {R : Room} {s : State} {args : Array Value} {i idx ν : Nat} (hts : ∀ w ∈ nw_tb, w.before args s = true) (hc : nw_cOK i (idx, ν)) (hlv : nw_Lv ν + 1 ≤ R.frames) (hlo : 34 * (nw_Lv ν + 1) ≤ R.locals) : CallB R s args (nw_own i) idx (nw_Y ν) (nw_B ν) (nw_mL ν) (nw_Rt ν) (nw_W ν) (nw_rm ν) 0 0 (nw_N ν) := by
  obtain ⟨h1, h2, h3, h4, -, -⟩ := hc
  have hm := nw_mo (μ := ν) (Nat.lt_succ_of_lt h1)
  simp only [nw_mOK, Bool.and_eq_true, decide_eq_true_eq] at hm
  obtain ⟨⟨⟨-, m2⟩, m3⟩, m4⟩ := hm
  have m2 := Nat.le_of_ble_eq_true m2
  refine callB_of (Ts := nw_tb) (ws' := nw_tb) (nw_N ν) hts ?_ rfl rfl rfl (hts _ h4) (hts _ h2) ⟨m3.1, m3.2, m4⟩ ⟨hlv, ?_⟩
  · intro w hw
    have hw2 : w ∈ nw_tb := by
      rcases List.mem_cons.mp hw with rfl | hw
      · exact h3
      · exact hw
    exact ⟨hw2, good_of_word (List.mem_filter.mp hw2).2⟩
  · show 8 + (nw_mL ν + 11) + 34 * nw_Lv ν ≤ R.locals
    omega
theorem nw_s_invokevirtual {idx : Nat} (hk : ∀ a b c d, k a b c d → nw_V G μ Ψ a b c d) (hd : decode (nw_B μ) pc = .ok (.invokevirtual idx, 3)) (h__0 : nw_step G μ Ψ (.invokevirtual idx) pc ls st σ k) : nw_V G μ Ψ pc ls st σ := by
  intro p e s m args below meth c cs ss Q R A hG H locs la hl hP hS
  obtain ⟨hx, hb, hml, hown, hts, hK, hI, hfr, hlo, hce, hsl, hA, hret, hlaw⟩ := id hG
  obtain ⟨ν, h1, h__1⟩ := nw_oS_el h__0
  obtain ⟨h2, h__2⟩ := nw_if_el h__1
  obtain ⟨as, r, rfl, h3, h4, h__3⟩ := nw_ca_el h__2
  obtain ⟨q, as, rfl, h__4⟩ := nw_pR_el h__3
  obtain ⟨ci, fs, h5, h__5⟩ := nw_sO_el h__4
  obtain ⟨h6, h__6⟩ := nw_if_el h__5
  obtain ⟨Φ, hΦ, hM⟩ := nw_Tr_el h__6
  have h6 : ci = nw_C ν := Nat.eq_of_beq_eq_true h6
  simp only [Bool.and_eq_true, Bool.not_eq_true'] at h2
  have hlv := Nat.le_of_ble_eq_true h2.2
  have hc := nw_c_ok _ _ (nw_look h1)
  have hcb := nw_cb (R := R) hts hc (by omega) (by omega)
  obtain ⟨g1, g2, g3, g4, -, g5⟩ := hc
  obtain ⟨g6, g7, T, N, g8⟩ := g5 h2.1
  dsimp only at g8 g6 g7
  subst h6
  have hrv := va_recv (q0 := q) hK.1 hP g8 (nw_w_at h5)
  refine nw_after (r := r) (Φ := Φ) (va_runV (As := as.map (nw_cv G)) (rest := r.map (nw_cv G)) (C := (nw_Y ν).cls) (b := nw_ad G q) ⟨hx, hb, hml, hown, hts⟩ hM ⟨hcb, hts _ g6, hts _ g7⟩ ⟨nw_blind, hrv, fun U hU hW => ⟨rfl, by rw [hU]; exact hP, nw_K.moved hW.alike hK, hI⟩⟩ rfl ?_ hl.1 ?_ (lv_room (nw_room h4)) hd ⟨by omega, by omega⟩) hS hA (fun o u H1 locs1 hp hP1 hS1 => ?_)
  · simpa using h3
  · simp [nw_cv]
  · exact hk _ _ _ _ (hΦ _ _ hp) p e s m args below meth c cs ss Q R A hG _ _ _ hl hP1 hS1
theorem nw_s_invokestatic {idx : Nat} (hk : ∀ a b c d, k a b c d → nw_V G μ Ψ a b c d) (hd : decode (nw_B μ) pc = .ok (.invokestatic idx, 3)) (h__0 : nw_step G μ Ψ (.invokestatic idx) pc ls st σ k) : nw_V G μ Ψ pc ls st σ := by
  intro p e s m args below meth c cs ss Q R A hG H locs la hl hP hS
  obtain ⟨hx, hb, hml, hown, hts, hK, hI, hfr, hlo, hce, hsl, hA, hret, hlaw⟩ := id hG
  obtain ⟨ν, h1, h__1⟩ := nw_oS_el h__0
  have hc := nw_c_ok _ _ (nw_look h1)
  split at h__1
  · rename_i _ _ e1
    have e2 : ν = 116 := Nat.eq_of_beq_eq_true (by assumption)
    subst e2
    obtain ⟨a, r, rfl, h__2⟩ := nw_pI_el h__1
    obtain ⟨h2, ha, h__3⟩ := nw_if_el h__2
    simp only [Bool.and_eq_true] at h2
    have h3 := Nat.le_of_ble_eq_true h2.1
    have h4 := nw_room (G := G) (Nat.le_of_ble_eq_true h2.2)
    obtain ⟨-, g2, g3, g4, g5, -⟩ := hc
    refine va_mabs hx hb (hml.trans hl.1.symm) hown (hts _ g2) (hts _ (g5 rfl)) (hts _ g4) (hts _ g3) (by omega) (by omega) hce hsl hd ?_
    rw [show (if 0 ≤ Int32.ofInt a then Int32.ofInt a else 0 - Int32.ofInt a) = Int32.ofInt (if 0 ≤ a then a else 0 - a) from ?_]
    · exact hk _ _ _ _ h__3 p e s m args below meth c cs ss Q R A hG _ _ _ hl hP hS
    · have hz := nw_of_le (a := 0) (b := a) ⟨by decide, by decide⟩ ha
      rw [show Int32.ofInt 0 = 0 from rfl] at hz
      by_cases q : 0 ≤ a
      · rw [if_pos (hz.mpr q), if_pos q]
      · rw [if_neg (fun z => q (hz.mp z)), if_neg q, Int32.ofInt_sub]
        rfl
  · have e2 : ν = 117 := Nat.eq_of_beq_eq_true (by assumption)
    subst e2
    obtain ⟨b, r, rfl, h__2⟩ := nw_pI_el h__1
    obtain ⟨a, r, rfl, h__3⟩ := nw_pI_el h__2
    obtain ⟨h2, ha, hb2, h__4⟩ := nw_if_el h__3
    simp only [Bool.and_eq_true] at h2
    have h3 := Nat.le_of_ble_eq_true h2.1
    have h4 := nw_room (G := G) (Nat.le_of_ble_eq_true h2.2)
    obtain ⟨-, g2, g3, g4, g5, -⟩ := hc
    refine va_mmax hx hb (hml.trans hl.1.symm) hown (hts _ g2) (hts _ (g5 rfl)) (hts _ g4) (hts _ g3) (by omega) (by omega) hce hsl hd ?_
    rw [show (if Int32.ofInt a < Int32.ofInt b then Int32.ofInt b else Int32.ofInt a) = Int32.ofInt (if a < b then b else a) from ?_]
    · exact hk _ _ _ _ h__4 p e s m args below meth c cs ss Q R A hG _ _ _ hl hP hS
    · have hz := nw_of_lt ha hb2
      by_cases q : a < b
      · rw [if_pos (hz.mpr q), if_pos q]
      · rw [if_neg (fun z => q (hz.mp z)), if_neg q]
  · obtain ⟨h2, h__2⟩ := nw_if_el h__1
    obtain ⟨as, r, rfl, h3, h4, h__3⟩ := nw_ca_el h__2
    obtain ⟨Φ, hΦ, hM⟩ := nw_Tr_el h__3
    simp only [Bool.and_eq_true] at h2
    have hlv := Nat.le_of_ble_eq_true h2.2
    have hcb := nw_cb (R := R) hts hc (by omega) (by omega)
    obtain ⟨-, -, -, -, g5, -⟩ := hc
    refine nw_after (r := r) (Φ := Φ) (va_runS (As := as.map (nw_cv G)) (rest := r.map (nw_cv G)) ⟨hx, hb, hml, hown, hts⟩ hM ⟨hcb, hts _ (g5 h2.1)⟩ ⟨nw_blind, fun U hU hW => ⟨rfl, by rw [hU]; exact hP, nw_K.moved hW.alike hK, hI⟩⟩ rfl ?_ hl.1 ?_ (lv_room (nw_room h4)) hd ⟨by omega, by omega⟩) hS hA (fun o u H1 locs1 hp hP1 hS1 => ?_)
    · simpa using h3
    · simp
    · exact hk _ _ _ _ (hΦ _ _ hp) p e s m args below meth c cs ss Q R A hG _ _ _ hl hP1 hS1
end NWH
end
section
section NWR
variable {G : nw_G} {μ : Nat} {Ψ : Option Int → nw_S → Prop} {pc : Nat} {ls : nw_L} {st : List nw_v} {σ : nw_S}
variable {k : Nat → nw_L → List nw_v → nw_S → Prop}
theorem nw_sound {cd : List (List (Option Instr))} (hc : nw_codes[μ]? = some cd) {i : Instr} (hf : nw_fe cd pc = some i) (hk : ∀ a b c d, k a b c d → nw_V G μ Ψ a b c d) (h : nw_step G μ Ψ i pc ls st σ k) : nw_V G μ Ψ pc ls st σ := by
  have hck := nw_ckc_sp (nw_code_ok hc) hf
  unfold nw_ck at hck
  cases hdd : decode (nw_B μ) pc with
  | error x => rw [hdd] at hck; cases hck
  | ok y =>
    obtain ⟨i', n⟩ := y
    rw [hdd] at hck
    simp only [Bool.and_eq_true, Bool.or_eq_true, decide_eq_true_eq] at hck
    obtain ⟨⟨rfl, h1⟩, h2⟩ := hck
    by_cases hsw : nw_isw i' = true
    · cases i' <;> first
        | (exact absurd hsw Bool.false_ne_true)
        | skip
      rename_i d lo hi offs
      simp only [nw_jo, Bool.and_eq_true, decide_eq_true_eq, List.all_eq_true] at h2
      exact nw_s_tableswitch ⟨h2.1, fun o ho => h2.2 o ho⟩ hk hdd h
    · have h1 : n = nw_ln i' := by
        rcases h1 with h1 | h1
        · exact absurd h1 hsw
        · exact Nat.eq_of_beq_eq_true h1
      subst h1
      cases i' <;> first
        | (exact False.elim h)
        | (exact nw_s_iconst hk hdd h)
        | (exact nw_s_bipush hk hdd h)
        | (exact nw_s_sipush hk hdd h)
        | (exact nw_s_ldc hk hdd h)
        | (exact nw_s_ldc_w hk hdd h)
        | (exact nw_s_iload_n hk hdd h)
        | (exact nw_s_iload hk hdd h)
        | (exact nw_s_aload_n hk hdd h)
        | (exact nw_s_aload hk hdd h)
        | (exact nw_s_istore_n hk hdd h)
        | (exact nw_s_istore hk hdd h)
        | (exact nw_s_astore_n hk hdd h)
        | (exact nw_s_astore hk hdd h)
        | (exact nw_s_iinc hk hdd h)
        | (exact nw_s_iadd hk hdd h)
        | (exact nw_s_isub hk hdd h)
        | (exact nw_s_imul hk hdd h)
        | (exact nw_s_ineg hk hdd h)
        | (exact nw_s_idiv hk hdd h)
        | (exact nw_s_irem hk hdd h)
        | (exact nw_s_iand hk hdd h)
        | (exact nw_s_ior hk hdd h)
        | (exact nw_s_ixor hk hdd h)
        | (exact nw_s_ishl hk hdd h)
        | (exact nw_s_ishr hk hdd h)
        | (exact nw_s_iushr hk hdd h)
        | (exact nw_s_dup hk hdd h)
        | (exact nw_s_dup2 hk hdd h)
        | (exact nw_s_getfield hk hdd h)
        | (exact nw_s_putfield hk hdd h)
        | (exact nw_s_iaload hk hdd h)
        | (exact nw_s_baload hk hdd h)
        | (exact nw_s_iastore hk hdd h)
        | (exact nw_s_bastore hk hdd h)
        | (exact nw_s_arraylength hk hdd h)
        | (exact nw_s_invokevirtual hk hdd h)
        | (exact nw_s_invokestatic hk hdd h)
        | (exact nw_s_ireturn hdd h)
        | (exact nw_s_return hdd h)
        | (exact nw_s_goto (by simpa [nw_jo] using h2) hk hdd h)
        | (exact nw_s_ifCond (by simpa [nw_jo] using h2) hk hdd h)
        | (exact nw_s_if_icmp (by simpa [nw_jo] using h2) hk hdd h)
        | (exact absurd rfl hsw)
def nw_fg : Nat → nw_L → nw_L
  | _, [] => []
  | 0, _ :: l => none :: nw_fg 0 l
  | n + 1, a :: l => a :: nw_fg n l
theorem nw_fg_at : ∀ (n : Nat) (l : nw_L) (i : Nat) (v : nw_v), (nw_fg n l)[i]? = some (some v) → l[i]? = some (some v)
  | _, [], i, v, h => by simp [nw_fg] at h
  | 0, a :: l, 0, v, h => by simp [nw_fg] at h
  | 0, a :: l, i + 1, v, h => by
    simp only [nw_fg, List.getElem?_cons_succ] at h ⊢
    exact nw_fg_at 0 l i v h
  | n + 1, a :: l, 0, v, h => by simpa [nw_fg] using h
  | n + 1, a :: l, i + 1, v, h => by
    simp only [nw_fg, List.getElem?_cons_succ] at h ⊢
    exact nw_fg_at n l i v h
theorem nw_V.weak {n : Nat} (h : nw_V G μ Ψ pc (nw_fg n ls) st σ) : nw_V G μ Ψ pc ls st σ := by
  intro p e s m args below meth c cs ss Q R A hG H locs la hl hP hS
  exact h p e s m args below meth c cs ss Q R A hG H locs la ⟨hl.1, hl.2.1, fun i v hi => hl.2.2 i v (nw_fg_at n ls i v hi)⟩ hP hS
def nw_wp (G : nw_G) (μ : Nat) (Ψ : Option Int → nw_S → Prop) (cd : List (List (Option Instr))) (cuts : List (Nat × Nat)) : Nat → Nat → nw_L → List nw_v → nw_S → Prop
  | 0, pc, ls, st, σ => nw_V G μ Ψ pc ls st σ
  | n + 1, pc, ls, st, σ => nw_oS (nw_fe cd pc) fun i => nw_step G μ Ψ i pc ls st σ (fun pc ls st σ => match cuts.lookup pc with
    | some j => nw_V G μ Ψ pc (nw_fg j ls) st σ
    | none => nw_wp G μ Ψ cd cuts n pc ls st σ)
theorem nw_run {cd : List (List (Option Instr))} (hc : nw_codes[μ]? = some cd) (cuts : List (Nat × Nat)) (n : Nat) (h : nw_wp G μ Ψ cd cuts n pc ls st σ) : nw_V G μ Ψ pc ls st σ := by
  induction n generalizing pc ls st σ with
  | zero => exact h
  | succ n ih =>
    obtain ⟨i, h1, h2⟩ := nw_oS_el h
    refine nw_sound hc h1 (fun a b c d hq => ?_) h2
    cases hx : cuts.lookup a with
    | some j => rw [hx] at hq; exact nw_V.weak hq
    | none => rw [hx] at hq; exact ih hq
theorem nw_args_mem (vs : List nw_v) (i j : Nat) (v : nw_v) (h : vs[j]? = some v) : (i + j, nw_cv G v) ∈ lv_args i (vs.map (nw_cv G)) := by
  induction vs generalizing i j with
  | nil => simp at h
  | cons a r ih =>
    show _ ∈ (i, nw_cv G a) :: lv_args (if (nw_cv G a).category = 2 then i + 2 else i + 1) (r.map (nw_cv G))
    rw [nw_cat, if_neg (by decide)]
    cases j with
    | zero =>
      simp at h
      subst h
      exact List.mem_cons_self
    | succ j =>
      rw [show i + (j + 1) = i + 1 + j from by omega]
      exact List.mem_cons_of_mem _ (ih (i + 1) j (by simpa using h))
theorem nw_sl_len (vs : List nw_v) : (lg_sl (vs.map (nw_cv G))).length = vs.length := by
  induction vs with
  | nil => rfl
  | cons a r ih =>
    cases a <;> simp [lg_sl, nw_cv, Value.category] at ih ⊢ <;> omega
theorem nw_Tm_of {ν : Nat} (hν : ν < 116) {args : List nw_v} (hn : args.length ≤ nw_mL ν) (h : nw_V G ν Ψ 0 (args.map some ++ List.replicate (nw_mL ν - args.length) none) [] σ) : nw_Tm G ν args σ Ψ := by
  refine ⟨Ψ, fun _ _ q => q, Met.ofW (cc := nw_B ν) (maxL := nw_mL ν) (ret := nw_Rt ν) (List.all_eq_true.mp nw_plain ν (List.mem_range.mpr hν)) rfl ?_⟩
  intro p e s m args' below meth c s₁ B hml hv
  obtain ⟨rfl, hP, hK, hI⟩ := hv
  have hts := atoms_spec (ws := nw_W ν) B.pre
  have hown : s.vm.findClass (nw_Y ν).cls = some m.cls := findClass_of_methodNamed B.named
  have hm := nw_mo (μ := ν) (by omega)
  simp only [nw_mOK, Bool.and_eq_true, decide_eq_true_eq] at hm
  rw [hm.1.1.1] at hown
  have hlocks := B.notSynchronized
  have hl := lv_entry (args.map (nw_cv G)) (n := nw_mL ν) (by rw [nw_sl_len]; exact hn)
  rw [lg_entry_eq]
  refine h p e s m _ below meth c 0 0 _ _ (nw_A G) ⟨B.exec, B.bytes, hml, hown, fun w hw => hts w (List.mem_cons_of_mem _ hw), hK, hI, Nat.le_refl _, Nat.le_refl _, Nat.zero_le _, Nat.zero_le _, fun k hk => ⟨k, hk, rfl⟩, ?_, fun q => by omega⟩ s.heap [] _ ?_ hP va_S.rf
  · intro r u H locs pc la hrk hΨ hP1 hS1 hd
    have hr := B.returns
    rcases hR : nw_Rt ν with _ | ty
    · rw [hR] at hr hrk
      cases r with
      | some v => exact hrk.elim
      | none =>
        refine W.vret B.exec B.bytes hr (fun t ht hW => ?_) hS1.2.2 hd
        unfold nw_mQ
        rw [hR]
        exact ⟨⟨u, rfl, hΨ, by rw [ht]; exact hP1, nw_K.moved hW.alike hK⟩, hS1.F ht⟩
    · rw [hR] at hr hrk
      cases r with
      | none => cases ty <;> exact hrk.elim
      | some v =>
        have hnar : narrow ty (.int (Int32.ofInt v)) = .int (Int32.ofInt v) := by
          cases ty <;> first
            | exact vp_nar_int _
            | (rcases hrk with rfl | rfl <;> decide)
            | exact hrk.elim
        refine W.zret B.exec B.bytes hr hnar (fun t ht hW => ?_) hS1.2.2 hd
        unfold nw_mQ
        rw [hR]
        exact ⟨⟨Int32.ofInt v, (v, u), rfl, ⟨rfl, hΨ⟩, by rw [ht]; exact hP1, nw_K.moved hW.alike hK⟩, hS1.F ht⟩
  · refine ⟨hl.1, hl.2.1, fun i v hi => ?_⟩
    have hlt : i < args.length := by
      rcases Nat.lt_or_ge i args.length with q | q
      · exact q
      · rw [List.getElem?_append_right (by simpa using q)] at hi
        have := List.getElem?_replicate (a := (none : Option nw_v)) (n := nw_mL ν - args.length) (i := i - (args.map some).length)
        rw [this] at hi
        split at hi <;> simp at hi
    rw [List.getElem?_append_left (by simpa using hlt), List.getElem?_map] at hi
    have h3 : args[i]? = some v := by
      cases hq : args[i]? with
      | none => rw [hq] at hi; simp at hi
      | some w => rw [hq] at hi; simpa using hi
    have := hl.2.2 _ (nw_args_mem args 0 i v h3)
    simpa using this
theorem nw_TI_of {ν : Nat} {Φ : Int → nw_S → Prop} (hν : ν < 116) {args : List nw_v} (hn : args.length ≤ nw_mL ν) (h : nw_V G ν (nw_pi Φ) 0 (args.map some ++ List.replicate (nw_mL ν - args.length) none) [] σ) : nw_TI G ν args σ Φ := nw_Tm_of hν hn h
theorem nw_TV_of {ν : Nat} {Φ : nw_S → Prop} (hν : ν < 116) {args : List nw_v} (hn : args.length ≤ nw_mL ν) (h : nw_V G ν (nw_pv Φ) 0 (args.map some ++ List.replicate (nw_mL ν - args.length) none) [] σ) : nw_TV G ν args σ Φ := nw_Tm_of hν hn h
end NWR
end
section
-- X0_has
set_option maxRecDepth 100000 in
theorem bk1_0 {G : nw_G} {Φ : Int → nw_S → Prop} {σ : nw_S} {x1 : Int} (h : (nw_r x1) ∧ ((x1 < 0 → Φ 0 σ) ∧ ((0 : Int) ≤ x1 → (nw_r (σ 1 0)) ∧ (((σ 1 0) ≤ x1 → Φ 0 σ) ∧ (x1 < (σ 1 0) → Φ 1 σ))))) : nw_V G 1 (nw_pi Φ) 0 [some (.inl 1), some (.inr x1)] [] σ := nw_run (cd := nw_cd1) rfl [] 9 (And.intro h.1 (And.intro (fun q2 => And.intro (by decide) (((h.2).1 q2))) (fun q2 => And.intro h.1 (And.intro ((h.2).2 q2).1 (And.intro (fun q1 => And.intro (by decide) (((((h.2).2 q2).2).1 q1))) (fun q1 => And.intro (by decide) (((((h.2).2 q2).2).2 q1))))))))
-- X0_hasCandidate
set_option maxRecDepth 100000 in
theorem bk2_0 {G : nw_G} {Φ : Int → nw_S → Prop} {σ : nw_S} {x1 x2 : Int} (h : nw_TI G 1 [.inl 1, .inr x1] σ (fun v1 u1 => (nw_r v1) ∧ ((v1 = 0 → Φ 0 u1) ∧ (v1 ≠ 0 → (nw_r x2) ∧ ((x2 < 0 → Φ 0 u1) ∧ ((0 : Int) ≤ x2 → (0 ≤ x1 ∧ x1 < 5) ∧ ((nw_r (u1 2 (x1.toNat))) ∧ (((u1 2 (x1.toNat)) ≤ x2 → Φ 0 u1) ∧ (x2 < (u1 2 (x1.toNat)) → Φ 1 u1))))))))) : nw_V G 2 (nw_pi Φ) 0 [some (.inl 1), some (.inr x1), some (.inr x2)] [] σ := nw_run (cd := nw_cd2) rfl [] 15 (nw_TI.mono h (fun _ _ q_1 => And.intro q_1.1 (And.intro (fun q3 => And.intro (by decide) (((q_1.2).1 q3))) (fun q3 => And.intro ((q_1.2).2 q3).1 (And.intro (fun q2 => And.intro (by decide) (((((q_1.2).2 q3).2).1 q2))) (fun q2 => And.intro ((((q_1.2).2 q3).2).2 q2).1 (And.intro ((q_1.2).2 q3).1 (And.intro (((((q_1.2).2 q3).2).2 q2).2).1 (And.intro (fun q1 => And.intro (by decide) ((((((((q_1.2).2 q3).2).2 q2).2).2).1 q1))) (fun q1 => And.intro (by decide) ((((((((q_1.2).2 q3).2).2 q2).2).2).2 q1))))))))))))
-- X0_add
set_option maxRecDepth 100000 in
theorem bk3_0 {G : nw_G} {Φ : nw_S → Prop} {σ : nw_S} {x1 : Int} (h : nw_V G 3 (nw_pv Φ) 7 [some (.inl 1), some (.inr x1), some (.inr ((σ 1 1) - 1)), none] [] σ) : nw_V G 3 (nw_pv Φ) 0 [some (.inl 1), some (.inr x1), none, none] [] σ := nw_run (cd := nw_cd3) rfl [(7, 3), (15, 4), (49, 3)] 6 (h)
set_option maxRecDepth 100000 in
theorem bk3_7 {G : nw_G} {Φ : nw_S → Prop} {σ : nw_S} {x1 x2 : Int} (h : (nw_r x2) ∧ ((x2 < 0 → nw_V G 3 (nw_pv Φ) 49 [some (.inl 1), some (.inr x1), some (.inr 0), none] [] σ) ∧ ((0 : Int) ≤ x2 → nw_V G 3 (nw_pv Φ) 15 [some (.inl 1), some (.inr x1), some (.inr x2), some (.inr (x1 - 1))] [] σ))) : nw_V G 3 (nw_pv Φ) 7 [some (.inl 1), some (.inr x1), some (.inr x2), none] [] σ := nw_run (cd := nw_cd3) rfl [(7, 3), (15, 4), (49, 3)] 7 (h)
set_option maxRecDepth 100000 in
theorem bk3_15 {G : nw_G} {Φ : nw_S → Prop} {σ : nw_S} {x1 x2 x3 : Int} (h : (nw_r x3) ∧ ((x3 < 0 → nw_V G 3 (nw_pv Φ) 7 [some (.inl 1), some (.inr x1), some (.inr (x2 + (-1))), none] [] σ) ∧ ((0 : Int) ≤ x3 → (0 ≤ x2 ∧ x2 < 7776) ∧ ((0 ≤ ((x2 * x1) + x3) ∧ ((x2 * x1) + x3) < 7776) ∧ (nw_V G 3 (nw_pv Φ) 15 [some (.inl 1), some (.inr x1), some (.inr x2), some (.inr (x3 + (-1)))] [] (nw_up σ 5 (((x2 * x1) + x3).toNat) (σ 5 (x2.toNat)))))))) : nw_V G 3 (nw_pv Φ) 15 [some (.inl 1), some (.inr x1), some (.inr x2), some (.inr x3)] [] σ := nw_run (cd := nw_cd3) rfl [(7, 3), (15, 4), (49, 3)] 17 (h)
set_option maxRecDepth 100000 in
theorem bk3_49 {G : nw_G} {Φ : nw_S → Prop} {σ : nw_S} {x1 x2 : Int} (h : (nw_r x2) ∧ ((nw_r (σ 1 0)) ∧ (((σ 1 0) ≤ x2 → (0 ≤ (σ 1 0) ∧ (σ 1 0) < 5) ∧ (Φ (nw_up (nw_up (nw_up (nw_up σ 2 ((σ 1 0).toNat) x1) 3 ((σ 1 0).toNat) 1) 1 0 ((σ 1 0) + 1)) 1 1 ((σ 1 1) * x1)))) ∧ (x2 < (σ 1 0) → (0 ≤ x2 ∧ x2 < 5) ∧ (nw_V G 3 (nw_pv Φ) 49 [some (.inl 1), some (.inr x1), some (.inr (x2 + 1)), none] [] (nw_up σ 3 (x2.toNat) ((σ 3 (x2.toNat)) * x1))))))) : nw_V G 3 (nw_pv Φ) 49 [some (.inl 1), some (.inr x1), some (.inr x2), none] [] σ := nw_run (cd := nw_cd3) rfl [(7, 3), (15, 4), (49, 3)] 29 (And.intro h.1 (And.intro (h.2).1 (And.intro (fun q1 => And.intro (((h.2).2).1 q1).1 (And.intro (((h.2).2).1 q1).1 ((((h.2).2).1 q1).2))) (fun q1 => And.intro (((h.2).2).2 q1).1 (And.intro (((h.2).2).2 q1).1 ((((h.2).2).2 q1).2))))))
-- X0_changeWorth
set_option maxRecDepth 100000 in
theorem bk4_0 {G : nw_G} {Φ : Int → nw_S → Prop} {σ : nw_S} {x1 x2 x3 : Int} (h : (0 ≤ ((x1 * 6) + x2) ∧ ((x1 * 6) + x2) < 30) ∧ (nw_V G 4 (nw_pi Φ) 28 [some (.inl 1), some (.inr x1), some (.inr x2), some (.inr x3), some (.inr ((x1 * 6) + x2)), some (.inr (σ 4 (((x1 * 6) + x2).toNat))), some (.inr 0)] [] (nw_up σ 4 (((x1 * 6) + x2).toNat) x3))) : nw_V G 4 (nw_pi Φ) 0 [some (.inl 1), some (.inr x1), some (.inr x2), some (.inr x3), none, none, none] [] σ := nw_run (cd := nw_cd4) rfl [(28, 7)] 19 (And.intro h.1 (And.intro h.1 (h.2)))
set_option maxRecDepth 100000 in
theorem bk4_28 {G : nw_G} {Φ : Int → nw_S → Prop} {σ : nw_S} {x1 x2 x3 x4 x5 x6 : Int} (h : (nw_r x6) ∧ ((nw_r (σ 1 1)) ∧ (((σ 1 1) ≤ x6 → Φ x5 σ) ∧ (x6 < (σ 1 1) → nw_TI G 5 [.inl 1, .inr x6, .inr x1] σ (fun v1 u1 => (nw_r v1) ∧ ((nw_r x2) ∧ ((v1 ≠ x2 → nw_V G 4 (nw_pi Φ) 28 [some (.inl 1), some (.inr x1), some (.inr x2), some (.inr x3), some (.inr x4), some (.inr x5), some (.inr (x6 + 1))] [] u1) ∧ (v1 = x2 → (0 ≤ x6 ∧ x6 < 7776) ∧ (nw_V G 4 (nw_pi Φ) 28 [some (.inl 1), some (.inr x1), some (.inr x2), some (.inr x3), some (.inr x4), some (.inr x5), some (.inr (x6 + 1))] [] (nw_up u1 5 (x6.toNat) ((u1 5 (x6.toNat)) + (x3 - x5)))))))))))) : nw_V G 4 (nw_pi Φ) 28 [some (.inl 1), some (.inr x1), some (.inr x2), some (.inr x3), some (.inr x4), some (.inr x5), some (.inr x6)] [] σ := nw_run (cd := nw_cd4) rfl [(28, 7)] 23 (And.intro h.1 (And.intro (h.2).1 (And.intro (fun q2 => (((h.2).2).1 q2)) (fun q2 => nw_TI.mono (((h.2).2).2 q2) (fun _ _ q_1 => And.intro q_1.1 (And.intro (q_1.2).1 (And.intro (fun q1 => (((q_1.2).2).1 q1)) (fun q1 => And.intro (((q_1.2).2).2 q1).1 (And.intro (((q_1.2).2).2 q1).1 ((((q_1.2).2).2 q1).2))))))))))
-- X0_taken
set_option maxRecDepth 100000 in
theorem bk5_0 {G : nw_G} {Φ : Int → nw_S → Prop} {σ : nw_S} {x1 x2 : Int} (h : (0 ≤ x2 ∧ x2 < 5) ∧ ((nw_r (σ 3 (x2.toNat))) ∧ (((σ 3 (x2.toNat)) < 1 → Φ 0 σ) ∧ ((1 : Int) ≤ (σ 3 (x2.toNat)) → (nw_r (σ 2 (x2.toNat))) ∧ (((1 : Int) ≤ (σ 2 (x2.toNat)) → (0 ≤ x1 ∧ x1 < 2147483648 ∧ 0 < (σ 3 (x2.toNat)) ∧ (σ 3 (x2.toNat)) < 2147483648) ∧ ((0 ≤ (x1 / (σ 3 (x2.toNat))) ∧ (x1 / (σ 3 (x2.toNat))) < 2147483648 ∧ 0 < (σ 2 (x2.toNat)) ∧ (σ 2 (x2.toNat)) < 2147483648) ∧ (Φ ((x1 / (σ 3 (x2.toNat))) % (σ 2 (x2.toNat))) σ))) ∧ ((σ 2 (x2.toNat)) < 1 → Φ 0 σ)))))) : nw_V G 5 (nw_pi Φ) 0 [some (.inl 1), some (.inr x1), some (.inr x2), none, none] [] σ := nw_run (cd := nw_cd5) rfl [] 22 (And.intro h.1 (And.intro h.1 (And.intro (h.2).1 (And.intro (by decide) (And.intro (fun q2 => (((h.2).2).1 q2)) (fun q2 => And.intro (((h.2).2).2 q2).1 (And.intro (by decide) ((((h.2).2).2 q2).2))))))))
-- X0_read
set_option maxRecDepth 100000 in
theorem bk6_0 {G : nw_G} {Φ : nw_S → Prop} {σ : nw_S} {x1 : Int} (h : nw_V G 6 (nw_pv Φ) 2 [some (.inl 1), some (.inr x1), some (.inl 15), some (.inr 0)] [] σ) : nw_V G 6 (nw_pv Φ) 0 [some (.inl 1), some (.inr x1), some (.inl 15), none] [] σ := nw_run (cd := nw_cd6) rfl [(2, 4)] 3 (h)
set_option maxRecDepth 100000 in
theorem bk6_2 {G : nw_G} {Φ : nw_S → Prop} {σ : nw_S} {x1 x3 : Int} (h : (nw_r x3) ∧ ((nw_r (σ 1 0)) ∧ (((σ 1 0) ≤ x3 → Φ σ) ∧ (x3 < (σ 1 0) → nw_TI G 5 [.inl 1, .inr x1, .inr x3] σ (fun v1 u1 => (0 ≤ x3 ∧ x3 < 5) ∧ (nw_V G 6 (nw_pv Φ) 2 [some (.inl 1), some (.inr x1), some (.inl 15), some (.inr (x3 + 1))] [] (nw_up u1 15 (x3.toNat) v1))))))) : nw_V G 6 (nw_pv Φ) 2 [some (.inl 1), some (.inr x1), some (.inl 15), some (.inr x3)] [] σ := nw_run (cd := nw_cd6) rfl [(2, 4)] 14 (h)
-- X0_numberOf
set_option maxRecDepth 100000 in
theorem bk7_0 {G : nw_G} {Φ : Int → nw_S → Prop} {σ : nw_S} (h : nw_V G 7 (nw_pi Φ) 4 [some (.inl 1), some (.inl 15), some (.inr 0), some (.inr 0)] [] σ) : nw_V G 7 (nw_pi Φ) 0 [some (.inl 1), some (.inl 15), none, none] [] σ := nw_run (cd := nw_cd7) rfl [(4, 4)] 5 (h)
set_option maxRecDepth 100000 in
theorem bk7_4 {G : nw_G} {Φ : Int → nw_S → Prop} {σ : nw_S} {x2 x3 : Int} (h : (nw_r x3) ∧ ((nw_r (σ 1 0)) ∧ (((σ 1 0) ≤ x3 → Φ x2 σ) ∧ (x3 < (σ 1 0) → (0 ≤ x3 ∧ x3 < 5) ∧ (nw_TI G 2 [.inl 1, .inr x3, .inr (σ 15 (x3.toNat))] σ (fun v1 u1 => (nw_r v1) ∧ ((v1 ≠ 0 → nw_V G 7 (nw_pi Φ) 4 [some (.inl 1), some (.inl 15), some (.inr (x2 + ((u1 15 (x3.toNat)) * (u1 3 (x3.toNat))))), some (.inr (x3 + 1))] [] u1) ∧ (v1 = 0 → Φ (-1) u1)))))))) : nw_V G 7 (nw_pi Φ) 4 [some (.inl 1), some (.inl 15), some (.inr x2), some (.inr x3)] [] σ := nw_run (cd := nw_cd7) rfl [(4, 4)] 25 (And.intro h.1 (And.intro (h.2).1 (And.intro (fun q2 => (((h.2).2).1 q2)) (fun q2 => And.intro (((h.2).2).2 q2).1 (nw_TI.mono ((((h.2).2).2 q2).2) (fun _ _ q_1 => And.intro q_1.1 (And.intro (fun q1 => And.intro (((h.2).2).2 q2).1 (And.intro (((h.2).2).2 q2).1 (((q_1.2).1 q1)))) (fun q1 => ((q_1.2).2 q1)))))))))
-- X1_clear
set_option maxRecDepth 100000 in
theorem bk9_0a {G : nw_G} {Φ : nw_S → Prop} {σ : nw_S} (h : Φ (nw_up σ 20 0 0)) : nw_V G 9 (nw_pv Φ) 0 [some (.inl 20)] [] σ := nw_run (cd := nw_cd9) rfl [] 4 (h)
-- X1_clear
set_option maxRecDepth 100000 in
theorem bk9_0b {G : nw_G} {Φ : nw_S → Prop} {σ : nw_S} (h : Φ (nw_up σ 23 0 0)) : nw_V G 9 (nw_pv Φ) 0 [some (.inl 23)] [] σ := nw_run (cd := nw_cd9) rfl [] 4 (h)
-- X1_put
set_option maxRecDepth 100000 in
theorem bk10_0a {G : nw_G} {Φ : nw_S → Prop} {σ : nw_S} {x1 x2 : Int} (h : (nw_r (σ 20 0)) ∧ (((σ 20 0) < 924 → nw_V G 10 (nw_pv Φ) 16 [some (.inl 20), some (.inr x1), some (.inr x2), some (.inr (σ 20 0))] [] σ) ∧ ((924 : Int) ≤ (σ 20 0) → Φ σ))) : nw_V G 10 (nw_pv Φ) 0 [some (.inl 20), some (.inr x1), some (.inr x2), none] [] σ := nw_run (cd := nw_cd10) rfl [(16, 4)] 8 (And.intro h.1 (And.intro (by decide) (h.2)))
set_option maxRecDepth 100000 in
theorem bk10_16a {G : nw_G} {Φ : nw_S → Prop} {σ : nw_S} {x1 x2 x3 : Int} (h : (nw_r x3) ∧ ((x3 ≤ 0 → (0 ≤ x3 ∧ x3 < 924) ∧ (Φ (nw_up (nw_up (nw_up σ 21 (x3.toNat) x1) 22 (x3.toNat) x2) 20 0 ((σ 20 0) + 1)))) ∧ ((0 : Int) < x3 → (0 ≤ (x3 - 1) ∧ (x3 - 1) < 924) ∧ ((nw_r (σ 22 ((x3 - 1).toNat))) ∧ ((nw_r x2) ∧ (((σ 22 ((x3 - 1).toNat)) ≤ x2 → (0 ≤ x3 ∧ x3 < 924) ∧ (Φ (nw_up (nw_up (nw_up σ 21 (x3.toNat) x1) 22 (x3.toNat) x2) 20 0 ((σ 20 0) + 1)))) ∧ (x2 < (σ 22 ((x3 - 1).toNat)) → (0 ≤ x3 ∧ x3 < 924) ∧ (nw_V G 10 (nw_pv Φ) 16 [some (.inl 20), some (.inr x1), some (.inr x2), some (.inr (x3 + (-1)))] [] (nw_up (nw_up σ 21 (x3.toNat) (σ 21 ((x3 - 1).toNat))) 22 (x3.toNat) (σ 22 ((x3 - 1).toNat))))))))))) : nw_V G 10 (nw_pv Φ) 16 [some (.inl 20), some (.inr x1), some (.inr x2), some (.inr x3)] [] σ := nw_run (cd := nw_cd10) rfl [(16, 4)] 33 (And.intro h.1 (And.intro (fun q2 => And.intro ((h.2).1 q2).1 (And.intro ((h.2).1 q2).1 (((h.2).1 q2).2))) (fun q2 => And.intro ((h.2).2 q2).1 (And.intro (((h.2).2 q2).2).1 (And.intro ((((h.2).2 q2).2).2).1 (And.intro (fun q1 => And.intro ((((((h.2).2 q2).2).2).2).1 q1).1 (And.intro ((((((h.2).2 q2).2).2).2).1 q1).1 (((((((h.2).2 q2).2).2).2).1 q1).2))) (fun q1 => And.intro ((h.2).2 q2).1 (And.intro ((((((h.2).2 q2).2).2).2).2 q1).1 (And.intro ((h.2).2 q2).1 (And.intro ((((((h.2).2 q2).2).2).2).2 q1).1 (((((((h.2).2 q2).2).2).2).2 q1).2)))))))))))
-- X1_put
set_option maxRecDepth 100000 in
theorem bk10_0b {G : nw_G} {Φ : nw_S → Prop} {σ : nw_S} {x1 x2 : Int} (h : (nw_r (σ 23 0)) ∧ (((σ 23 0) < 924 → nw_V G 10 (nw_pv Φ) 16 [some (.inl 23), some (.inr x1), some (.inr x2), some (.inr (σ 23 0))] [] σ) ∧ ((924 : Int) ≤ (σ 23 0) → Φ σ))) : nw_V G 10 (nw_pv Φ) 0 [some (.inl 23), some (.inr x1), some (.inr x2), none] [] σ := nw_run (cd := nw_cd10) rfl [(16, 4)] 8 (And.intro h.1 (And.intro (by decide) (h.2)))
set_option maxRecDepth 100000 in
theorem bk10_16b {G : nw_G} {Φ : nw_S → Prop} {σ : nw_S} {x1 x2 x3 : Int} (h : (nw_r x3) ∧ ((x3 ≤ 0 → (0 ≤ x3 ∧ x3 < 924) ∧ (Φ (nw_up (nw_up (nw_up σ 24 (x3.toNat) x1) 25 (x3.toNat) x2) 23 0 ((σ 23 0) + 1)))) ∧ ((0 : Int) < x3 → (0 ≤ (x3 - 1) ∧ (x3 - 1) < 924) ∧ ((nw_r (σ 25 ((x3 - 1).toNat))) ∧ ((nw_r x2) ∧ (((σ 25 ((x3 - 1).toNat)) ≤ x2 → (0 ≤ x3 ∧ x3 < 924) ∧ (Φ (nw_up (nw_up (nw_up σ 24 (x3.toNat) x1) 25 (x3.toNat) x2) 23 0 ((σ 23 0) + 1)))) ∧ (x2 < (σ 25 ((x3 - 1).toNat)) → (0 ≤ x3 ∧ x3 < 924) ∧ (nw_V G 10 (nw_pv Φ) 16 [some (.inl 23), some (.inr x1), some (.inr x2), some (.inr (x3 + (-1)))] [] (nw_up (nw_up σ 24 (x3.toNat) (σ 24 ((x3 - 1).toNat))) 25 (x3.toNat) (σ 25 ((x3 - 1).toNat))))))))))) : nw_V G 10 (nw_pv Φ) 16 [some (.inl 23), some (.inr x1), some (.inr x2), some (.inr x3)] [] σ := nw_run (cd := nw_cd10) rfl [(16, 4)] 33 (And.intro h.1 (And.intro (fun q2 => And.intro ((h.2).1 q2).1 (And.intro ((h.2).1 q2).1 (((h.2).1 q2).2))) (fun q2 => And.intro ((h.2).2 q2).1 (And.intro (((h.2).2 q2).2).1 (And.intro ((((h.2).2 q2).2).2).1 (And.intro (fun q1 => And.intro ((((((h.2).2 q2).2).2).2).1 q1).1 (And.intro ((((((h.2).2 q2).2).2).2).1 q1).1 (((((((h.2).2 q2).2).2).2).1 q1).2))) (fun q1 => And.intro ((h.2).2 q2).1 (And.intro ((((((h.2).2 q2).2).2).2).2 q1).1 (And.intro ((h.2).2 q2).1 (And.intro ((((((h.2).2 q2).2).2).2).2 q1).1 (((((((h.2).2 q2).2).2).2).2 q1).2)))))))))))
-- X1_at
set_option maxRecDepth 100000 in
theorem bk11_0a {G : nw_G} {Φ : Int → nw_S → Prop} {σ : nw_S} {x1 : Int} (h : (nw_r x1) ∧ ((x1 < 0 → Φ (-1000004) σ) ∧ ((0 : Int) ≤ x1 → (nw_r (σ 20 0)) ∧ ((x1 < (σ 20 0) → (0 ≤ x1 ∧ x1 < 924) ∧ (Φ (σ 21 (x1.toNat)) σ)) ∧ ((σ 20 0) ≤ x1 → Φ (-1000004) σ))))) : nw_V G 11 (nw_pi Φ) 0 [some (.inl 20), some (.inr x1)] [] σ := nw_run (cd := nw_cd11) rfl [] 11 (And.intro h.1 (And.intro (fun q2 => ((h.2).1 q2)) (fun q2 => And.intro h.1 (((h.2).2 q2)))))
-- X1_at
set_option maxRecDepth 100000 in
theorem bk11_0b {G : nw_G} {Φ : Int → nw_S → Prop} {σ : nw_S} {x1 : Int} (h : (nw_r x1) ∧ ((x1 < 0 → Φ (-1000004) σ) ∧ ((0 : Int) ≤ x1 → (nw_r (σ 23 0)) ∧ ((x1 < (σ 23 0) → (0 ≤ x1 ∧ x1 < 924) ∧ (Φ (σ 24 (x1.toNat)) σ)) ∧ ((σ 23 0) ≤ x1 → Φ (-1000004) σ))))) : nw_V G 11 (nw_pi Φ) 0 [some (.inl 23), some (.inr x1)] [] σ := nw_run (cd := nw_cd11) rfl [] 11 (And.intro h.1 (And.intro (fun q2 => ((h.2).1 q2)) (fun q2 => And.intro h.1 (((h.2).2 q2)))))
-- X2_has
set_option maxRecDepth 100000 in
theorem bk13_0 {G : nw_G} {Φ : Int → nw_S → Prop} {σ : nw_S} {x1 : Int} (h : (nw_r x1) ∧ ((x1 < 0 → Φ 0 σ) ∧ ((0 : Int) ≤ x1 → (nw_r (σ 6 0)) ∧ (((σ 6 0) ≤ x1 → Φ 0 σ) ∧ (x1 < (σ 6 0) → Φ 1 σ))))) : nw_V G 13 (nw_pi Φ) 0 [some (.inl 6), some (.inr x1)] [] σ := nw_run (cd := nw_cd13) rfl [] 9 (And.intro h.1 (And.intro (fun q2 => And.intro (by decide) (((h.2).1 q2))) (fun q2 => And.intro h.1 (And.intro ((h.2).2 q2).1 (And.intro (fun q1 => And.intro (by decide) (((((h.2).2 q2).2).1 q1))) (fun q1 => And.intro (by decide) (((((h.2).2 q2).2).2 q1))))))))
-- X2_sets
set_option maxRecDepth 100000 in
theorem bk14_0 {G : nw_G} {Φ : Int → nw_S → Prop} {σ : nw_S} (h : Φ (nw_shl 1 (σ 6 0)) σ) : nw_V G 14 (nw_pi Φ) 0 [some (.inl 6)] [] σ := nw_run (cd := nw_cd14) rfl [] 5 (h)
-- X2_add
set_option maxRecDepth 100000 in
theorem bk15_0 {G : nw_G} {Φ : Int → nw_S → Prop} {σ : nw_S} {x1 x2 x3 x4 x5 : Int} (h : (0 ≤ (σ 6 0) ∧ (σ 6 0) < 12) ∧ (nw_TI G 14 [.inl 6] (nw_up (nw_up (nw_up (nw_up (nw_up (nw_up σ 7 ((σ 6 0).toNat) x1) 8 ((σ 6 0).toNat) x2) 9 ((σ 6 0).toNat) x3) 10 ((σ 6 0).toNat) x4) 11 ((σ 6 0).toNat) x5) 12 ((σ 6 0).toNat) 1) (fun v1 u1 => nw_V G 15 (nw_pi Φ) 65 [some (.inl 6), some (.inr x1), some (.inr x2), some (.inr x3), some (.inr x4), some (.inr x5), some (.inr (σ 6 0)), some (.inr v1), some (.inr 0)] [] u1))) : nw_V G 15 (nw_pi Φ) 0 [some (.inl 6), some (.inr x1), some (.inr x2), some (.inr x3), some (.inr x4), some (.inr x5), none, none, none] [] σ := nw_run (cd := nw_cd15) rfl [(65, 9)] 39 (And.intro h.1 (And.intro h.1 (And.intro h.1 (And.intro h.1 (And.intro h.1 (And.intro h.1 (h.2)))))))
set_option maxRecDepth 100000 in
theorem bk15_65 {G : nw_G} {Φ : Int → nw_S → Prop} {σ : nw_S} {x1 x2 x3 x4 x5 x6 x7 x8 : Int} (h : (nw_r x8) ∧ ((nw_r x7) ∧ ((x7 ≤ x8 → Φ x6 (nw_up σ 6 0 ((σ 6 0) + 1))) ∧ (x8 < x7 → (0 ≤ x8 ∧ x8 < 4096) ∧ ((0 ≤ (x8 + x7) ∧ (x8 + x7) < 4096) ∧ (nw_V G 15 (nw_pi Φ) 65 [some (.inl 6), some (.inr x1), some (.inr x2), some (.inr x3), some (.inr x4), some (.inr x5), some (.inr x6), some (.inr x7), some (.inr (x8 + 1))] [] (nw_up σ 13 ((x8 + x7).toNat) ((σ 13 (x8.toNat)) + x5)))))))) : nw_V G 15 (nw_pi Φ) 65 [some (.inl 6), some (.inr x1), some (.inr x2), some (.inr x3), some (.inr x4), some (.inr x5), some (.inr x6), some (.inr x7), some (.inr x8)] [] σ := nw_run (cd := nw_cd15) rfl [(65, 9)] 18 (h)
-- X2_changeWeight
set_option maxRecDepth 100000 in
theorem bk16_0 {G : nw_G} {Φ : Int → nw_S → Prop} {σ : nw_S} {x1 x2 : Int} (h : (0 ≤ x1 ∧ x1 < 12) ∧ (nw_TI G 14 [.inl 6] (nw_up σ 11 (x1.toNat) x2) (fun v1 u1 => nw_V G 16 (nw_pi Φ) 23 [some (.inl 6), some (.inr x1), some (.inr x2), some (.inr (σ 11 (x1.toNat))), some (.inr v1), some (.inr 0)] [] u1))) : nw_V G 16 (nw_pi Φ) 0 [some (.inl 6), some (.inr x1), some (.inr x2), none, none, none] [] σ := nw_run (cd := nw_cd16) rfl [(23, 6)] 16 (And.intro h.1 (And.intro h.1 (h.2)))
set_option maxRecDepth 100000 in
theorem bk16_23 {G : nw_G} {Φ : Int → nw_S → Prop} {σ : nw_S} {x1 x2 x3 x4 x5 : Int} (h : (nw_r x5) ∧ ((nw_r x4) ∧ ((x4 ≤ x5 → Φ x3 σ) ∧ (x5 < x4 → (nw_r (nw_and (nw_shr x5 x1) 1)) ∧ (((nw_and (nw_shr x5 x1) 1) ≠ 1 → nw_V G 16 (nw_pi Φ) 23 [some (.inl 6), some (.inr x1), some (.inr x2), some (.inr x3), some (.inr x4), some (.inr (x5 + 1))] [] σ) ∧ ((nw_and (nw_shr x5 x1) 1) = 1 → (0 ≤ x5 ∧ x5 < 4096) ∧ (nw_V G 16 (nw_pi Φ) 23 [some (.inl 6), some (.inr x1), some (.inr x2), some (.inr x3), some (.inr x4), some (.inr (x5 + 1))] [] (nw_up σ 13 (x5.toNat) ((σ 13 (x5.toNat)) + (x2 - x3)))))))))) : nw_V G 16 (nw_pi Φ) 23 [some (.inl 6), some (.inr x1), some (.inr x2), some (.inr x3), some (.inr x4), some (.inr x5)] [] σ := nw_run (cd := nw_cd16) rfl [(23, 6)] 23 (And.intro h.1 (And.intro (h.2).1 (And.intro (fun q2 => (((h.2).2).1 q2)) (fun q2 => And.intro (((h.2).2).2 q2).1 (And.intro (by decide) (And.intro (fun q1 => (((((h.2).2).2 q2).2).1 q1)) (fun q1 => And.intro (((((h.2).2).2 q2).2).2 q1).1 (And.intro (((((h.2).2).2 q2).2).2 q1).1 ((((((h.2).2).2 q2).2).2 q1).2)))))))))
-- X2_inMode
set_option maxRecDepth 100000 in
theorem bk17_0 {G : nw_G} {Φ : Int → nw_S → Prop} {σ : nw_S} {x1 : Int} (h : nw_V G 17 (nw_pi Φ) 4 [some (.inl 6), some (.inr x1), some (.inr 0), some (.inr 0)] [] σ) : nw_V G 17 (nw_pi Φ) 0 [some (.inl 6), some (.inr x1), none, none] [] σ := nw_run (cd := nw_cd17) rfl [(4, 4)] 5 (h)
set_option maxRecDepth 100000 in
theorem bk17_4 {G : nw_G} {Φ : Int → nw_S → Prop} {σ : nw_S} {x1 x2 x3 : Int} (h : (nw_r x3) ∧ ((nw_r (σ 6 0)) ∧ (((σ 6 0) ≤ x3 → Φ x2 σ) ∧ (x3 < (σ 6 0) → (0 ≤ x3 ∧ x3 < 12) ∧ ((nw_r (σ 12 (x3.toNat))) ∧ ((nw_r x1) ∧ (((σ 12 (x3.toNat)) ≠ x1 → nw_V G 17 (nw_pi Φ) 4 [some (.inl 6), some (.inr x1), some (.inr x2), some (.inr (x3 + 1))] [] σ) ∧ ((σ 12 (x3.toNat)) = x1 → nw_V G 17 (nw_pi Φ) 4 [some (.inl 6), some (.inr x1), some (.inr (nw_or x2 (nw_shl 1 x3))), some (.inr (x3 + 1))] [] σ)))))))) : nw_V G 17 (nw_pi Φ) 4 [some (.inl 6), some (.inr x1), some (.inr x2), some (.inr x3)] [] σ := nw_run (cd := nw_cd17) rfl [(4, 4)] 19 (h)
-- X2_isCheaper
set_option maxRecDepth 100000 in
theorem bk18_0 {G : nw_G} {Φ : Int → nw_S → Prop} {σ : nw_S} {x1 x2 : Int} (h : (0 ≤ x1 ∧ x1 < 4096) ∧ ((0 ≤ x2 ∧ x2 < 4096) ∧ ((nw_r (σ 13 (x1.toNat))) ∧ ((nw_r (σ 13 (x2.toNat))) ∧ (((σ 13 (x1.toNat)) < (σ 13 (x2.toNat)) → Φ 1 σ) ∧ ((σ 13 (x2.toNat)) ≤ (σ 13 (x1.toNat)) → ((σ 13 (x1.toNat)) ≠ (σ 13 (x2.toNat)) → Φ 0 σ) ∧ ((σ 13 (x1.toNat)) = (σ 13 (x2.toNat)) → (nw_r x1) ∧ ((nw_r x2) ∧ ((x2 ≤ x1 → Φ 0 σ) ∧ (x1 < x2 → Φ 1 σ)))))))))) : nw_V G 18 (nw_pi Φ) 0 [some (.inl 6), some (.inr x1), some (.inr x2)] [] σ := nw_run (cd := nw_cd18) rfl [] 24 (And.intro h.1 (And.intro (h.2).1 (And.intro ((h.2).2).1 (And.intro (((h.2).2).2).1 (And.intro (fun q3 => And.intro (by decide) ((((((h.2).2).2).2).1 q3))) (fun q3 => And.intro h.1 (And.intro (h.2).1 (And.intro ((h.2).2).1 (And.intro (((h.2).2).2).1 (And.intro (fun q2 => And.intro (by decide) (((((((h.2).2).2).2).2 q3).1 q2))) (fun q2 => And.intro ((((((h.2).2).2).2).2 q3).2 q2).1 (And.intro (((((((h.2).2).2).2).2 q3).2 q2).2).1 (And.intro (fun q1 => And.intro (by decide) ((((((((((h.2).2).2).2).2 q3).2 q2).2).2).1 q1))) (fun q1 => And.intro (by decide) ((((((((((h.2).2).2).2).2 q3).2 q2).2).2).2 q1))))))))))))))))
-- X2_isKept
set_option maxRecDepth 100000 in
theorem bk19_0 {G : nw_G} {Φ : Int → nw_S → Prop} {σ : nw_S} {x1 x3 : Int} (h : (0 ≤ x1 ∧ x1 < 12) ∧ (nw_r (σ 7 (x1.toNat)) ∧ ((σ 7 (x1.toNat)) < 0 ∨ 7 < (σ 7 (x1.toNat)) → nw_TI G 21 [.inl 15, .inr x3] σ (fun v1 u1 => (nw_r v1) ∧ ((nw_r (σ 8 (x1.toNat))) ∧ ((v1 < (σ 8 (x1.toNat)) → Φ 0 u1) ∧ ((σ 8 (x1.toNat)) ≤ v1 → (nw_r (σ 9 (x1.toNat))) ∧ (((σ 9 (x1.toNat)) < v1 → Φ 0 u1) ∧ (v1 ≤ (σ 9 (x1.toNat)) → Φ 1 u1))))))) ∧ ((σ 7 (x1.toNat)) = 0 → (0 ≤ (σ 8 (x1.toNat)) ∧ (σ 8 (x1.toNat)) < 5) ∧ ((nw_r (nw_and (nw_shr (σ 10 (x1.toNat)) (σ 15 ((σ 8 (x1.toNat)).toNat))) 1)) ∧ (((nw_and (nw_shr (σ 10 (x1.toNat)) (σ 15 ((σ 8 (x1.toNat)).toNat))) 1) ≠ 1 → Φ 0 σ) ∧ ((nw_and (nw_shr (σ 10 (x1.toNat)) (σ 15 ((σ 8 (x1.toNat)).toNat))) 1) = 1 → Φ 1 σ)))) ∧ ((σ 7 (x1.toNat)) = 1 → (0 ≤ (σ 8 (x1.toNat)) ∧ (σ 8 (x1.toNat)) < 5) ∧ ((0 ≤ (σ 9 (x1.toNat)) ∧ (σ 9 (x1.toNat)) < 5) ∧ ((nw_r (σ 15 ((σ 8 (x1.toNat)).toNat))) ∧ ((nw_r (σ 15 ((σ 9 (x1.toNat)).toNat))) ∧ (((σ 15 ((σ 8 (x1.toNat)).toNat)) = (σ 15 ((σ 9 (x1.toNat)).toNat)) → Φ 0 σ) ∧ ((σ 15 ((σ 8 (x1.toNat)).toNat)) ≠ (σ 15 ((σ 9 (x1.toNat)).toNat)) → Φ 1 σ)))))) ∧ ((σ 7 (x1.toNat)) = 2 → (0 ≤ (σ 8 (x1.toNat)) ∧ (σ 8 (x1.toNat)) < 5) ∧ ((0 ≤ (σ 9 (x1.toNat)) ∧ (σ 9 (x1.toNat)) < 5) ∧ ((nw_r (σ 15 ((σ 8 (x1.toNat)).toNat))) ∧ ((nw_r (σ 15 ((σ 9 (x1.toNat)).toNat))) ∧ (((σ 15 ((σ 8 (x1.toNat)).toNat)) ≠ (σ 15 ((σ 9 (x1.toNat)).toNat)) → Φ 0 σ) ∧ ((σ 15 ((σ 8 (x1.toNat)).toNat)) = (σ 15 ((σ 9 (x1.toNat)).toNat)) → Φ 1 σ)))))) ∧ ((σ 7 (x1.toNat)) = 3 → (0 ≤ (σ 9 (x1.toNat)) ∧ (σ 9 (x1.toNat)) < 5) ∧ ((0 ≤ (σ 8 (x1.toNat)) ∧ (σ 8 (x1.toNat)) < 5) ∧ ((nw_r (σ 15 ((σ 9 (x1.toNat)).toNat))) ∧ ((nw_r ((σ 15 ((σ 8 (x1.toNat)).toNat)) + (σ 10 (x1.toNat)))) ∧ (((σ 15 ((σ 9 (x1.toNat)).toNat)) < ((σ 15 ((σ 8 (x1.toNat)).toNat)) + (σ 10 (x1.toNat))) → Φ 0 σ) ∧ (((σ 15 ((σ 8 (x1.toNat)).toNat)) + (σ 10 (x1.toNat))) ≤ (σ 15 ((σ 9 (x1.toNat)).toNat)) → Φ 1 σ)))))) ∧ ((σ 7 (x1.toNat)) = 4 → (0 ≤ (σ 8 (x1.toNat)) ∧ (σ 8 (x1.toNat)) < 5) ∧ ((0 ≤ (σ 9 (x1.toNat)) ∧ (σ 9 (x1.toNat)) < 5) ∧ ((nw_r ((σ 15 ((σ 8 (x1.toNat)).toNat)) - (σ 15 ((σ 9 (x1.toNat)).toNat)))) ∧ ((nw_r (if 0 ≤ ((σ 15 ((σ 8 (x1.toNat)).toNat)) - (σ 15 ((σ 9 (x1.toNat)).toNat))) then ((σ 15 ((σ 8 (x1.toNat)).toNat)) - (σ 15 ((σ 9 (x1.toNat)).toNat))) else 0 - ((σ 15 ((σ 8 (x1.toNat)).toNat)) - (σ 15 ((σ 9 (x1.toNat)).toNat))))) ∧ ((nw_r (σ 10 (x1.toNat))) ∧ (((σ 10 (x1.toNat)) < (if 0 ≤ ((σ 15 ((σ 8 (x1.toNat)).toNat)) - (σ 15 ((σ 9 (x1.toNat)).toNat))) then ((σ 15 ((σ 8 (x1.toNat)).toNat)) - (σ 15 ((σ 9 (x1.toNat)).toNat))) else 0 - ((σ 15 ((σ 8 (x1.toNat)).toNat)) - (σ 15 ((σ 9 (x1.toNat)).toNat)))) → Φ 0 σ) ∧ ((if 0 ≤ ((σ 15 ((σ 8 (x1.toNat)).toNat)) - (σ 15 ((σ 9 (x1.toNat)).toNat))) then ((σ 15 ((σ 8 (x1.toNat)).toNat)) - (σ 15 ((σ 9 (x1.toNat)).toNat))) else 0 - ((σ 15 ((σ 8 (x1.toNat)).toNat)) - (σ 15 ((σ 9 (x1.toNat)).toNat)))) ≤ (σ 10 (x1.toNat)) → Φ 1 σ))))))) ∧ ((σ 7 (x1.toNat)) = 5 → (0 ≤ (σ 8 (x1.toNat)) ∧ (σ 8 (x1.toNat)) < 5) ∧ ((0 ≤ (σ 10 (x1.toNat)) ∧ (σ 10 (x1.toNat)) < 2147483648 ∧ 0 < (8 : Int) ∧ (8 : Int) < 2147483648) ∧ ((nw_r (σ 15 ((σ 8 (x1.toNat)).toNat))) ∧ ((nw_r ((σ 10 (x1.toNat)) / 8)) ∧ (((σ 15 ((σ 8 (x1.toNat)).toNat)) ≠ ((σ 10 (x1.toNat)) / 8) → Φ 1 σ) ∧ ((σ 15 ((σ 8 (x1.toNat)).toNat)) = ((σ 10 (x1.toNat)) / 8) → (0 ≤ (σ 9 (x1.toNat)) ∧ (σ 9 (x1.toNat)) < 5) ∧ ((nw_r (σ 15 ((σ 9 (x1.toNat)).toNat))) ∧ ((nw_r ((σ 10 (x1.toNat)) % 8)) ∧ (((σ 15 ((σ 9 (x1.toNat)).toNat)) ≠ ((σ 10 (x1.toNat)) % 8) → Φ 0 σ) ∧ ((σ 15 ((σ 9 (x1.toNat)).toNat)) = ((σ 10 (x1.toNat)) % 8) → Φ 1 σ)))))))))) ∧ ((σ 7 (x1.toNat)) = 6 → nw_TI G 20 [.inr (σ 8 (x1.toNat)), .inl 15, .inr x3] σ (fun v2 u2 => (nw_r v2) ∧ ((nw_r (σ 10 (x1.toNat))) ∧ (((σ 10 (x1.toNat)) < v2 → Φ 0 u2) ∧ (v2 ≤ (σ 10 (x1.toNat)) → Φ 1 u2))))) ∧ ((σ 7 (x1.toNat)) = 7 → nw_TI G 20 [.inr (σ 8 (x1.toNat)), .inl 15, .inr x3] σ (fun v3 u3 => (nw_r v3) ∧ ((nw_r (σ 10 (x1.toNat))) ∧ ((v3 < (σ 10 (x1.toNat)) → Φ 0 u3) ∧ ((σ 10 (x1.toNat)) ≤ v3 → Φ 1 u3))))))) : nw_V G 19 (nw_pi Φ) 0 [some (.inl 6), some (.inr x1), some (.inl 15), some (.inr x3), none, none, none, none] [] σ := nw_run (cd := nw_cd19) rfl [] 37 (And.intro h.1 (And.intro h.1 (And.intro h.1 (And.intro h.1 (And.intro (h.2).1 (And.intro (fun q12 => nw_TI.mono ((h.2).2.1 q12) (fun _ _ q_1 => And.intro q_1.1 (And.intro (q_1.2).1 (And.intro (fun q2 => And.intro (by decide) ((((q_1.2).2).1 q2))) (fun q2 => And.intro q_1.1 (And.intro (((q_1.2).2).2 q2).1 (And.intro (fun q1 => And.intro (by decide) ((((((q_1.2).2).2 q2).2).1 q1))) (fun q1 => And.intro (by decide) ((((((q_1.2).2).2 q2).2).2 q1)))))))))) (And.intro (fun q12 => And.intro ((h.2).2.2.1 q12).1 (And.intro (((h.2).2.2.1 q12).2).1 (And.intro (by decide) (And.intro (fun q3 => And.intro (by decide) ((((((h.2).2.2.1 q12).2).2).1 q3))) (fun q3 => And.intro (by decide) ((((((h.2).2.2.1 q12).2).2).2 q3))))))) (And.intro (fun q12 => And.intro ((h.2).2.2.2.1 q12).1 (And.intro (((h.2).2.2.2.1 q12).2).1 (And.intro ((((h.2).2.2.2.1 q12).2).2).1 (And.intro (((((h.2).2.2.2.1 q12).2).2).2).1 (And.intro (fun q4 => And.intro (by decide) ((((((((h.2).2.2.2.1 q12).2).2).2).2).1 q4))) (fun q4 => And.intro (by decide) ((((((((h.2).2.2.2.1 q12).2).2).2).2).2 q4)))))))) (And.intro (fun q12 => And.intro ((h.2).2.2.2.2.1 q12).1 (And.intro (((h.2).2.2.2.2.1 q12).2).1 (And.intro ((((h.2).2.2.2.2.1 q12).2).2).1 (And.intro (((((h.2).2.2.2.2.1 q12).2).2).2).1 (And.intro (fun q5 => And.intro (by decide) ((((((((h.2).2.2.2.2.1 q12).2).2).2).2).1 q5))) (fun q5 => And.intro (by decide) ((((((((h.2).2.2.2.2.1 q12).2).2).2).2).2 q5)))))))) (And.intro (fun q12 => And.intro ((h.2).2.2.2.2.2.1 q12).1 (And.intro (((h.2).2.2.2.2.2.1 q12).2).1 (And.intro ((((h.2).2.2.2.2.2.1 q12).2).2).1 (And.intro (((((h.2).2.2.2.2.2.1 q12).2).2).2).1 (And.intro (fun q6 => And.intro (by decide) ((((((((h.2).2.2.2.2.2.1 q12).2).2).2).2).1 q6))) (fun q6 => And.intro (by decide) ((((((((h.2).2.2.2.2.2.1 q12).2).2).2).2).2 q6)))))))) (And.intro (fun q12 => And.intro ((h.2).2.2.2.2.2.2.1 q12).1 (And.intro (((h.2).2.2.2.2.2.2.1 q12).2).1 (And.intro ((((h.2).2.2.2.2.2.2.1 q12).2).2).1 (And.intro (((((h.2).2.2.2.2.2.2.1 q12).2).2).2).1 (And.intro ((((((h.2).2.2.2.2.2.2.1 q12).2).2).2).2).1 (And.intro (fun q7 => And.intro (by decide) (((((((((h.2).2.2.2.2.2.2.1 q12).2).2).2).2).2).1 q7))) (fun q7 => And.intro (by decide) (((((((((h.2).2.2.2.2.2.2.1 q12).2).2).2).2).2).2 q7))))))))) (And.intro (fun q12 => And.intro ((h.2).2.2.2.2.2.2.2.1 q12).1 (And.intro (((h.2).2.2.2.2.2.2.2.1 q12).2).1 (And.intro ((((h.2).2.2.2.2.2.2.2.1 q12).2).2).1 (And.intro (((((h.2).2.2.2.2.2.2.2.1 q12).2).2).2).1 (And.intro (fun q9 => And.intro (by decide) ((((((((h.2).2.2.2.2.2.2.2.1 q12).2).2).2).2).1 q9))) (fun q9 => And.intro (((((((h.2).2.2.2.2.2.2.2.1 q12).2).2).2).2).2 q9).1 (And.intro (((h.2).2.2.2.2.2.2.2.1 q12).2).1 (And.intro ((((((((h.2).2.2.2.2.2.2.2.1 q12).2).2).2).2).2 q9).2).1 (And.intro (((((((((h.2).2.2.2.2.2.2.2.1 q12).2).2).2).2).2 q9).2).2).1 (And.intro (fun q8 => And.intro (by decide) ((((((((((((h.2).2.2.2.2.2.2.2.1 q12).2).2).2).2).2 q9).2).2).2).1 q8))) (fun q8 => And.intro (by decide) ((((((((((((h.2).2.2.2.2.2.2.2.1 q12).2).2).2).2).2 q9).2).2).2).2 q8))))))))))))) (And.intro (fun q12 => nw_TI.mono ((h.2).2.2.2.2.2.2.2.2.1 q12) (fun _ _ q_2 => And.intro q_2.1 (And.intro (q_2.2).1 (And.intro (fun q10 => And.intro (by decide) ((((q_2.2).2).1 q10))) (fun q10 => And.intro (by decide) ((((q_2.2).2).2 q10))))))) (And.intro (fun q12 => nw_TI.mono ((h.2).2.2.2.2.2.2.2.2.2 q12) (fun _ _ q_3 => And.intro q_3.1 (And.intro (q_3.2).1 (And.intro (fun q11 => And.intro (by decide) ((((q_3.2).2).1 q11))) (fun q11 => And.intro (by decide) ((((q_3.2).2).2 q11))))))) (True.intro)))))))))))))))
-- X2_howMany
set_option maxRecDepth 100000 in
theorem bk20_0 {G : nw_G} {Φ : Int → nw_S → Prop} {σ : nw_S} {x0 x2 : Int} (h : nw_V G 20 (nw_pi Φ) 5 [some (.inr x0), some (.inl 15), some (.inr x2), some (.inr 0), some (.inr 0)] [] σ) : nw_V G 20 (nw_pi Φ) 0 [some (.inr x0), some (.inl 15), some (.inr x2), none, none] [] σ := nw_run (cd := nw_cd20) rfl [(5, 5)] 5 (h)
set_option maxRecDepth 100000 in
theorem bk20_5 {G : nw_G} {Φ : Int → nw_S → Prop} {σ : nw_S} {x0 x2 x3 x4 : Int} (h : (nw_r x4) ∧ ((nw_r x2) ∧ ((x2 ≤ x4 → Φ x3 σ) ∧ (x4 < x2 → (0 ≤ x4 ∧ x4 < 5) ∧ ((nw_r (σ 15 (x4.toNat))) ∧ ((nw_r x0) ∧ (((σ 15 (x4.toNat)) ≠ x0 → nw_V G 20 (nw_pi Φ) 5 [some (.inr x0), some (.inl 15), some (.inr x2), some (.inr x3), some (.inr (x4 + 1))] [] σ) ∧ ((σ 15 (x4.toNat)) = x0 → nw_V G 20 (nw_pi Φ) 5 [some (.inr x0), some (.inl 15), some (.inr x2), some (.inr (x3 + 1)), some (.inr (x4 + 1))] [] σ)))))))) : nw_V G 20 (nw_pi Φ) 5 [some (.inr x0), some (.inl 15), some (.inr x2), some (.inr x3), some (.inr x4)] [] σ := nw_run (cd := nw_cd20) rfl [(5, 5)] 12 (h)
-- X2_together
set_option maxRecDepth 100000 in
theorem bk21_0 {G : nw_G} {Φ : Int → nw_S → Prop} {σ : nw_S} {x1 : Int} (h : nw_V G 21 (nw_pi Φ) 4 [some (.inl 15), some (.inr x1), some (.inr 0), some (.inr 0)] [] σ) : nw_V G 21 (nw_pi Φ) 0 [some (.inl 15), some (.inr x1), none, none] [] σ := nw_run (cd := nw_cd21) rfl [(4, 4)] 5 (h)
set_option maxRecDepth 100000 in
theorem bk21_4 {G : nw_G} {Φ : Int → nw_S → Prop} {σ : nw_S} {x1 x2 x3 : Int} (h : (nw_r x3) ∧ ((nw_r x1) ∧ ((x1 ≤ x3 → Φ x2 σ) ∧ (x3 < x1 → (0 ≤ x3 ∧ x3 < 5) ∧ (nw_V G 21 (nw_pi Φ) 4 [some (.inl 15), some (.inr x1), some (.inr (x2 + (σ 15 (x3.toNat)))), some (.inr (x3 + 1))] [] σ))))) : nw_V G 21 (nw_pi Φ) 4 [some (.inl 15), some (.inr x1), some (.inr x2), some (.inr x3)] [] σ := nw_run (cd := nw_cd21) rfl [(4, 4)] 12 (h)
-- X3_clear
set_option maxRecDepth 100000 in
theorem bk23_0_16 {G : nw_G} {Φ : nw_S → Prop} {σ : nw_S} (h : Φ (nw_up (nw_up (nw_up (nw_up σ 16 0 0) 16 1 0) 16 2 0) 16 3 0)) : nw_V G 23 (nw_pv Φ) 0 [some (.inl 16)] [] σ := nw_run (cd := nw_cd23) rfl [] 13 (h)
-- X3_clear
set_option maxRecDepth 100000 in
theorem bk23_0_17 {G : nw_G} {Φ : nw_S → Prop} {σ : nw_S} (h : Φ (nw_up (nw_up (nw_up (nw_up σ 17 0 0) 17 1 0) 17 2 0) 17 3 0)) : nw_V G 23 (nw_pv Φ) 0 [some (.inl 17)] [] σ := nw_run (cd := nw_cd23) rfl [] 13 (h)
-- X3_clear
set_option maxRecDepth 100000 in
theorem bk23_0_18 {G : nw_G} {Φ : nw_S → Prop} {σ : nw_S} (h : Φ (nw_up (nw_up (nw_up (nw_up σ 18 0 0) 18 1 0) 18 2 0) 18 3 0)) : nw_V G 23 (nw_pv Φ) 0 [some (.inl 18)] [] σ := nw_run (cd := nw_cd23) rfl [] 13 (h)
-- X3_see
set_option maxRecDepth 100000 in
theorem bk24_0_16 {G : nw_G} {Φ : nw_S → Prop} {σ : nw_S} {x1 x2 : Int} (h : (nw_r (σ 16 0)) ∧ (((σ 16 0) = 0 → Φ (nw_up (nw_up (nw_up (nw_up σ 16 1 x2) 16 2 x1) 16 3 1) 16 0 ((σ 16 0) + 1))) ∧ ((σ 16 0) ≠ 0 → (nw_r x2) ∧ ((nw_r (σ 16 1)) ∧ ((x2 ≤ (σ 16 1) → (x2 ≠ (σ 16 1) → Φ (nw_up σ 16 0 ((σ 16 0) + 1))) ∧ (x2 = (σ 16 1) → Φ (nw_up (nw_up σ 16 3 ((σ 16 3) + 1)) 16 0 ((σ 16 0) + 1)))) ∧ ((σ 16 1) < x2 → Φ (nw_up (nw_up (nw_up (nw_up σ 16 1 x2) 16 2 x1) 16 3 1) 16 0 ((σ 16 0) + 1)))))))) : nw_V G 24 (nw_pv Φ) 0 [some (.inl 16), some (.inr x1), some (.inr x2)] [] σ := nw_run (cd := nw_cd24) rfl [] 24 (And.intro h.1 (And.intro (fun q3 => ((h.2).1 q3)) (fun q3 => And.intro ((h.2).2 q3).1 (And.intro (((h.2).2 q3).2).1 (And.intro (fun q2 => And.intro ((h.2).2 q3).1 (And.intro (((h.2).2 q3).2).1 ((((((h.2).2 q3).2).2).1 q2)))) (fun q2 => (((((h.2).2 q3).2).2).2 q2)))))))
-- X3_see
set_option maxRecDepth 100000 in
theorem bk24_0_17 {G : nw_G} {Φ : nw_S → Prop} {σ : nw_S} {x1 x2 : Int} (h : (nw_r (σ 17 0)) ∧ (((σ 17 0) = 0 → Φ (nw_up (nw_up (nw_up (nw_up σ 17 1 x2) 17 2 x1) 17 3 1) 17 0 ((σ 17 0) + 1))) ∧ ((σ 17 0) ≠ 0 → (nw_r x2) ∧ ((nw_r (σ 17 1)) ∧ ((x2 ≤ (σ 17 1) → (x2 ≠ (σ 17 1) → Φ (nw_up σ 17 0 ((σ 17 0) + 1))) ∧ (x2 = (σ 17 1) → Φ (nw_up (nw_up σ 17 3 ((σ 17 3) + 1)) 17 0 ((σ 17 0) + 1)))) ∧ ((σ 17 1) < x2 → Φ (nw_up (nw_up (nw_up (nw_up σ 17 1 x2) 17 2 x1) 17 3 1) 17 0 ((σ 17 0) + 1)))))))) : nw_V G 24 (nw_pv Φ) 0 [some (.inl 17), some (.inr x1), some (.inr x2)] [] σ := nw_run (cd := nw_cd24) rfl [] 24 (And.intro h.1 (And.intro (fun q3 => ((h.2).1 q3)) (fun q3 => And.intro ((h.2).2 q3).1 (And.intro (((h.2).2 q3).2).1 (And.intro (fun q2 => And.intro ((h.2).2 q3).1 (And.intro (((h.2).2 q3).2).1 ((((((h.2).2 q3).2).2).1 q2)))) (fun q2 => (((((h.2).2 q3).2).2).2 q2)))))))
-- X3_see
set_option maxRecDepth 100000 in
theorem bk24_0_18 {G : nw_G} {Φ : nw_S → Prop} {σ : nw_S} {x1 x2 : Int} (h : (nw_r (σ 18 0)) ∧ (((σ 18 0) = 0 → Φ (nw_up (nw_up (nw_up (nw_up σ 18 1 x2) 18 2 x1) 18 3 1) 18 0 ((σ 18 0) + 1))) ∧ ((σ 18 0) ≠ 0 → (nw_r x2) ∧ ((nw_r (σ 18 1)) ∧ ((x2 ≤ (σ 18 1) → (x2 ≠ (σ 18 1) → Φ (nw_up σ 18 0 ((σ 18 0) + 1))) ∧ (x2 = (σ 18 1) → Φ (nw_up (nw_up σ 18 3 ((σ 18 3) + 1)) 18 0 ((σ 18 0) + 1)))) ∧ ((σ 18 1) < x2 → Φ (nw_up (nw_up (nw_up (nw_up σ 18 1 x2) 18 2 x1) 18 3 1) 18 0 ((σ 18 0) + 1)))))))) : nw_V G 24 (nw_pv Φ) 0 [some (.inl 18), some (.inr x1), some (.inr x2)] [] σ := nw_run (cd := nw_cd24) rfl [] 24 (And.intro h.1 (And.intro (fun q3 => ((h.2).1 q3)) (fun q3 => And.intro ((h.2).2 q3).1 (And.intro (((h.2).2 q3).2).1 (And.intro (fun q2 => And.intro ((h.2).2 q3).1 (And.intro (((h.2).2 q3).2).1 ((((((h.2).2 q3).2).2).1 q2)))) (fun q2 => (((((h.2).2 q3).2).2).2 q2)))))))
-- X3_lacksAgainst
set_option maxRecDepth 100000 in
theorem bk25_0a {G : nw_G} {Φ : Int → nw_S → Prop} {σ : nw_S} (h : (nw_r (σ 18 0)) ∧ (((σ 18 0) ≠ 0 → (nw_r (σ 17 2)) ∧ ((nw_r (σ 18 2)) ∧ (((σ 18 2) ≤ (σ 17 2) → (nw_r (((σ 18 1) - (σ 17 1)) + 1)) ∧ (Φ (if (((σ 18 1) - (σ 17 1)) + 1) < 0 then 0 else (((σ 18 1) - (σ 17 1)) + 1)) σ)) ∧ ((σ 17 2) < (σ 18 2) → (nw_r (((σ 18 1) - (σ 17 1)) + 0)) ∧ (Φ (if (((σ 18 1) - (σ 17 1)) + 0) < 0 then 0 else (((σ 18 1) - (σ 17 1)) + 0)) σ))))) ∧ ((σ 18 0) = 0 → Φ 0 σ))) : nw_V G 25 (nw_pi Φ) 0 [some (.inl 17), some (.inl 18), none] [] σ := nw_run (cd := nw_cd25) rfl [] 21 (And.intro h.1 (And.intro (fun q2 => And.intro ((h.2).1 q2).1 (And.intro (((h.2).1 q2).2).1 (And.intro (fun q1 => And.intro (((((h.2).1 q2).2).2).1 q1).1 (And.intro (by decide) ((((((h.2).1 q2).2).2).1 q1).2))) (fun q1 => And.intro (((((h.2).1 q2).2).2).2 q1).1 (And.intro (by decide) ((((((h.2).1 q2).2).2).2 q1).2)))))) (fun q2 => ((h.2).2 q2))))
-- X3_lacksAgainst
set_option maxRecDepth 100000 in
theorem bk25_0b {G : nw_G} {Φ : Int → nw_S → Prop} {σ : nw_S} (h : (nw_r (σ 17 0)) ∧ (((σ 17 0) ≠ 0 → (nw_r (σ 18 2)) ∧ ((nw_r (σ 17 2)) ∧ (((σ 17 2) ≤ (σ 18 2) → (nw_r (((σ 17 1) - (σ 18 1)) + 1)) ∧ (Φ (if (((σ 17 1) - (σ 18 1)) + 1) < 0 then 0 else (((σ 17 1) - (σ 18 1)) + 1)) σ)) ∧ ((σ 18 2) < (σ 17 2) → (nw_r (((σ 17 1) - (σ 18 1)) + 0)) ∧ (Φ (if (((σ 17 1) - (σ 18 1)) + 0) < 0 then 0 else (((σ 17 1) - (σ 18 1)) + 0)) σ))))) ∧ ((σ 17 0) = 0 → Φ 0 σ))) : nw_V G 25 (nw_pi Φ) 0 [some (.inl 18), some (.inl 17), none] [] σ := nw_run (cd := nw_cd25) rfl [] 21 (And.intro h.1 (And.intro (fun q2 => And.intro ((h.2).1 q2).1 (And.intro (((h.2).1 q2).2).1 (And.intro (fun q1 => And.intro (((((h.2).1 q2).2).2).1 q1).1 (And.intro (by decide) ((((((h.2).1 q2).2).2).1 q1).2))) (fun q1 => And.intro (((((h.2).1 q2).2).2).2 q1).1 (And.intro (by decide) ((((((h.2).1 q2).2).2).2 q1).2)))))) (fun q2 => ((h.2).2 q2))))
-- X4_choice
set_option maxRecDepth 100000 in
theorem bk27_0 {G : nw_G} {Φ : Int → nw_S → Prop} {σ : nw_S} {x1 : Int} (h : (nw_r x1) ∧ ((x1 < 1 → Φ (-1000002) σ) ∧ ((1 : Int) ≤ x1 → (x1 ≤ 6 → (nw_r (σ 1 0)) ∧ (((σ 1 0) < 5 → nw_TV G 3 [.inl 1, .inr x1] σ (fun u1 => nw_TV G 54 [.inl 0, .inr 0] u1 (fun u2 => nw_TV G 50 [.inl 0] u2 (fun u3 => Φ ((u3 1 0) - 1) u3)))) ∧ ((5 : Int) ≤ (σ 1 0) → Φ (-1000003) σ))) ∧ ((6 : Int) < x1 → Φ (-1000002) σ)))) : nw_V G 27 (nw_pi Φ) 0 [some (.inl 0), some (.inr x1)] [] σ := nw_run (cd := nw_cd27) rfl [] 26 (And.intro h.1 (And.intro (by decide) (And.intro (fun q3 => ((h.2).1 q3)) (fun q3 => And.intro h.1 (And.intro (by decide) (And.intro (fun q2 => And.intro (((h.2).2 q3).1 q2).1 (And.intro (by decide) ((((h.2).2 q3).1 q2).2))) (fun q2 => (((h.2).2 q3).2 q2))))))))
-- X4_worth
set_option maxRecDepth 100000 in
theorem bk28_0 {G : nw_G} {Φ : Int → nw_S → Prop} {σ : nw_S} {x1 x2 x3 : Int} (h : nw_TI G 2 [.inl 1, .inr x1, .inr x2] σ (fun v1 u1 => (nw_r v1) ∧ ((v1 ≠ 0 → (nw_r x3) ∧ ((x3 < (-1000) → Φ (-1000002) u1) ∧ ((-1000 : Int) ≤ x3 → (x3 ≤ 1000 → nw_TI G 4 [.inl 1, .inr x1, .inr x2, .inr x3] (nw_up u1 0 5 1) (fun v2 u2 => Φ v2 u2)) ∧ ((1000 : Int) < x3 → Φ (-1000002) u1)))) ∧ (v1 = 0 → Φ (-1000001) u1)))) : nw_V G 28 (nw_pi Φ) 0 [some (.inl 0), some (.inr x1), some (.inr x2), some (.inr x3)] [] σ := nw_run (cd := nw_cd28) rfl [] 22 (nw_TI.mono h (fun _ _ q_1 => And.intro q_1.1 (And.intro (fun q3 => And.intro ((q_1.2).1 q3).1 (And.intro (by decide) (And.intro (fun q2 => ((((q_1.2).1 q3).2).1 q2)) (fun q2 => And.intro ((q_1.2).1 q3).1 (And.intro (by decide) (And.intro (fun q1 => And.intro (by decide) ((((((q_1.2).1 q3).2).2 q2).1 q1))) (fun q1 => (((((q_1.2).1 q3).2).2 q2).2 q1)))))))) (fun q3 => ((q_1.2).2 q3)))))
-- X4_rule
set_option maxRecDepth 100000 in
theorem bk29_0 {G : nw_G} {Φ : Int → nw_S → Prop} {σ : nw_S} {x1 x2 x3 x4 x5 : Int} (h : nw_TI G 52 [.inl 0, .inr x1, .inr x2, .inr x3] σ (fun v1 u1 => (nw_r v1) ∧ ((v1 = 0 → nw_TI G 53 [.inr x1, .inr x2, .inr x3, .inr x4] u1 (fun v2 u2 => (nw_r v2) ∧ ((v2 = 0 → Φ (-1000002) u2) ∧ (v2 ≠ 0 → nw_TI G 51 [.inr x5] u2 (fun v3 u3 => (nw_r v3) ∧ ((v3 ≠ 0 → (nw_r (u3 6 0)) ∧ (((u3 6 0) < 12 → nw_TI G 15 [.inl 6, .inr x1, .inr x2, .inr x3, .inr x4, .inr x5] u3 (fun v4 u4 => nw_TV G 54 [.inl 0, .inr v4] u4 (fun u5 => nw_TV G 50 [.inl 0] u5 (fun u6 => Φ v4 u6)))) ∧ ((12 : Int) ≤ (u3 6 0) → Φ (-1000003) u3))) ∧ (v3 = 0 → Φ (-1000002) u3))))))) ∧ (v1 ≠ 0 → Φ (-1000001) u1)))) : nw_V G 29 (nw_pi Φ) 0 [some (.inl 0), some (.inr x1), some (.inr x2), some (.inr x3), some (.inr x4), some (.inr x5), none] [] σ := nw_run (cd := nw_cd29) rfl [] 36 (nw_TI.mono h (fun _ _ q_1 => And.intro q_1.1 (And.intro (fun q4 => nw_TI.mono ((q_1.2).1 q4) (fun _ _ q_2 => And.intro q_2.1 (And.intro (fun q3 => ((q_2.2).1 q3)) (fun q3 => nw_TI.mono ((q_2.2).2 q3) (fun _ _ q_3 => And.intro q_3.1 (And.intro (fun q2 => And.intro ((q_3.2).1 q2).1 (And.intro (by decide) (((q_3.2).1 q2).2))) (fun q2 => ((q_3.2).2 q2)))))))) (fun q4 => ((q_1.2).2 q4)))))
-- X4_mode
set_option maxRecDepth 100000 in
theorem bk30_0 {G : nw_G} {Φ : Int → nw_S → Prop} {σ : nw_S} {x1 x2 : Int} (h : nw_TI G 13 [.inl 6, .inr x1] σ (fun v1 u1 => (nw_r v1) ∧ ((v1 ≠ 0 → (nw_r x2) ∧ ((x2 < 0 → Φ (-1000002) u1) ∧ ((0 : Int) ≤ x2 → (x2 ≤ 2 → (0 ≤ x1 ∧ x1 < 12) ∧ (nw_TV G 50 [.inl 0] (nw_up u1 12 (x1.toNat) x2) (fun u2 => Φ (u1 12 (x1.toNat)) u2))) ∧ ((2 : Int) < x2 → Φ (-1000002) u1)))) ∧ (v1 = 0 → Φ (-1000001) u1)))) : nw_V G 30 (nw_pi Φ) 0 [some (.inl 0), some (.inr x1), some (.inr x2), none] [] σ := nw_run (cd := nw_cd30) rfl [] 26 (nw_TI.mono h (fun _ _ q_1 => And.intro q_1.1 (And.intro (fun q3 => And.intro ((q_1.2).1 q3).1 (And.intro (fun q2 => ((((q_1.2).1 q3).2).1 q2)) (fun q2 => And.intro ((q_1.2).1 q3).1 (And.intro (by decide) (And.intro (fun q1 => And.intro (((((q_1.2).1 q3).2).2 q2).1 q1).1 (And.intro (((((q_1.2).1 q3).2).2 q2).1 q1).1 ((((((q_1.2).1 q3).2).2 q2).1 q1).2))) (fun q1 => (((((q_1.2).1 q3).2).2 q2).2 q1))))))) (fun q3 => ((q_1.2).2 q3)))))
-- X4_weigh
set_option maxRecDepth 100000 in
theorem bk31_0 {G : nw_G} {Φ : Int → nw_S → Prop} {σ : nw_S} {x1 x2 : Int} (h : nw_TI G 13 [.inl 6, .inr x1] σ (fun v1 u1 => (nw_r v1) ∧ ((v1 ≠ 0 → nw_TI G 51 [.inr x2] u1 (fun v2 u2 => (nw_r v2) ∧ ((v2 ≠ 0 → nw_TV G 50 [.inl 0] u2 (fun u3 => nw_TI G 16 [.inl 6, .inr x1, .inr x2] u3 (fun v4 u4 => Φ v4 u4))) ∧ (v2 = 0 → Φ (-1000002) u2)))) ∧ (v1 = 0 → Φ (-1000001) u1)))) : nw_V G 31 (nw_pi Φ) 0 [some (.inl 0), some (.inr x1), some (.inr x2)] [] σ := nw_run (cd := nw_cd31) rfl [] 16 (h)
-- X4_told
set_option maxRecDepth 100000 in
theorem bk32_0 {G : nw_G} {Φ : Int → nw_S → Prop} {σ : nw_S} {x1 x2 : Int} (h : nw_TI G 13 [.inl 6, .inr x1] σ (fun v1 u1 => (nw_r v1) ∧ ((v1 ≠ 0 → nw_r x2 ∧ (x2 < 0 ∨ 5 < x2 → Φ (-1000002) u1) ∧ (x2 = 0 → (0 ≤ x1 ∧ x1 < 12) ∧ (Φ (u1 7 (x1.toNat)) u1)) ∧ (x2 = 1 → (0 ≤ x1 ∧ x1 < 12) ∧ (Φ (u1 8 (x1.toNat)) u1)) ∧ (x2 = 2 → (0 ≤ x1 ∧ x1 < 12) ∧ (Φ (u1 9 (x1.toNat)) u1)) ∧ (x2 = 3 → (0 ≤ x1 ∧ x1 < 12) ∧ (Φ (u1 10 (x1.toNat)) u1)) ∧ (x2 = 4 → (0 ≤ x1 ∧ x1 < 12) ∧ (Φ (u1 11 (x1.toNat)) u1)) ∧ (x2 = 5 → (0 ≤ x1 ∧ x1 < 12) ∧ (Φ (u1 12 (x1.toNat)) u1))) ∧ (v1 = 0 → Φ (-1000001) u1)))) : nw_V G 32 (nw_pi Φ) 0 [some (.inl 0), some (.inr x1), some (.inr x2)] [] σ := nw_run (cd := nw_cd32) rfl [] 13 (nw_TI.mono h (fun _ _ q_1 => And.intro q_1.1 (And.intro (fun q1 => And.intro ((q_1.2).1 q1).1 (And.intro (fun q2 => (((q_1.2).1 q1).2.1 q2)) (And.intro (fun q2 => (((q_1.2).1 q1).2.2.1 q2)) (And.intro (fun q2 => (((q_1.2).1 q1).2.2.2.1 q2)) (And.intro (fun q2 => (((q_1.2).1 q1).2.2.2.2.1 q2)) (And.intro (fun q2 => (((q_1.2).1 q1).2.2.2.2.2.1 q2)) (And.intro (fun q2 => (((q_1.2).1 q1).2.2.2.2.2.2.1 q2)) (And.intro (fun q2 => (((q_1.2).1 q1).2.2.2.2.2.2.2 q2)) (True.intro))))))))) (fun q1 => ((q_1.2).2 q1)))))
-- X4_count
set_option maxRecDepth 100000 in
theorem bk33_0 {G : nw_G} {Φ : Int → nw_S → Prop} {σ : nw_S} {x1 : Int} (h : nw_r x1 ∧ (x1 < 0 ∨ 6 < x1 → Φ (-1000002) σ) ∧ (x1 = 0 → Φ (σ 1 0) σ) ∧ (x1 = 1 → Φ (σ 6 0) σ) ∧ (x1 = 2 → Φ (σ 1 1) σ) ∧ (x1 = 3 → nw_TV G 58 [.inl 0] σ (fun u1 => Φ (u1 16 0) u1)) ∧ (x1 = 4 → nw_TV G 58 [.inl 0] σ (fun u2 => Φ (u2 16 3) u2)) ∧ (x1 = 5 → nw_TV G 60 [.inl 0] σ (fun u3 => Φ (u3 20 0) u3)) ∧ (x1 = 6 → nw_TV G 60 [.inl 0] σ (fun u4 => Φ (u4 23 0) u4))) : nw_V G 33 (nw_pi Φ) 0 [some (.inl 0), some (.inr x1)] [] σ := nw_run (cd := nw_cd33) rfl [] 8 (And.intro h.1 (And.intro (fun q1 => (h.2.1 q1)) (And.intro (fun q1 => (h.2.2.1 q1)) (And.intro (fun q1 => (h.2.2.2.1 q1)) (And.intro (fun q1 => (h.2.2.2.2.1 q1)) (And.intro (fun q1 => (h.2.2.2.2.2.1 q1)) (And.intro (fun q1 => (h.2.2.2.2.2.2.1 q1)) (And.intro (fun q1 => (h.2.2.2.2.2.2.2.1 q1)) (And.intro (fun q1 => (h.2.2.2.2.2.2.2.2 q1)) (True.intro))))))))))
-- X4_best
set_option maxRecDepth 100000 in
theorem bk34_0 {G : nw_G} {Φ : Int → nw_S → Prop} {σ : nw_S} (h : nw_TV G 58 [.inl 0] σ (fun u1 => (nw_r (u1 16 0)) ∧ (((u1 16 0) ≠ 0 → Φ (u1 16 1) u1) ∧ ((u1 16 0) = 0 → Φ (-1000004) u1)))) : nw_V G 34 (nw_pi Φ) 0 [some (.inl 0)] [] σ := nw_run (cd := nw_cd34) rfl [] 10 (h)
-- X4_pick
set_option maxRecDepth 100000 in
theorem bk35_0 {G : nw_G} {Φ : Int → nw_S → Prop} {σ : nw_S} {x1 : Int} (h : nw_TI G 1 [.inl 1, .inr x1] σ (fun v1 u1 => (nw_r v1) ∧ ((v1 ≠ 0 → nw_TV G 58 [.inl 0] u1 (fun u2 => (nw_r (u2 16 0)) ∧ (((u2 16 0) ≠ 0 → nw_TI G 5 [.inl 1, .inr (u2 16 2), .inr x1] u2 (fun v3 u3 => Φ v3 u3)) ∧ ((u2 16 0) = 0 → Φ (-1000004) u2)))) ∧ (v1 = 0 → Φ (-1000001) u1)))) : nw_V G 35 (nw_pi Φ) 0 [some (.inl 0), some (.inr x1)] [] σ := nw_run (cd := nw_cd35) rfl [] 19 (h)
-- X4_fixed
set_option maxRecDepth 100000 in
theorem bk36_0 {G : nw_G} {Φ : Int → nw_S → Prop} {σ : nw_S} {x1 : Int} (h : nw_TI G 1 [.inl 1, .inr x1] σ (fun v1 u1 => (nw_r v1) ∧ ((v1 ≠ 0 → nw_TV G 58 [.inl 0] u1 (fun u2 => (nw_r (u2 16 0)) ∧ (((u2 16 0) ≠ 0 → nw_TI G 17 [.inl 6, .inr 1] u2 (fun v3 u3 => nw_TI G 17 [.inl 6, .inr 2] u3 (fun v4 u4 => nw_TI G 5 [.inl 1, .inr (u4 16 2), .inr x1] u4 (fun v5 u5 => nw_V G 36 (nw_pi Φ) 77 [some (.inl 0), some (.inr x1), some (.inr v3), some (.inr v4), some (.inr v5), some (.inr ((u5 16 2) + 1))] [] u5)))) ∧ ((u2 16 0) = 0 → Φ (-1000004) u2)))) ∧ (v1 = 0 → Φ (-1000001) u1)))) : nw_V G 36 (nw_pi Φ) 0 [some (.inl 0), some (.inr x1), none, none, none, none] [] σ := nw_run (cd := nw_cd36) rfl [(77, 6)] 36 (h)
set_option maxRecDepth 100000 in
theorem bk36_77 {G : nw_G} {Φ : Int → nw_S → Prop} {σ : nw_S} {x1 x2 x3 x4 x5 : Int} (h : (nw_r x5) ∧ ((nw_r (σ 1 1)) ∧ (((σ 1 1) ≤ x5 → Φ x4 σ) ∧ (x5 < (σ 1 1) → (0 ≤ x5 ∧ x5 < 7776) ∧ ((nw_r (nw_and (σ 14 (x5.toNat)) x2)) ∧ (((nw_and (σ 14 (x5.toNat)) x2) ≠ 0 → nw_V G 36 (nw_pi Φ) 77 [some (.inl 0), some (.inr x1), some (.inr x2), some (.inr x3), some (.inr x4), some (.inr (x5 + 1))] [] σ) ∧ ((nw_and (σ 14 (x5.toNat)) x2) = 0 → nw_TI G 56 [.inl 0, .inr x5, .inr x3] σ (fun v1 u1 => (nw_r v1) ∧ ((nw_r (u1 16 1)) ∧ ((v1 ≠ (u1 16 1) → nw_V G 36 (nw_pi Φ) 77 [some (.inl 0), some (.inr x1), some (.inr x2), some (.inr x3), some (.inr x4), some (.inr (x5 + 1))] [] u1) ∧ (v1 = (u1 16 1) → nw_TI G 5 [.inl 1, .inr x5, .inr x1] u1 (fun v2 u2 => (nw_r v2) ∧ ((nw_r x4) ∧ ((v2 = x4 → nw_V G 36 (nw_pi Φ) 77 [some (.inl 0), some (.inr x1), some (.inr x2), some (.inr x3), some (.inr x4), some (.inr (x5 + 1))] [] u2) ∧ (v2 ≠ x4 → Φ (-1) u2))))))))))))))) : nw_V G 36 (nw_pi Φ) 77 [some (.inl 0), some (.inr x1), some (.inr x2), some (.inr x3), some (.inr x4), some (.inr x5)] [] σ := nw_run (cd := nw_cd36) rfl [(77, 6)] 30 (h)
-- X4_force
set_option maxRecDepth 100000 in
theorem bk37_0 {G : nw_G} {Φ : Int → nw_S → Prop} {σ : nw_S} {x1 x2 : Int} (h : nw_TI G 2 [.inl 1, .inr x1, .inr x2] σ (fun v1 u1 => (nw_r v1) ∧ ((v1 ≠ 0 → nw_TV G 59 [.inl 0, .inr x1, .inr x2] u1 (fun u2 => (nw_r (u2 17 0)) ∧ (((u2 17 0) ≠ 0 → Φ (u2 17 1) u2) ∧ ((u2 17 0) = 0 → Φ (-1000004) u2)))) ∧ (v1 = 0 → Φ (-1000001) u1)))) : nw_V G 37 (nw_pi Φ) 0 [some (.inl 0), some (.inr x1), some (.inr x2)] [] σ := nw_run (cd := nw_cd37) rfl [] 18 (h)
-- X4_forced
set_option maxRecDepth 100000 in
theorem bk38_0 {G : nw_G} {Φ : Int → nw_S → Prop} {σ : nw_S} {x1 x2 x3 : Int} (h : nw_TI G 2 [.inl 1, .inr x1, .inr x2] σ (fun v1 u1 => (nw_r v1) ∧ ((v1 = 0 → Φ (-1000001) u1) ∧ (v1 ≠ 0 → nw_TI G 1 [.inl 1, .inr x3] u1 (fun v2 u2 => (nw_r v2) ∧ ((v2 ≠ 0 → nw_TV G 59 [.inl 0, .inr x1, .inr x2] u2 (fun u3 => (nw_r (u3 17 0)) ∧ (((u3 17 0) ≠ 0 → nw_TI G 5 [.inl 1, .inr (u3 17 2), .inr x3] u3 (fun v4 u4 => Φ v4 u4)) ∧ ((u3 17 0) = 0 → Φ (-1000004) u3)))) ∧ (v2 = 0 → Φ (-1000001) u2))))))) : nw_V G 38 (nw_pi Φ) 0 [some (.inl 0), some (.inr x1), some (.inr x2), some (.inr x3)] [] σ := nw_run (cd := nw_cd38) rfl [] 27 (h)
-- X4_avoid
set_option maxRecDepth 100000 in
theorem bk39_0 {G : nw_G} {Φ : Int → nw_S → Prop} {σ : nw_S} {x1 x2 : Int} (h : nw_TI G 2 [.inl 1, .inr x1, .inr x2] σ (fun v1 u1 => (nw_r v1) ∧ ((v1 ≠ 0 → nw_TV G 59 [.inl 0, .inr x1, .inr x2] u1 (fun u2 => (nw_r (u2 18 0)) ∧ (((u2 18 0) ≠ 0 → Φ (u2 18 1) u2) ∧ ((u2 18 0) = 0 → Φ (-1000004) u2)))) ∧ (v1 = 0 → Φ (-1000001) u1)))) : nw_V G 39 (nw_pi Φ) 0 [some (.inl 0), some (.inr x1), some (.inr x2)] [] σ := nw_run (cd := nw_cd39) rfl [] 18 (h)
-- X4_raise
set_option maxRecDepth 100000 in
theorem bk40_0 {G : nw_G} {Φ : Int → nw_S → Prop} {σ : nw_S} {x1 x2 : Int} (h : nw_TI G 2 [.inl 1, .inr x1, .inr x2] σ (fun v1 u1 => (nw_r v1) ∧ ((v1 ≠ 0 → nw_TV G 59 [.inl 0, .inr x1, .inr x2] u1 (fun u2 => (nw_r (u2 17 0)) ∧ (((u2 17 0) ≠ 0 → nw_TI G 25 [.inl 17, .inl 18] u2 (fun v3 u3 => Φ v3 u3)) ∧ ((u2 17 0) = 0 → Φ (-1000004) u2)))) ∧ (v1 = 0 → Φ (-1000001) u1)))) : nw_V G 40 (nw_pi Φ) 0 [some (.inl 0), some (.inr x1), some (.inr x2)] [] σ := nw_run (cd := nw_cd40) rfl [] 20 (h)
-- X4_lower
set_option maxRecDepth 100000 in
theorem bk41_0 {G : nw_G} {Φ : Int → nw_S → Prop} {σ : nw_S} {x1 x2 : Int} (h : nw_TI G 2 [.inl 1, .inr x1, .inr x2] σ (fun v1 u1 => (nw_r v1) ∧ ((v1 ≠ 0 → nw_TV G 59 [.inl 0, .inr x1, .inr x2] u1 (fun u2 => (nw_r (u2 18 0)) ∧ (((u2 18 0) ≠ 0 → nw_TI G 25 [.inl 18, .inl 17] u2 (fun v3 u3 => Φ v3 u3)) ∧ ((u2 18 0) = 0 → Φ (-1000004) u2)))) ∧ (v1 = 0 → Φ (-1000001) u1)))) : nw_V G 41 (nw_pi Φ) 0 [some (.inl 0), some (.inr x1), some (.inr x2)] [] σ := nw_run (cd := nw_cd41) rfl [] 20 (h)
-- X4_needs
set_option maxRecDepth 100000 in
theorem bk42_0 {G : nw_G} {Φ : Int → nw_S → Prop} {σ : nw_S} {x1 x2 : Int} (h : nw_TI G 2 [.inl 1, .inr x1, .inr x2] σ (fun v1 u1 => (nw_r v1) ∧ ((v1 ≠ 0 → nw_TI G 17 [.inl 6, .inr 1] u1 (fun v2 u2 => nw_V G 42 (nw_pi Φ) 30 [some (.inl 0), some (.inr x1), some (.inr x2), some (.inr v2), some (.inr (-1)), some (.inr 0), none] [] u2)) ∧ (v1 = 0 → Φ (-1000001) u1)))) : nw_V G 42 (nw_pi Φ) 0 [some (.inl 0), some (.inr x1), some (.inr x2), none, none, none, none] [] σ := nw_run (cd := nw_cd42) rfl [(30, 6)] 16 (h)
set_option maxRecDepth 100000 in
theorem bk42_30 {G : nw_G} {Φ : Int → nw_S → Prop} {σ : nw_S} {x1 x2 x3 x4 x5 : Int} (h : (nw_r x5) ∧ ((nw_r (σ 1 1)) ∧ (((σ 1 1) ≤ x5 → Φ x4 σ) ∧ (x5 < (σ 1 1) → nw_TI G 5 [.inl 1, .inr x5, .inr x1] σ (fun v1 u1 => (nw_r v1) ∧ ((nw_r x2) ∧ ((v1 ≠ x2 → nw_V G 42 (nw_pi Φ) 30 [some (.inl 0), some (.inr x1), some (.inr x2), some (.inr x3), some (.inr x4), some (.inr (x5 + 1)), none] [] u1) ∧ (v1 = x2 → (0 ≤ x5 ∧ x5 < 7776) ∧ ((nw_r x4) ∧ ((x4 = (-1) → nw_V G 42 (nw_pi Φ) 30 [some (.inl 0), some (.inr x1), some (.inr x2), some (.inr x3), some (.inr (nw_and (u1 14 (x5.toNat)) x3)), some (.inr (x5 + 1)), none] [] u1) ∧ (x4 ≠ (-1) → nw_TI G 18 [.inl 6, .inr (nw_and (u1 14 (x5.toNat)) x3), .inr x4] u1 (fun v2 u2 => (nw_r v2) ∧ ((v2 = 0 → nw_V G 42 (nw_pi Φ) 30 [some (.inl 0), some (.inr x1), some (.inr x2), some (.inr x3), some (.inr x4), some (.inr (x5 + 1)), none] [] u2) ∧ (v2 ≠ 0 → nw_V G 42 (nw_pi Φ) 30 [some (.inl 0), some (.inr x1), some (.inr x2), some (.inr x3), some (.inr (nw_and (u1 14 (x5.toNat)) x3)), some (.inr (x5 + 1)), none] [] u2)))))))))))))) : nw_V G 42 (nw_pi Φ) 30 [some (.inl 0), some (.inr x1), some (.inr x2), some (.inr x3), some (.inr x4), some (.inr x5), none] [] σ := nw_run (cd := nw_cd42) rfl [(30, 6)] 33 (And.intro h.1 (And.intro (h.2).1 (And.intro (fun q4 => (((h.2).2).1 q4)) (fun q4 => nw_TI.mono (((h.2).2).2 q4) (fun _ _ q_1 => And.intro q_1.1 (And.intro (q_1.2).1 (And.intro (fun q3 => (((q_1.2).2).1 q3)) (fun q3 => And.intro (((q_1.2).2).2 q3).1 (And.intro ((((q_1.2).2).2 q3).2).1 (And.intro (by decide) (((((q_1.2).2).2 q3).2).2)))))))))))
-- X4_clash
set_option maxRecDepth 100000 in
theorem bk43_0 {G : nw_G} {Φ : Int → nw_S → Prop} {σ : nw_S} (h : nw_TV G 60 [.inl 0] σ (fun u1 => nw_TI G 17 [.inl 6, .inr 1] u1 (fun v2 u2 => (0 ≤ v2 ∧ v2 < 4096) ∧ ((nw_r (u2 19 (v2.toNat))) ∧ (((u2 19 (v2.toNat)) = 0 → nw_V G 43 (nw_pi Φ) 26 [some (.inl 0), some (.inr v2), some (.inr 0), none] [] u2) ∧ ((u2 19 (v2.toNat)) ≠ 0 → Φ 0 u2)))))) : nw_V G 43 (nw_pi Φ) 0 [some (.inl 0), none, none, none] [] σ := nw_run (cd := nw_cd43) rfl [(26, 3)] 15 (h)
set_option maxRecDepth 100000 in
theorem bk43_26 {G : nw_G} {Φ : Int → nw_S → Prop} {σ : nw_S} {x1 x2 : Int} (h : (nw_r x2) ∧ ((nw_r (σ 6 0)) ∧ (((σ 6 0) ≤ x2 → Φ x1 σ) ∧ (x2 < (σ 6 0) → (0 ≤ (nw_and x1 (nw_xor (nw_shl 1 x2) (-1))) ∧ (nw_and x1 (nw_xor (nw_shl 1 x2) (-1))) < 4096) ∧ ((nw_r (σ 19 ((nw_and x1 (nw_xor (nw_shl 1 x2) (-1))).toNat))) ∧ (((σ 19 ((nw_and x1 (nw_xor (nw_shl 1 x2) (-1))).toNat)) ≠ 0 → nw_V G 43 (nw_pi Φ) 26 [some (.inl 0), some (.inr x1), some (.inr (x2 + 1)), none] [] σ) ∧ ((σ 19 ((nw_and x1 (nw_xor (nw_shl 1 x2) (-1))).toNat)) = 0 → nw_V G 43 (nw_pi Φ) 26 [some (.inl 0), some (.inr (nw_and x1 (nw_xor (nw_shl 1 x2) (-1)))), some (.inr (x2 + 1)), none] [] σ))))))) : nw_V G 43 (nw_pi Φ) 26 [some (.inl 0), some (.inr x1), some (.inr x2), none] [] σ := nw_run (cd := nw_cd43) rfl [(26, 3)] 23 (h)
-- X4_clashAt
set_option maxRecDepth 100000 in
theorem bk44_0 {G : nw_G} {Φ : Int → nw_S → Prop} {σ : nw_S} {x1 : Int} (h : nw_TV G 60 [.inl 0] σ (fun u1 => nw_TI G 11 [.inl 20, .inr x1] u1 (fun v2 u2 => Φ v2 u2))) : nw_V G 44 (nw_pi Φ) 0 [some (.inl 0), some (.inr x1)] [] σ := nw_run (cd := nw_cd44) rfl [] 7 (h)
-- X4_relaxAt
set_option maxRecDepth 100000 in
theorem bk45_0 {G : nw_G} {Φ : Int → nw_S → Prop} {σ : nw_S} {x1 : Int} (h : nw_TV G 60 [.inl 0] σ (fun u1 => nw_TI G 11 [.inl 23, .inr x1] u1 (fun v2 u2 => Φ v2 u2))) : nw_V G 45 (nw_pi Φ) 0 [some (.inl 0), some (.inr x1)] [] σ := nw_run (cd := nw_cd45) rfl [] 7 (h)
-- X4_cost
set_option maxRecDepth 100000 in
theorem bk46_0 {G : nw_G} {Φ : Int → nw_S → Prop} {σ : nw_S} {x1 : Int} (h : (nw_r x1) ∧ ((x1 < 0 → Φ (-1000001) σ) ∧ ((0 : Int) ≤ x1 → nw_TI G 14 [.inl 6] σ (fun v1 u1 => (nw_r v1) ∧ ((x1 < v1 → (0 ≤ x1 ∧ x1 < 4096) ∧ (Φ (u1 13 (x1.toNat)) u1)) ∧ (v1 ≤ x1 → Φ (-1000001) u1)))))) : nw_V G 46 (nw_pi Φ) 0 [some (.inl 0), some (.inr x1)] [] σ := nw_run (cd := nw_cd46) rfl [] 13 (And.intro h.1 (And.intro (fun q2 => ((h.2).1 q2)) (fun q2 => nw_TI.mono ((h.2).2 q2) (fun _ _ q_1 => And.intro h.1 (q_1)))))
-- X4_price
set_option maxRecDepth 100000 in
theorem bk47_0 {G : nw_G} {Φ : Int → nw_S → Prop} {σ : nw_S} {x1 : Int} (h : nw_TI G 13 [.inl 6, .inr x1] σ (fun v1 u1 => (nw_r v1) ∧ ((v1 ≠ 0 → nw_TV G 58 [.inl 0] u1 (fun u2 => (nw_r (u2 16 0)) ∧ (((u2 16 0) ≠ 0 → nw_TI G 17 [.inl 6, .inr 1] u2 (fun v3 u3 => nw_TI G 17 [.inl 6, .inr 2] u3 (fun v4 u4 => nw_TV G 57 [.inl 0, .inl 18, .inr (nw_and v3 (nw_xor (nw_shl 1 x1) (-1))), .inr (nw_and v4 (nw_xor (nw_shl 1 x1) (-1)))] u4 (fun u5 => Φ ((u5 18 1) - (u5 16 1)) u5)))) ∧ ((u2 16 0) = 0 → Φ (-1000004) u2)))) ∧ (v1 = 0 → Φ (-1000001) u1)))) : nw_V G 47 (nw_pi Φ) 0 [some (.inl 0), some (.inr x1), none] [] σ := nw_run (cd := nw_cd47) rfl [] 41 (h)
-- X4_breaks
set_option maxRecDepth 100000 in
theorem bk48_0 {G : nw_G} {Φ : Int → nw_S → Prop} {σ : nw_S} {x1 x2 x3 x4 x5 : Int} (h : nw_TI G 55 [.inl 0, .inr x1, .inr x2, .inr x3, .inr x4, .inr x5] σ (fun v1 u1 => (nw_r v1) ∧ ((v1 ≠ (-1) → (0 ≤ v1 ∧ v1 < 7776) ∧ (nw_TI G 17 [.inl 6, .inr 1] u1 (fun v2 u2 => nw_TI G 17 [.inl 6, .inr 2] u2 (fun v3 u3 => Φ (nw_and (u1 14 (v1.toNat)) (nw_or v2 v3)) u3)))) ∧ (v1 = (-1) → Φ (-1000001) u1)))) : nw_V G 48 (nw_pi Φ) 0 [some (.inl 0), some (.inr x1), some (.inr x2), some (.inr x3), some (.inr x4), some (.inr x5), none] [] σ := nw_run (cd := nw_cd48) rfl [] 26 (nw_TI.mono h (fun _ _ q_1 => And.intro q_1.1 (And.intro (by decide) (q_1.2))))
-- X4_score
set_option maxRecDepth 100000 in
theorem bk49_0 {G : nw_G} {Φ : Int → nw_S → Prop} {σ : nw_S} {x1 x2 x3 x4 x5 : Int} (h : nw_TI G 55 [.inl 0, .inr x1, .inr x2, .inr x3, .inr x4, .inr x5] σ (fun v1 u1 => (nw_r v1) ∧ ((v1 ≠ (-1) → nw_TI G 17 [.inl 6, .inr 2] u1 (fun v2 u2 => nw_TI G 56 [.inl 0, .inr v1, .inr v2] u2 (fun v3 u3 => Φ v3 u3))) ∧ (v1 = (-1) → Φ (-1000001) u1)))) : nw_V G 49 (nw_pi Φ) 0 [some (.inl 0), some (.inr x1), some (.inr x2), some (.inr x3), some (.inr x4), some (.inr x5), none] [] σ := nw_run (cd := nw_cd49) rfl [] 19 (nw_TI.mono h (fun _ _ q_1 => And.intro q_1.1 (And.intro (by decide) (q_1.2))))
-- X4_forgetAll
set_option maxRecDepth 100000 in
theorem bk50_0 {G : nw_G} {Φ : nw_S → Prop} {σ : nw_S} (h : Φ (nw_up (nw_up σ 0 5 1) 0 11 1)) : nw_V G 50 (nw_pv Φ) 0 [some (.inl 0)] [] σ := nw_run (cd := nw_cd50) rfl [] 7 (And.intro (by decide) (And.intro (by decide) (h)))
-- X4_isWeight
set_option maxRecDepth 100000 in
theorem bk51_0 {G : nw_G} {Φ : Int → nw_S → Prop} {σ : nw_S} {x0 : Int} (h : (nw_r x0) ∧ ((x0 < 1 → Φ 0 σ) ∧ ((1 : Int) ≤ x0 → ((1000 : Int) < x0 → Φ 0 σ) ∧ (x0 ≤ 1000 → Φ 1 σ)))) : nw_V G 51 (nw_pi Φ) 0 [some (.inr x0)] [] σ := nw_run (cd := nw_cd51) rfl [] 9 (And.intro h.1 (And.intro (by decide) (And.intro (fun q2 => And.intro (by decide) (((h.2).1 q2))) (fun q2 => And.intro h.1 (And.intro (by decide) (And.intro (fun q1 => And.intro (by decide) ((((h.2).2 q2).1 q1))) (fun q1 => And.intro (by decide) ((((h.2).2 q2).2 q1)))))))))
-- X4_namesNoChoice
set_option maxRecDepth 100000 in
theorem bk52_0 {G : nw_G} {Φ : Int → nw_S → Prop} {σ : nw_S} {x1 x2 x3 : Int} (h : (nw_r x1) ∧ ((x1 ≠ 0 → (x1 < 1 → Φ 0 σ) ∧ ((1 : Int) ≤ x1 → ((5 : Int) < x1 → Φ 0 σ) ∧ (x1 ≤ 5 → nw_TI G 1 [.inl 1, .inr x2] σ (fun v1 u1 => (nw_r v1) ∧ ((v1 = 0 → Φ 1 u1) ∧ (v1 ≠ 0 → nw_TI G 1 [.inl 1, .inr x3] u1 (fun v2 u2 => (nw_r v2) ∧ ((v2 ≠ 0 → Φ 0 u2) ∧ (v2 = 0 → Φ 1 u2))))))))) ∧ (x1 = 0 → nw_TI G 1 [.inl 1, .inr x2] σ (fun v3 u3 => (nw_r v3) ∧ ((v3 ≠ 0 → Φ 0 u3) ∧ (v3 = 0 → Φ 1 u3)))))) : nw_V G 52 (nw_pi Φ) 0 [some (.inl 0), some (.inr x1), some (.inr x2), some (.inr x3)] [] σ := nw_run (cd := nw_cd52) rfl [] 21 (And.intro h.1 (And.intro (fun q6 => And.intro h.1 (And.intro (by decide) (And.intro (fun q4 => And.intro (by decide) ((((h.2).1 q6).1 q4))) (fun q4 => And.intro h.1 (And.intro (by decide) (And.intro (fun q3 => And.intro (by decide) (((((h.2).1 q6).2 q4).1 q3))) (fun q3 => nw_TI.mono ((((h.2).1 q6).2 q4).2 q3) (fun _ _ q_1 => And.intro q_1.1 (And.intro (fun q2 => And.intro (by decide) (((q_1.2).1 q2))) (fun q2 => nw_TI.mono ((q_1.2).2 q2) (fun _ _ q_2 => And.intro q_2.1 (And.intro (fun q1 => And.intro (by decide) (((q_2.2).1 q1))) (fun q1 => And.intro (by decide) (((q_2.2).2 q1))))))))))))))) (fun q6 => nw_TI.mono ((h.2).2 q6) (fun _ _ q_3 => And.intro q_3.1 (And.intro (fun q5 => And.intro (by decide) (((q_3.2).1 q5))) (fun q5 => And.intro (by decide) (((q_3.2).2 q5))))))))
-- X4_isWellTold
set_option maxRecDepth 100000 in
theorem bk53_0 {G : nw_G} {Φ : Int → nw_S → Prop} {σ : nw_S} {x0 x1 x2 x3 : Int} (h : nw_r x0 ∧ (x0 < 0 ∨ 8 < x0 → Φ 0 σ) ∧ (x0 = 0 → (nw_r x3) ∧ ((x3 < 0 → Φ 0 σ) ∧ ((0 : Int) ≤ x3 → ((63 : Int) < x3 → Φ 0 σ) ∧ (x3 ≤ 63 → Φ 1 σ)))) ∧ (x0 = 1 → (nw_r x1) ∧ ((nw_r x2) ∧ ((x1 = x2 → Φ 0 σ) ∧ (x1 ≠ x2 → Φ 1 σ)))) ∧ (x0 = 2 → (nw_r x1) ∧ ((nw_r x2) ∧ ((x1 = x2 → Φ 0 σ) ∧ (x1 ≠ x2 → Φ 1 σ)))) ∧ (x0 = 3 → (nw_r x1) ∧ ((nw_r x2) ∧ ((x1 = x2 → Φ 0 σ) ∧ (x1 ≠ x2 → (nw_r x3) ∧ ((x3 < (-5) → Φ 0 σ) ∧ ((-5 : Int) ≤ x3 → ((5 : Int) < x3 → Φ 0 σ) ∧ (x3 ≤ 5 → Φ 1 σ))))))) ∧ (x0 = 4 → (nw_r x1) ∧ ((nw_r x2) ∧ ((x1 = x2 → Φ 0 σ) ∧ (x1 ≠ x2 → (nw_r x3) ∧ ((x3 < 0 → Φ 0 σ) ∧ ((0 : Int) ≤ x3 → ((5 : Int) < x3 → Φ 0 σ) ∧ (x3 ≤ 5 → Φ 1 σ))))))) ∧ (x0 = 5 → (nw_r x1) ∧ ((nw_r x2) ∧ ((x1 = x2 → Φ 0 σ) ∧ (x1 ≠ x2 → (nw_r x3) ∧ ((x3 < 0 → Φ 0 σ) ∧ ((0 : Int) ≤ x3 → ((63 : Int) < x3 → Φ 0 σ) ∧ (x3 ≤ 63 → Φ 1 σ))))))) ∧ (x0 = 6 → (nw_r x1) ∧ ((x1 < 0 → Φ 0 σ) ∧ ((0 : Int) ≤ x1 → ((6 : Int) ≤ x1 → Φ 0 σ) ∧ (x1 < 6 → (nw_r x3) ∧ ((x3 < 0 → Φ 0 σ) ∧ ((0 : Int) ≤ x3 → ((5 : Int) < x3 → Φ 0 σ) ∧ (x3 ≤ 5 → Φ 1 σ))))))) ∧ (x0 = 7 → (nw_r x1) ∧ ((x1 < 0 → Φ 0 σ) ∧ ((0 : Int) ≤ x1 → ((6 : Int) ≤ x1 → Φ 0 σ) ∧ (x1 < 6 → (nw_r x3) ∧ ((x3 < 0 → Φ 0 σ) ∧ ((0 : Int) ≤ x3 → ((5 : Int) < x3 → Φ 0 σ) ∧ (x3 ≤ 5 → Φ 1 σ))))))) ∧ (x0 = 8 → (nw_r x1) ∧ ((x1 < 0 → Φ 0 σ) ∧ ((0 : Int) ≤ x1 → (nw_r x2) ∧ ((x2 < x1 → Φ 0 σ) ∧ (x1 ≤ x2 → ((25 : Int) < x2 → Φ 0 σ) ∧ (x2 ≤ 25 → Φ 1 σ))))))) : nw_V G 53 (nw_pi Φ) 0 [some (.inr x0), some (.inr x1), some (.inr x2), some (.inr x3)] [] σ := nw_run (cd := nw_cd53) rfl [] 15 (And.intro h.1 (And.intro (fun q25 => And.intro (by decide) ((h.2.1 q25))) (And.intro (fun q25 => And.intro (h.2.2.1 q25).1 (And.intro (fun q2 => And.intro (by decide) ((((h.2.2.1 q25).2).1 q2))) (fun q2 => And.intro (h.2.2.1 q25).1 (And.intro (by decide) (And.intro (fun q1 => And.intro (by decide) (((((h.2.2.1 q25).2).2 q2).1 q1))) (fun q1 => And.intro (by decide) (((((h.2.2.1 q25).2).2 q2).2 q1)))))))) (And.intro (fun q25 => And.intro (h.2.2.2.1 q25).1 (And.intro ((h.2.2.2.1 q25).2).1 (And.intro (fun q3 => And.intro (by decide) (((((h.2.2.2.1 q25).2).2).1 q3))) (fun q3 => And.intro (by decide) (((((h.2.2.2.1 q25).2).2).2 q3)))))) (And.intro (fun q25 => And.intro (h.2.2.2.2.1 q25).1 (And.intro ((h.2.2.2.2.1 q25).2).1 (And.intro (fun q4 => And.intro (by decide) (((((h.2.2.2.2.1 q25).2).2).1 q4))) (fun q4 => And.intro (by decide) (((((h.2.2.2.2.1 q25).2).2).2 q4)))))) (And.intro (fun q25 => And.intro (h.2.2.2.2.2.1 q25).1 (And.intro ((h.2.2.2.2.2.1 q25).2).1 (And.intro (fun q7 => And.intro (by decide) (((((h.2.2.2.2.2.1 q25).2).2).1 q7))) (fun q7 => And.intro ((((h.2.2.2.2.2.1 q25).2).2).2 q7).1 (And.intro (by decide) (And.intro (fun q6 => And.intro (by decide) (((((((h.2.2.2.2.2.1 q25).2).2).2 q7).2).1 q6))) (fun q6 => And.intro ((((h.2.2.2.2.2.1 q25).2).2).2 q7).1 (And.intro (by decide) (And.intro (fun q5 => And.intro (by decide) ((((((((h.2.2.2.2.2.1 q25).2).2).2 q7).2).2 q6).1 q5))) (fun q5 => And.intro (by decide) ((((((((h.2.2.2.2.2.1 q25).2).2).2 q7).2).2 q6).2 q5)))))))))))) (And.intro (fun q25 => And.intro (h.2.2.2.2.2.2.1 q25).1 (And.intro ((h.2.2.2.2.2.2.1 q25).2).1 (And.intro (fun q10 => And.intro (by decide) (((((h.2.2.2.2.2.2.1 q25).2).2).1 q10))) (fun q10 => And.intro ((((h.2.2.2.2.2.2.1 q25).2).2).2 q10).1 (And.intro (fun q9 => And.intro (by decide) (((((((h.2.2.2.2.2.2.1 q25).2).2).2 q10).2).1 q9))) (fun q9 => And.intro ((((h.2.2.2.2.2.2.1 q25).2).2).2 q10).1 (And.intro (by decide) (And.intro (fun q8 => And.intro (by decide) ((((((((h.2.2.2.2.2.2.1 q25).2).2).2 q10).2).2 q9).1 q8))) (fun q8 => And.intro (by decide) ((((((((h.2.2.2.2.2.2.1 q25).2).2).2 q10).2).2 q9).2 q8))))))))))) (And.intro (fun q25 => And.intro (h.2.2.2.2.2.2.2.1 q25).1 (And.intro ((h.2.2.2.2.2.2.2.1 q25).2).1 (And.intro (fun q13 => And.intro (by decide) (((((h.2.2.2.2.2.2.2.1 q25).2).2).1 q13))) (fun q13 => And.intro ((((h.2.2.2.2.2.2.2.1 q25).2).2).2 q13).1 (And.intro (fun q12 => And.intro (by decide) (((((((h.2.2.2.2.2.2.2.1 q25).2).2).2 q13).2).1 q12))) (fun q12 => And.intro ((((h.2.2.2.2.2.2.2.1 q25).2).2).2 q13).1 (And.intro (by decide) (And.intro (fun q11 => And.intro (by decide) ((((((((h.2.2.2.2.2.2.2.1 q25).2).2).2 q13).2).2 q12).1 q11))) (fun q11 => And.intro (by decide) ((((((((h.2.2.2.2.2.2.2.1 q25).2).2).2 q13).2).2 q12).2 q11))))))))))) (And.intro (fun q25 => And.intro (h.2.2.2.2.2.2.2.2.1 q25).1 (And.intro (fun q17 => And.intro (by decide) ((((h.2.2.2.2.2.2.2.2.1 q25).2).1 q17))) (fun q17 => And.intro (h.2.2.2.2.2.2.2.2.1 q25).1 (And.intro (by decide) (And.intro (fun q16 => And.intro (by decide) (((((h.2.2.2.2.2.2.2.2.1 q25).2).2 q17).1 q16))) (fun q16 => And.intro ((((h.2.2.2.2.2.2.2.2.1 q25).2).2 q17).2 q16).1 (And.intro (fun q15 => And.intro (by decide) (((((((h.2.2.2.2.2.2.2.2.1 q25).2).2 q17).2 q16).2).1 q15))) (fun q15 => And.intro ((((h.2.2.2.2.2.2.2.2.1 q25).2).2 q17).2 q16).1 (And.intro (by decide) (And.intro (fun q14 => And.intro (by decide) ((((((((h.2.2.2.2.2.2.2.2.1 q25).2).2 q17).2 q16).2).2 q15).1 q14))) (fun q14 => And.intro (by decide) ((((((((h.2.2.2.2.2.2.2.2.1 q25).2).2 q17).2 q16).2).2 q15).2 q14))))))))))))) (And.intro (fun q25 => And.intro (h.2.2.2.2.2.2.2.2.2.1 q25).1 (And.intro (fun q21 => And.intro (by decide) ((((h.2.2.2.2.2.2.2.2.2.1 q25).2).1 q21))) (fun q21 => And.intro (h.2.2.2.2.2.2.2.2.2.1 q25).1 (And.intro (by decide) (And.intro (fun q20 => And.intro (by decide) (((((h.2.2.2.2.2.2.2.2.2.1 q25).2).2 q21).1 q20))) (fun q20 => And.intro ((((h.2.2.2.2.2.2.2.2.2.1 q25).2).2 q21).2 q20).1 (And.intro (fun q19 => And.intro (by decide) (((((((h.2.2.2.2.2.2.2.2.2.1 q25).2).2 q21).2 q20).2).1 q19))) (fun q19 => And.intro ((((h.2.2.2.2.2.2.2.2.2.1 q25).2).2 q21).2 q20).1 (And.intro (by decide) (And.intro (fun q18 => And.intro (by decide) ((((((((h.2.2.2.2.2.2.2.2.2.1 q25).2).2 q21).2 q20).2).2 q19).1 q18))) (fun q18 => And.intro (by decide) ((((((((h.2.2.2.2.2.2.2.2.2.1 q25).2).2 q21).2 q20).2).2 q19).2 q18))))))))))))) (And.intro (fun q25 => And.intro (h.2.2.2.2.2.2.2.2.2.2 q25).1 (And.intro (fun q24 => And.intro (by decide) ((((h.2.2.2.2.2.2.2.2.2.2 q25).2).1 q24))) (fun q24 => And.intro (h.2.2.2.2.2.2.2.2.2.2 q25).1 (And.intro (((h.2.2.2.2.2.2.2.2.2.2 q25).2).2 q24).1 (And.intro (fun q23 => And.intro (by decide) ((((((h.2.2.2.2.2.2.2.2.2.2 q25).2).2 q24).2).1 q23))) (fun q23 => And.intro (((h.2.2.2.2.2.2.2.2.2.2 q25).2).2 q24).1 (And.intro (by decide) (And.intro (fun q22 => And.intro (by decide) (((((((h.2.2.2.2.2.2.2.2.2.2 q25).2).2 q24).2).2 q23).1 q22))) (fun q22 => And.intro (by decide) (((((((h.2.2.2.2.2.2.2.2.2.2 q25).2).2 q24).2).2 q23).2 q22))))))))))) (True.intro))))))))))))
-- X4_judgeFrom
set_option maxRecDepth 100000 in
theorem bk54_0 {G : nw_G} {Φ : nw_S → Prop} {σ : nw_S} {x1 : Int} (h : nw_V G 54 (nw_pv Φ) 8 [some (.inl 0), some (.inr x1), some (.inr ((nw_shl 1 x1) - 1)), some (.inr 0), none, none] [] σ) : nw_V G 54 (nw_pv Φ) 0 [some (.inl 0), some (.inr x1), none, none, none, none] [] σ := nw_run (cd := nw_cd54) rfl [(8, 4), (44, 6)] 9 (h)
set_option maxRecDepth 100000 in
theorem bk54_8 {G : nw_G} {Φ : nw_S → Prop} {σ : nw_S} {x1 x2 x3 : Int} (h : (nw_r x3) ∧ ((nw_r (σ 1 1)) ∧ (((σ 1 1) ≤ x3 → Φ σ) ∧ (x3 < (σ 1 1) → nw_TV G 6 [.inl 1, .inr x3, .inl 15] σ (fun u1 => (0 ≤ x3 ∧ x3 < 7776) ∧ (nw_V G 54 (nw_pv Φ) 44 [some (.inl 0), some (.inr x1), some (.inr x2), some (.inr x3), some (.inr (nw_and (u1 14 (x3.toNat)) x2)), some (.inr x1)] [] u1)))))) : nw_V G 54 (nw_pv Φ) 8 [some (.inl 0), some (.inr x1), some (.inr x2), some (.inr x3), none, none] [] σ := nw_run (cd := nw_cd54) rfl [(8, 4), (44, 6)] 21 (h)
set_option maxRecDepth 100000 in
theorem bk54_44 {G : nw_G} {Φ : nw_S → Prop} {σ : nw_S} {x1 x2 x3 x4 x5 : Int} (h : (nw_r x5) ∧ ((nw_r (σ 6 0)) ∧ (((σ 6 0) ≤ x5 → (0 ≤ x3 ∧ x3 < 7776) ∧ (nw_V G 54 (nw_pv Φ) 8 [some (.inl 0), some (.inr x1), some (.inr x2), some (.inr (x3 + 1)), none, none] [] (nw_up σ 14 (x3.toNat) x4))) ∧ (x5 < (σ 6 0) → nw_TI G 19 [.inl 6, .inr x5, .inl 15, .inr (σ 1 0)] σ (fun v1 u1 => (nw_r v1) ∧ ((v1 ≠ 0 → nw_V G 54 (nw_pv Φ) 44 [some (.inl 0), some (.inr x1), some (.inr x2), some (.inr x3), some (.inr x4), some (.inr (x5 + 1))] [] u1) ∧ (v1 = 0 → nw_V G 54 (nw_pv Φ) 44 [some (.inl 0), some (.inr x1), some (.inr x2), some (.inr x3), some (.inr (nw_or x4 (nw_shl 1 x5))), some (.inr (x5 + 1))] [] u1))))))) : nw_V G 54 (nw_pv Φ) 44 [some (.inl 0), some (.inr x1), some (.inr x2), some (.inr x3), some (.inr x4), some (.inr x5)] [] σ := nw_run (cd := nw_cd54) rfl [(8, 4), (44, 6)] 24 (h)
-- X4_planOf
set_option maxRecDepth 100000 in
theorem bk55_0 {G : nw_G} {Φ : Int → nw_S → Prop} {σ : nw_S} {x1 x2 x3 x4 x5 : Int} (h : nw_TI G 7 [.inl 1, .inl 15] (nw_up (nw_up (nw_up (nw_up (nw_up σ 15 0 x1) 15 1 x2) 15 2 x3) 15 3 x4) 15 4 x5) (fun v1 u1 => Φ v1 u1)) : nw_V G 55 (nw_pi Φ) 0 [some (.inl 0), some (.inr x1), some (.inr x2), some (.inr x3), some (.inr x4), some (.inr x5)] [] σ := nw_run (cd := nw_cd55) rfl [] 31 (And.intro (by decide) (And.intro (by decide) (And.intro (by decide) (And.intro (by decide) (And.intro (by decide) (h))))))
-- X4_scoreWith
set_option maxRecDepth 100000 in
theorem bk56_0 {G : nw_G} {Φ : Int → nw_S → Prop} {σ : nw_S} {x1 x2 : Int} (h : (0 ≤ x1 ∧ x1 < 7776) ∧ ((0 ≤ (nw_and (σ 14 (x1.toNat)) x2) ∧ (nw_and (σ 14 (x1.toNat)) x2) < 4096) ∧ (Φ ((σ 5 (x1.toNat)) - (σ 13 ((nw_and (σ 14 (x1.toNat)) x2).toNat))) σ))) : nw_V G 56 (nw_pi Φ) 0 [some (.inl 0), some (.inr x1), some (.inr x2)] [] σ := nw_run (cd := nw_cd56) rfl [] 17 (And.intro h.1 (And.intro h.1 (h.2)))
-- X4_lookAtAll
set_option maxRecDepth 100000 in
theorem bk57_0a {G : nw_G} {Φ : nw_S → Prop} {σ : nw_S} {x2 x3 : Int} (h : nw_TV G 23 [.inl 16] σ (fun u1 => nw_V G 57 (nw_pv Φ) 7 [some (.inl 0), some (.inl 16), some (.inr x2), some (.inr x3), some (.inr 0)] [] u1)) : nw_V G 57 (nw_pv Φ) 0 [some (.inl 0), some (.inl 16), some (.inr x2), some (.inr x3), none] [] σ := nw_run (cd := nw_cd57) rfl [(7, 5)] 5 (h)
set_option maxRecDepth 100000 in
theorem bk57_7a {G : nw_G} {Φ : nw_S → Prop} {σ : nw_S} {x2 x3 x4 : Int} (h : (nw_r x4) ∧ ((nw_r (σ 1 1)) ∧ (((σ 1 1) ≤ x4 → Φ σ) ∧ (x4 < (σ 1 1) → (0 ≤ x4 ∧ x4 < 7776) ∧ ((nw_r (nw_and (σ 14 (x4.toNat)) x2)) ∧ (((nw_and (σ 14 (x4.toNat)) x2) ≠ 0 → nw_V G 57 (nw_pv Φ) 7 [some (.inl 0), some (.inl 16), some (.inr x2), some (.inr x3), some (.inr (x4 + 1))] [] σ) ∧ ((nw_and (σ 14 (x4.toNat)) x2) = 0 → nw_TI G 56 [.inl 0, .inr x4, .inr x3] σ (fun v1 u1 => nw_TV G 24 [.inl 16, .inr x4, .inr v1] u1 (fun u2 => nw_V G 57 (nw_pv Φ) 7 [some (.inl 0), some (.inl 16), some (.inr x2), some (.inr x3), some (.inr (x4 + 1))] [] u2))))))))) : nw_V G 57 (nw_pv Φ) 7 [some (.inl 0), some (.inl 16), some (.inr x2), some (.inr x3), some (.inr x4)] [] σ := nw_run (cd := nw_cd57) rfl [(7, 5)] 22 (h)
-- X4_lookAtAll
set_option maxRecDepth 100000 in
theorem bk57_0b {G : nw_G} {Φ : nw_S → Prop} {σ : nw_S} {x2 x3 : Int} (h : nw_TV G 23 [.inl 18] σ (fun u1 => nw_V G 57 (nw_pv Φ) 7 [some (.inl 0), some (.inl 18), some (.inr x2), some (.inr x3), some (.inr 0)] [] u1)) : nw_V G 57 (nw_pv Φ) 0 [some (.inl 0), some (.inl 18), some (.inr x2), some (.inr x3), none] [] σ := nw_run (cd := nw_cd57) rfl [(7, 5)] 5 (h)
set_option maxRecDepth 100000 in
theorem bk57_7b {G : nw_G} {Φ : nw_S → Prop} {σ : nw_S} {x2 x3 x4 : Int} (h : (nw_r x4) ∧ ((nw_r (σ 1 1)) ∧ (((σ 1 1) ≤ x4 → Φ σ) ∧ (x4 < (σ 1 1) → (0 ≤ x4 ∧ x4 < 7776) ∧ ((nw_r (nw_and (σ 14 (x4.toNat)) x2)) ∧ (((nw_and (σ 14 (x4.toNat)) x2) ≠ 0 → nw_V G 57 (nw_pv Φ) 7 [some (.inl 0), some (.inl 18), some (.inr x2), some (.inr x3), some (.inr (x4 + 1))] [] σ) ∧ ((nw_and (σ 14 (x4.toNat)) x2) = 0 → nw_TI G 56 [.inl 0, .inr x4, .inr x3] σ (fun v1 u1 => nw_TV G 24 [.inl 18, .inr x4, .inr v1] u1 (fun u2 => nw_V G 57 (nw_pv Φ) 7 [some (.inl 0), some (.inl 18), some (.inr x2), some (.inr x3), some (.inr (x4 + 1))] [] u2))))))))) : nw_V G 57 (nw_pv Φ) 7 [some (.inl 0), some (.inl 18), some (.inr x2), some (.inr x3), some (.inr x4)] [] σ := nw_run (cd := nw_cd57) rfl [(7, 5)] 22 (h)
-- X4_findWhole
set_option maxRecDepth 100000 in
theorem bk58_0 {G : nw_G} {Φ : nw_S → Prop} {σ : nw_S} (h : (nw_r (σ 0 5)) ∧ (((σ 0 5) = 0 → Φ σ) ∧ ((σ 0 5) ≠ 0 → nw_TI G 17 [.inl 6, .inr 1] σ (fun v1 u1 => nw_TI G 17 [.inl 6, .inr 2] u1 (fun v2 u2 => nw_TV G 57 [.inl 0, .inl 16, .inr v1, .inr v2] u2 (fun u3 => Φ (nw_up u3 0 5 0))))))) : nw_V G 58 (nw_pv Φ) 0 [some (.inl 0)] [] σ := nw_run (cd := nw_cd58) rfl [] 19 (And.intro h.1 (And.intro (fun q1 => ((h.2).1 q1)) (fun q1 => nw_TI.mono ((h.2).2 q1) (fun _ _ q_1 => nw_TI.mono q_1 (fun _ _ q_2 => nw_TV.mono q_2 (fun _ q_3 => And.intro (by decide) (q_3)))))))
-- X4_findParts
set_option maxRecDepth 100000 in
theorem bk59_0 {G : nw_G} {Φ : nw_S → Prop} {σ : nw_S} {x1 x2 : Int} (h : nw_TI G 17 [.inl 6, .inr 1] σ (fun v1 u1 => nw_TI G 17 [.inl 6, .inr 2] u1 (fun v2 u2 => nw_TV G 23 [.inl 17] u2 (fun u3 => nw_TV G 23 [.inl 18] u3 (fun u4 => nw_V G 59 (nw_pv Φ) 36 [some (.inl 0), some (.inr x1), some (.inr x2), some (.inr v1), some (.inr v2), some (.inr 0), none] [] u4))))) : nw_V G 59 (nw_pv Φ) 0 [some (.inl 0), some (.inr x1), some (.inr x2), none, none, none, none] [] σ := nw_run (cd := nw_cd59) rfl [(36, 6)] 19 (h)
set_option maxRecDepth 100000 in
theorem bk59_36 {G : nw_G} {Φ : nw_S → Prop} {σ : nw_S} {x1 x2 x3 x4 x5 : Int} (h : (nw_r x5) ∧ ((nw_r (σ 1 1)) ∧ (((σ 1 1) ≤ x5 → Φ σ) ∧ (x5 < (σ 1 1) → (0 ≤ x5 ∧ x5 < 7776) ∧ ((nw_r (nw_and (σ 14 (x5.toNat)) x3)) ∧ (((nw_and (σ 14 (x5.toNat)) x3) ≠ 0 → nw_V G 59 (nw_pv Φ) 36 [some (.inl 0), some (.inr x1), some (.inr x2), some (.inr x3), some (.inr x4), some (.inr (x5 + 1)), none] [] σ) ∧ ((nw_and (σ 14 (x5.toNat)) x3) = 0 → nw_TI G 5 [.inl 1, .inr x5, .inr x1] σ (fun v1 u1 => (nw_r v1) ∧ ((nw_r x2) ∧ ((v1 ≠ x2 → nw_TI G 56 [.inl 0, .inr x5, .inr x4] u1 (fun v2 u2 => nw_TV G 24 [.inl 18, .inr x5, .inr v2] u2 (fun u3 => nw_V G 59 (nw_pv Φ) 36 [some (.inl 0), some (.inr x1), some (.inr x2), some (.inr x3), some (.inr x4), some (.inr (x5 + 1)), none] [] u3))) ∧ (v1 = x2 → nw_TI G 56 [.inl 0, .inr x5, .inr x4] u1 (fun v4 u4 => nw_TV G 24 [.inl 17, .inr x5, .inr v4] u4 (fun u5 => nw_V G 59 (nw_pv Φ) 36 [some (.inl 0), some (.inr x1), some (.inr x2), some (.inr x3), some (.inr x4), some (.inr (x5 + 1)), none] [] u5))))))))))))) : nw_V G 59 (nw_pv Φ) 36 [some (.inl 0), some (.inr x1), some (.inr x2), some (.inr x3), some (.inr x4), some (.inr x5), none] [] σ := nw_run (cd := nw_cd59) rfl [(36, 6)] 33 (h)
-- X4_findSets
set_option maxRecDepth 100000 in
theorem bk60_0 {G : nw_G} {Φ : nw_S → Prop} {σ : nw_S} (h : (nw_r (σ 0 11)) ∧ (((σ 0 11) = 0 → Φ σ) ∧ ((σ 0 11) ≠ 0 → nw_TI G 17 [.inl 6, .inr 1] σ (fun v1 u1 => nw_TV G 61 [.inl 0, .inr v1] u1 (fun u2 => nw_TV G 62 [.inl 0, .inr v1] u2 (fun u3 => Φ (nw_up u3 0 11 0))))))) : nw_V G 60 (nw_pv Φ) 0 [some (.inl 0), none] [] σ := nw_run (cd := nw_cd60) rfl [] 18 (And.intro h.1 (And.intro (fun q1 => ((h.2).1 q1)) (fun q1 => nw_TI.mono ((h.2).2 q1) (fun _ _ q_1 => nw_TV.mono q_1 (fun _ q_2 => nw_TV.mono q_2 (fun _ q_3 => And.intro (by decide) (q_3)))))))
-- X4_findPossible
set_option maxRecDepth 100000 in
theorem bk61_0 {G : nw_G} {Φ : nw_S → Prop} {σ : nw_S} {x1 : Int} (h : nw_TI G 14 [.inl 6] σ (fun v1 u1 => nw_V G 61 (nw_pv Φ) 10 [some (.inl 0), some (.inr x1), some (.inr v1), some (.inr 0), none, none] [] u1)) : nw_V G 61 (nw_pv Φ) 0 [some (.inl 0), some (.inr x1), none, none, none, none] [] σ := nw_run (cd := nw_cd61) rfl [(10, 4), (30, 4), (65, 4), (84, 6)] 7 (h)
set_option maxRecDepth 100000 in
theorem bk61_10 {G : nw_G} {Φ : nw_S → Prop} {σ : nw_S} {x1 x2 x3 : Int} (h : (nw_r x3) ∧ ((nw_r x2) ∧ ((x2 ≤ x3 → nw_V G 61 (nw_pv Φ) 30 [some (.inl 0), some (.inr x1), some (.inr x2), some (.inr 0), none, none] [] σ) ∧ (x3 < x2 → (0 ≤ x3 ∧ x3 < 4096) ∧ (nw_V G 61 (nw_pv Φ) 10 [some (.inl 0), some (.inr x1), some (.inr x2), some (.inr (x3 + 1)), none, none] [] (nw_up σ 19 (x3.toNat) 0)))))) : nw_V G 61 (nw_pv Φ) 10 [some (.inl 0), some (.inr x1), some (.inr x2), some (.inr x3), none, none] [] σ := nw_run (cd := nw_cd61) rfl [(10, 4), (30, 4), (65, 4), (84, 6)] 11 (And.intro h.1 (And.intro (h.2).1 (And.intro (fun q1 => (((h.2).2).1 q1)) (fun q1 => And.intro (((h.2).2).2 q1).1 (And.intro (by decide) ((((h.2).2).2 q1).2))))))
set_option maxRecDepth 100000 in
theorem bk61_30 {G : nw_G} {Φ : nw_S → Prop} {σ : nw_S} {x1 x2 x3 : Int} (h : (nw_r x3) ∧ ((nw_r (σ 1 1)) ∧ (((σ 1 1) ≤ x3 → nw_V G 61 (nw_pv Φ) 65 [some (.inl 0), some (.inr x1), some (.inr x2), some (.inr 0), none, none] [] σ) ∧ (x3 < (σ 1 1) → (0 ≤ x3 ∧ x3 < 7776) ∧ ((0 ≤ (nw_and x1 (nw_xor (σ 14 (x3.toNat)) (-1))) ∧ (nw_and x1 (nw_xor (σ 14 (x3.toNat)) (-1))) < 4096) ∧ (nw_V G 61 (nw_pv Φ) 30 [some (.inl 0), some (.inr x1), some (.inr x2), some (.inr (x3 + 1)), none, none] [] (nw_up σ 19 ((nw_and x1 (nw_xor (σ 14 (x3.toNat)) (-1))).toNat) 1))))))) : nw_V G 61 (nw_pv Φ) 30 [some (.inl 0), some (.inr x1), some (.inr x2), some (.inr x3), none, none] [] σ := nw_run (cd := nw_cd61) rfl [(10, 4), (30, 4), (65, 4), (84, 6)] 20 (And.intro h.1 (And.intro (h.2).1 (And.intro (fun q1 => (((h.2).2).1 q1)) (fun q1 => And.intro (((h.2).2).2 q1).1 (And.intro ((((h.2).2).2 q1).2).1 (And.intro (by decide) (((((h.2).2).2 q1).2).2)))))))
set_option maxRecDepth 100000 in
theorem bk61_65 {G : nw_G} {Φ : nw_S → Prop} {σ : nw_S} {x1 x2 x3 : Int} (h : (nw_r x3) ∧ ((nw_r (σ 6 0)) ∧ (((σ 6 0) ≤ x3 → Φ σ) ∧ (x3 < (σ 6 0) → nw_V G 61 (nw_pv Φ) 84 [some (.inl 0), some (.inr x1), some (.inr x2), some (.inr x3), some (.inr (nw_shl 1 x3)), some (.inr 0)] [] σ)))) : nw_V G 61 (nw_pv Φ) 65 [some (.inl 0), some (.inr x1), some (.inr x2), some (.inr x3), none, none] [] σ := nw_run (cd := nw_cd61) rfl [(10, 4), (30, 4), (65, 4), (84, 6)] 12 (h)
set_option maxRecDepth 100000 in
theorem bk61_84 {G : nw_G} {Φ : nw_S → Prop} {σ : nw_S} {x1 x2 x3 x4 x5 : Int} (h : (nw_r x5) ∧ ((nw_r x2) ∧ ((x2 ≤ x5 → nw_V G 61 (nw_pv Φ) 65 [some (.inl 0), some (.inr x1), some (.inr x2), some (.inr (x3 + 1)), none, none] [] σ) ∧ (x5 < x2 → (0 ≤ x5 ∧ x5 < 4096) ∧ ((nw_r (σ 19 (x5.toNat))) ∧ (((σ 19 (x5.toNat)) = 0 → nw_V G 61 (nw_pv Φ) 84 [some (.inl 0), some (.inr x1), some (.inr x2), some (.inr x3), some (.inr x4), some (.inr (x5 + 1))] [] σ) ∧ ((σ 19 (x5.toNat)) ≠ 0 → (nw_r (nw_and x5 x4)) ∧ (((nw_and x5 x4) = 0 → nw_V G 61 (nw_pv Φ) 84 [some (.inl 0), some (.inr x1), some (.inr x2), some (.inr x3), some (.inr x4), some (.inr (x5 + 1))] [] σ) ∧ ((nw_and x5 x4) ≠ 0 → (0 ≤ (nw_xor x5 x4) ∧ (nw_xor x5 x4) < 4096) ∧ (nw_V G 61 (nw_pv Φ) 84 [some (.inl 0), some (.inr x1), some (.inr x2), some (.inr x3), some (.inr x4), some (.inr (x5 + 1))] [] (nw_up σ 19 ((nw_xor x5 x4).toNat) 1))))))))))) : nw_V G 61 (nw_pv Φ) 84 [some (.inl 0), some (.inr x1), some (.inr x2), some (.inr x3), some (.inr x4), some (.inr x5)] [] σ := nw_run (cd := nw_cd61) rfl [(10, 4), (30, 4), (65, 4), (84, 6)] 22 (And.intro h.1 (And.intro (h.2).1 (And.intro (fun q3 => (((h.2).2).1 q3)) (fun q3 => And.intro (((h.2).2).2 q3).1 (And.intro ((((h.2).2).2 q3).2).1 (And.intro (fun q2 => ((((((h.2).2).2 q3).2).2).1 q2)) (fun q2 => And.intro ((((((h.2).2).2 q3).2).2).2 q2).1 (And.intro (fun q1 => ((((((((h.2).2).2 q3).2).2).2 q2).2).1 q1)) (fun q1 => And.intro ((((((((h.2).2).2 q3).2).2).2 q2).2).2 q1).1 (And.intro (by decide) (((((((((h.2).2).2 q3).2).2).2 q2).2).2 q1).2)))))))))))
-- X4_listSets
set_option maxRecDepth 100000 in
theorem bk62_0 {G : nw_G} {Φ : nw_S → Prop} {σ : nw_S} {x1 : Int} (h : nw_TV G 9 [.inl 20] σ (fun u1 => nw_TV G 9 [.inl 23] u1 (fun u2 => nw_TI G 14 [.inl 6] u2 (fun v3 u3 => nw_V G 62 (nw_pv Φ) 24 [some (.inl 0), some (.inr x1), some (.inr v3), some (.inr 0)] [] u3)))) : nw_V G 62 (nw_pv Φ) 0 [some (.inl 0), some (.inr x1), none, none] [] σ := nw_run (cd := nw_cd62) rfl [(24, 4)] 13 (h)
set_option maxRecDepth 100000 in
theorem bk62_24 {G : nw_G} {Φ : nw_S → Prop} {σ : nw_S} {x1 x2 x3 : Int} (h : (nw_r x3) ∧ ((nw_r x2) ∧ ((x2 ≤ x3 → Φ σ) ∧ (x3 < x2 → (nw_r (nw_and x3 (nw_xor x1 (-1)))) ∧ (((nw_and x3 (nw_xor x1 (-1))) ≠ 0 → nw_V G 62 (nw_pv Φ) 24 [some (.inl 0), some (.inr x1), some (.inr x2), some (.inr (x3 + 1))] [] σ) ∧ ((nw_and x3 (nw_xor x1 (-1))) = 0 → nw_TI G 63 [.inl 0, .inr x3] σ (fun v1 u1 => (nw_r v1) ∧ ((v1 = 0 → nw_TI G 64 [.inl 0, .inr x3, .inr x1] u1 (fun v2 u2 => (nw_r v2) ∧ ((v2 = 0 → nw_V G 62 (nw_pv Φ) 24 [some (.inl 0), some (.inr x1), some (.inr x2), some (.inr (x3 + 1))] [] u2) ∧ (v2 ≠ 0 → (0 ≤ x3 ∧ x3 < 4096) ∧ (nw_TV G 10 [.inl 23, .inr x3, .inr (u2 13 (x3.toNat))] u2 (fun u3 => nw_V G 62 (nw_pv Φ) 24 [some (.inl 0), some (.inr x1), some (.inr x2), some (.inr (x3 + 1))] [] u3)))))) ∧ (v1 ≠ 0 → nw_TI G 115 [.inr x3] u1 (fun v4 u4 => nw_TV G 10 [.inl 20, .inr x3, .inr v4] u4 (fun u5 => nw_TI G 64 [.inl 0, .inr x3, .inr x1] u5 (fun v6 u6 => (nw_r v6) ∧ ((v6 = 0 → nw_V G 62 (nw_pv Φ) 24 [some (.inl 0), some (.inr x1), some (.inr x2), some (.inr (x3 + 1))] [] u6) ∧ (v6 ≠ 0 → (0 ≤ x3 ∧ x3 < 4096) ∧ (nw_TV G 10 [.inl 23, .inr x3, .inr (u6 13 (x3.toNat))] u6 (fun u7 => nw_V G 62 (nw_pv Φ) 24 [some (.inl 0), some (.inr x1), some (.inr x2), some (.inr (x3 + 1))] [] u7)))))))))))))))) : nw_V G 62 (nw_pv Φ) 24 [some (.inl 0), some (.inr x1), some (.inr x2), some (.inr x3)] [] σ := nw_run (cd := nw_cd62) rfl [(24, 4)] 36 (h)
-- X4_isClash
set_option maxRecDepth 100000 in
theorem bk63_0 {G : nw_G} {Φ : Int → nw_S → Prop} {σ : nw_S} {x1 : Int} (h : (0 ≤ x1 ∧ x1 < 4096) ∧ ((nw_r (σ 19 (x1.toNat))) ∧ (((σ 19 (x1.toNat)) = 0 → nw_V G 63 (nw_pi Φ) 13 [some (.inl 0), some (.inr x1), some (.inr 0), none] [] σ) ∧ ((σ 19 (x1.toNat)) ≠ 0 → Φ 0 σ)))) : nw_V G 63 (nw_pi Φ) 0 [some (.inl 0), some (.inr x1), none, none] [] σ := nw_run (cd := nw_cd63) rfl [(13, 3)] 8 (And.intro h.1 (And.intro (h.2).1 (And.intro (fun q1 => (((h.2).2).1 q1)) (fun q1 => And.intro (by decide) ((((h.2).2).2 q1))))))
set_option maxRecDepth 100000 in
theorem bk63_13 {G : nw_G} {Φ : Int → nw_S → Prop} {σ : nw_S} {x1 x2 : Int} (h : (nw_r x2) ∧ ((nw_r (σ 6 0)) ∧ (((σ 6 0) ≤ x2 → Φ 1 σ) ∧ (x2 < (σ 6 0) → (nw_r (nw_and x1 (nw_shl 1 x2))) ∧ (((nw_and x1 (nw_shl 1 x2)) = 0 → nw_V G 63 (nw_pi Φ) 13 [some (.inl 0), some (.inr x1), some (.inr (x2 + 1)), none] [] σ) ∧ ((nw_and x1 (nw_shl 1 x2)) ≠ 0 → (0 ≤ (nw_xor x1 (nw_shl 1 x2)) ∧ (nw_xor x1 (nw_shl 1 x2)) < 4096) ∧ ((nw_r (σ 19 ((nw_xor x1 (nw_shl 1 x2)).toNat))) ∧ (((σ 19 ((nw_xor x1 (nw_shl 1 x2)).toNat)) ≠ 0 → nw_V G 63 (nw_pi Φ) 13 [some (.inl 0), some (.inr x1), some (.inr (x2 + 1)), none] [] σ) ∧ ((σ 19 ((nw_xor x1 (nw_shl 1 x2)).toNat)) = 0 → Φ 0 σ))))))))) : nw_V G 63 (nw_pi Φ) 13 [some (.inl 0), some (.inr x1), some (.inr x2), none] [] σ := nw_run (cd := nw_cd63) rfl [(13, 3)] 23 (And.intro h.1 (And.intro (h.2).1 (And.intro (fun q3 => And.intro (by decide) ((((h.2).2).1 q3))) (fun q3 => And.intro (((h.2).2).2 q3).1 (And.intro (fun q2 => (((((h.2).2).2 q3).2).1 q2)) (fun q2 => And.intro (((((h.2).2).2 q3).2).2 q2).1 (And.intro ((((((h.2).2).2 q3).2).2 q2).2).1 (And.intro (fun q1 => ((((((((h.2).2).2 q3).2).2 q2).2).2).1 q1)) (fun q1 => And.intro (by decide) (((((((((h.2).2).2 q3).2).2 q2).2).2).2 q1)))))))))))
-- X4_isRelaxation
set_option maxRecDepth 100000 in
theorem bk64_0 {G : nw_G} {Φ : Int → nw_S → Prop} {σ : nw_S} {x1 x2 : Int} (h : (0 ≤ (nw_and x2 (nw_xor x1 (-1))) ∧ (nw_and x2 (nw_xor x1 (-1))) < 4096) ∧ ((nw_r (σ 19 ((nw_and x2 (nw_xor x1 (-1))).toNat))) ∧ (((σ 19 ((nw_and x2 (nw_xor x1 (-1))).toNat)) ≠ 0 → nw_V G 64 (nw_pi Φ) 20 [some (.inl 0), some (.inr x1), some (.inr x2), some (.inr (nw_and x2 (nw_xor x1 (-1)))), some (.inr 0), none] [] σ) ∧ ((σ 19 ((nw_and x2 (nw_xor x1 (-1))).toNat)) = 0 → Φ 0 σ)))) : nw_V G 64 (nw_pi Φ) 0 [some (.inl 0), some (.inr x1), some (.inr x2), none, none, none] [] σ := nw_run (cd := nw_cd64) rfl [(20, 5)] 14 (And.intro h.1 (And.intro (h.2).1 (And.intro (fun q1 => (((h.2).2).1 q1)) (fun q1 => And.intro (by decide) ((((h.2).2).2 q1))))))
set_option maxRecDepth 100000 in
theorem bk64_20 {G : nw_G} {Φ : Int → nw_S → Prop} {σ : nw_S} {x1 x2 x3 x4 : Int} (h : (nw_r x4) ∧ ((nw_r (σ 6 0)) ∧ (((σ 6 0) ≤ x4 → Φ 1 σ) ∧ (x4 < (σ 6 0) → (nw_r (nw_and x1 (nw_shl 1 x4))) ∧ (((nw_and x1 (nw_shl 1 x4)) = 0 → nw_V G 64 (nw_pi Φ) 20 [some (.inl 0), some (.inr x1), some (.inr x2), some (.inr x3), some (.inr (x4 + 1)), none] [] σ) ∧ ((nw_and x1 (nw_shl 1 x4)) ≠ 0 → (0 ≤ (nw_or x3 (nw_shl 1 x4)) ∧ (nw_or x3 (nw_shl 1 x4)) < 4096) ∧ ((nw_r (σ 19 ((nw_or x3 (nw_shl 1 x4)).toNat))) ∧ (((σ 19 ((nw_or x3 (nw_shl 1 x4)).toNat)) = 0 → nw_V G 64 (nw_pi Φ) 20 [some (.inl 0), some (.inr x1), some (.inr x2), some (.inr x3), some (.inr (x4 + 1)), none] [] σ) ∧ ((σ 19 ((nw_or x3 (nw_shl 1 x4)).toNat)) ≠ 0 → Φ 0 σ))))))))) : nw_V G 64 (nw_pi Φ) 20 [some (.inl 0), some (.inr x1), some (.inr x2), some (.inr x3), some (.inr x4), none] [] σ := nw_run (cd := nw_cd64) rfl [(20, 5)] 23 (And.intro h.1 (And.intro (h.2).1 (And.intro (fun q3 => And.intro (by decide) ((((h.2).2).1 q3))) (fun q3 => And.intro (((h.2).2).2 q3).1 (And.intro (fun q2 => (((((h.2).2).2 q3).2).1 q2)) (fun q2 => And.intro (((((h.2).2).2 q3).2).2 q2).1 (And.intro ((((((h.2).2).2 q3).2).2 q2).2).1 (And.intro (fun q1 => ((((((((h.2).2).2 q3).2).2 q2).2).2).1 q1)) (fun q1 => And.intro (by decide) (((((((((h.2).2).2 q3).2).2 q2).2).2).2 q1)))))))))))
-- J6_bitCount_0f7a4
set_option maxRecDepth 100000 in
theorem bk115_0 {G : nw_G} {Φ : Int → nw_S → Prop} {σ : nw_S} {x0 : Int} (h : Φ (nw_and (((nw_and (((nw_and (x0 - (nw_and (nw_ushr x0 1) 1431655765)) 858993459) + (nw_and (nw_ushr (x0 - (nw_and (nw_ushr x0 1) 1431655765)) 2) 858993459)) + (nw_ushr ((nw_and (x0 - (nw_and (nw_ushr x0 1) 1431655765)) 858993459) + (nw_and (nw_ushr (x0 - (nw_and (nw_ushr x0 1) 1431655765)) 2) 858993459)) 4)) 252645135) + (nw_ushr (nw_and (((nw_and (x0 - (nw_and (nw_ushr x0 1) 1431655765)) 858993459) + (nw_and (nw_ushr (x0 - (nw_and (nw_ushr x0 1) 1431655765)) 2) 858993459)) + (nw_ushr ((nw_and (x0 - (nw_and (nw_ushr x0 1) 1431655765)) 858993459) + (nw_and (nw_ushr (x0 - (nw_and (nw_ushr x0 1) 1431655765)) 2) 858993459)) 4)) 252645135) 8)) + (nw_ushr ((nw_and (((nw_and (x0 - (nw_and (nw_ushr x0 1) 1431655765)) 858993459) + (nw_and (nw_ushr (x0 - (nw_and (nw_ushr x0 1) 1431655765)) 2) 858993459)) + (nw_ushr ((nw_and (x0 - (nw_and (nw_ushr x0 1) 1431655765)) 858993459) + (nw_and (nw_ushr (x0 - (nw_and (nw_ushr x0 1) 1431655765)) 2) 858993459)) 4)) 252645135) + (nw_ushr (nw_and (((nw_and (x0 - (nw_and (nw_ushr x0 1) 1431655765)) 858993459) + (nw_and (nw_ushr (x0 - (nw_and (nw_ushr x0 1) 1431655765)) 2) 858993459)) + (nw_ushr ((nw_and (x0 - (nw_and (nw_ushr x0 1) 1431655765)) 858993459) + (nw_and (nw_ushr (x0 - (nw_and (nw_ushr x0 1) 1431655765)) 2) 858993459)) 4)) 252645135) 8)) 16)) 63) σ) : nw_V G 115 (nw_pi Φ) 0 [some (.inr x0)] [] σ := nw_run (cd := nw_cd115) rfl [] 42 (h)
end
section
-- X5_in
set_option maxRecDepth 100000 in
theorem bk66_0 {G : nw_G} {Φ : Int → nw_S → Prop} {σ : nw_S} {x0 x1 x2 : Int} (h : (nw_r x0) ∧ ((nw_r x1) ∧ ((x0 < x1 → Φ 0 σ) ∧ (x1 ≤ x0 → (nw_r x2) ∧ ((x2 < x0 → Φ 0 σ) ∧ (x0 ≤ x2 → Φ 1 σ)))))) : nw_V G 66 (nw_pi Φ) 0 [some (.inr x0), some (.inr x1), some (.inr x2)] [] σ := nw_run (cd := nw_cd66) rfl [] 9 (And.intro h.1 (And.intro (h.2).1 (And.intro (fun q2 => And.intro (by decide) ((((h.2).2).1 q2))) (fun q2 => And.intro h.1 (And.intro (((h.2).2).2 q2).1 (And.intro (fun q1 => And.intro (by decide) ((((((h.2).2).2 q2).2).1 q1))) (fun q1 => And.intro (by decide) ((((((h.2).2).2 q2).2).2 q1)))))))))
-- X5_isChoice
set_option maxRecDepth 100000 in
theorem bk67_0 {G : nw_G} {Φ : Int → nw_S → Prop} {σ : nw_S} {x1 : Int} (h : nw_TI G 66 [.inr x1, .inr 0, .inr ((σ 26 0) - 1)] σ (fun v1 u1 => (v1 = 0 ∨ v1 = 1) ∧ (Φ v1 u1))) : nw_V G 67 (nw_pi Φ) 0 [some (.inl 26), some (.inr x1)] [] σ := nw_run (cd := nw_cd67) rfl [] 8 (h)
-- X5_isCandidate
set_option maxRecDepth 100000 in
theorem bk68_0 {G : nw_G} {Φ : Int → nw_S → Prop} {σ : nw_S} {x1 x2 : Int} (h : nw_TI G 67 [.inl 26, .inr x1] σ (fun v1 u1 => (nw_r v1) ∧ ((v1 = 0 → Φ 0 u1) ∧ (v1 ≠ 0 → (0 ≤ x1 ∧ x1 < 5) ∧ (nw_TI G 66 [.inr x2, .inr 0, .inr ((u1 27 (x1.toNat)) - 1)] u1 (fun v2 u2 => (nw_r v2) ∧ ((v2 = 0 → Φ 0 u2) ∧ (v2 ≠ 0 → Φ 1 u2)))))))) : nw_V G 68 (nw_pi Φ) 0 [some (.inl 26), some (.inr x1), some (.inr x2)] [] σ := nw_run (cd := nw_cd68) rfl [] 17 (nw_TI.mono h (fun _ _ q_1 => And.intro q_1.1 (And.intro (fun q2 => And.intro (by decide) (((q_1.2).1 q2))) (fun q2 => And.intro ((q_1.2).2 q2).1 (nw_TI.mono (((q_1.2).2 q2).2) (fun _ _ q_2 => And.intro q_2.1 (And.intro (fun q1 => And.intro (by decide) (((q_2.2).1 q1))) (fun q1 => And.intro (by decide) (((q_2.2).2 q1))))))))))
-- X5_isRule
set_option maxRecDepth 100000 in
theorem bk69_0 {G : nw_G} {Φ : Int → nw_S → Prop} {σ : nw_S} {x1 : Int} (h : nw_TI G 66 [.inr x1, .inr 0, .inr ((σ 26 3) - 1)] σ (fun v1 u1 => (v1 = 0 ∨ v1 = 1) ∧ (Φ v1 u1))) : nw_V G 69 (nw_pi Φ) 0 [some (.inl 26), some (.inr x1)] [] σ := nw_run (cd := nw_cd69) rfl [] 8 (h)
-- X5_choice
set_option maxRecDepth 100000 in
theorem bk70_0 {G : nw_G} {Φ : Int → nw_S → Prop} {σ : nw_S} {x1 : Int} (h : nw_TI G 66 [.inr x1, .inr 1, .inr 6] σ (fun v1 u1 => (nw_r v1) ∧ ((v1 ≠ 0 → (nw_r (u1 26 0)) ∧ (((u1 26 0) ≠ 5 → (0 ≤ (u1 26 0) ∧ (u1 26 0) < 5) ∧ (Φ (((u1 26 0) + 1) - 1) (nw_up (nw_up (nw_up u1 27 ((u1 26 0).toNat) x1) 26 0 ((u1 26 0) + 1)) 26 11 0))) ∧ ((u1 26 0) = 5 → Φ (-1000003) u1))) ∧ (v1 = 0 → Φ (-1000002) u1)))) : nw_V G 70 (nw_pi Φ) 0 [some (.inl 26), some (.inr x1)] [] σ := nw_run (cd := nw_cd70) rfl [] 29 (nw_TI.mono h (fun _ _ q_1 => And.intro q_1.1 (And.intro (fun q2 => And.intro ((q_1.2).1 q2).1 (And.intro (by decide) (And.intro (fun q1 => And.intro ((((q_1.2).1 q2).2).1 q1).1 (And.intro (by decide) (((((q_1.2).1 q2).2).1 q1).2))) (fun q1 => ((((q_1.2).1 q2).2).2 q1))))) (fun q2 => ((q_1.2).2 q2)))))
-- X5_worth
set_option maxRecDepth 100000 in
theorem bk71_0 {G : nw_G} {Φ : Int → nw_S → Prop} {σ : nw_S} {x1 x2 x3 : Int} (h : nw_TI G 68 [.inl 26, .inr x1, .inr x2] σ (fun v1 u1 => (nw_r v1) ∧ ((v1 ≠ 0 → nw_TI G 66 [.inr x3, .inr (-1000), .inr 1000] u1 (fun v2 u2 => (nw_r v2) ∧ ((v2 ≠ 0 → (0 ≤ (((6 : Int) * x1) + x2) ∧ (((6 : Int) * x1) + x2) < 30) ∧ (Φ (u2 28 ((((6 : Int) * x1) + x2).toNat)) (nw_up u2 28 ((((6 : Int) * x1) + x2).toNat) x3))) ∧ (v2 = 0 → Φ (-1000002) u2)))) ∧ (v1 = 0 → Φ (-1000001) u1)))) : nw_V G 71 (nw_pi Φ) 0 [some (.inl 26), some (.inr x1), some (.inr x2), some (.inr x3), none] [] σ := nw_run (cd := nw_cd71) rfl [] 30 (nw_TI.mono h (fun _ _ q_1 => And.intro q_1.1 (And.intro (fun q2 => nw_TI.mono ((q_1.2).1 q2) (fun _ _ q_2 => And.intro q_2.1 (And.intro (fun q1 => And.intro ((q_2.2).1 q1).1 (And.intro ((q_2.2).1 q1).1 (((q_2.2).1 q1).2))) (fun q1 => ((q_2.2).2 q1))))) (fun q2 => ((q_1.2).2 q2)))))
-- X5_isRight
set_option maxRecDepth 100000 in
theorem bk72_0 {G : nw_G} {Φ : Int → nw_S → Prop} {σ : nw_S} {x0 x1 x2 x3 : Int} (h : nw_r x0 ∧ (x0 < 0 ∨ 8 < x0 → Φ 0 σ) ∧ (x0 = 0 → nw_TI G 66 [.inr x3, .inr 0, .inr 63] σ (fun v1 u1 => (v1 = 0 ∨ v1 = 1) ∧ (Φ v1 u1))) ∧ (x0 = 1 → (nw_r x1) ∧ ((nw_r x2) ∧ ((x1 = x2 → Φ 0 σ) ∧ (x1 ≠ x2 → Φ 1 σ)))) ∧ (x0 = 2 → (nw_r x1) ∧ ((nw_r x2) ∧ ((x1 = x2 → Φ 0 σ) ∧ (x1 ≠ x2 → Φ 1 σ)))) ∧ (x0 = 3 → (nw_r x1) ∧ ((nw_r x2) ∧ ((x1 = x2 → Φ 0 σ) ∧ (x1 ≠ x2 → nw_TI G 66 [.inr x3, .inr (-5), .inr 5] σ (fun v2 u2 => (nw_r v2) ∧ ((v2 = 0 → Φ 0 u2) ∧ (v2 ≠ 0 → Φ 1 u2))))))) ∧ (x0 = 4 → (nw_r x1) ∧ ((nw_r x2) ∧ ((x1 = x2 → Φ 0 σ) ∧ (x1 ≠ x2 → nw_TI G 66 [.inr x3, .inr 0, .inr 5] σ (fun v3 u3 => (nw_r v3) ∧ ((v3 = 0 → Φ 0 u3) ∧ (v3 ≠ 0 → Φ 1 u3))))))) ∧ (x0 = 5 → (nw_r x1) ∧ ((nw_r x2) ∧ ((x1 = x2 → Φ 0 σ) ∧ (x1 ≠ x2 → nw_TI G 66 [.inr x3, .inr 0, .inr 63] σ (fun v4 u4 => (nw_r v4) ∧ ((v4 = 0 → Φ 0 u4) ∧ (v4 ≠ 0 → Φ 1 u4))))))) ∧ (x0 = 6 → nw_TI G 66 [.inr x1, .inr 0, .inr 5] σ (fun v5 u5 => (nw_r v5) ∧ ((v5 = 0 → Φ 0 u5) ∧ (v5 ≠ 0 → nw_TI G 66 [.inr x3, .inr 0, .inr 5] u5 (fun v6 u6 => (nw_r v6) ∧ ((v6 = 0 → Φ 0 u6) ∧ (v6 ≠ 0 → Φ 1 u6))))))) ∧ (x0 = 7 → nw_TI G 66 [.inr x1, .inr 0, .inr 5] σ (fun v7 u7 => (nw_r v7) ∧ ((v7 = 0 → Φ 0 u7) ∧ (v7 ≠ 0 → nw_TI G 66 [.inr x3, .inr 0, .inr 5] u7 (fun v8 u8 => (nw_r v8) ∧ ((v8 = 0 → Φ 0 u8) ∧ (v8 ≠ 0 → Φ 1 u8))))))) ∧ (x0 = 8 → nw_TI G 66 [.inr x1, .inr 0, .inr 25] σ (fun v9 u9 => (nw_r v9) ∧ ((v9 = 0 → Φ 0 u9) ∧ (v9 ≠ 0 → nw_TI G 66 [.inr x2, .inr x1, .inr 25] u9 (fun v10 u10 => (nw_r v10) ∧ ((v10 = 0 → Φ 0 u10) ∧ (v10 ≠ 0 → Φ 1 u10)))))))) : nw_V G 72 (nw_pi Φ) 0 [some (.inr x0), some (.inr x1), some (.inr x2), some (.inr x3)] [] σ := nw_run (cd := nw_cd72) rfl [] 15 (And.intro h.1 (And.intro (fun q15 => And.intro (by decide) ((h.2.1 q15))) (And.intro (fun q15 => (h.2.2.1 q15)) (And.intro (fun q15 => And.intro (h.2.2.2.1 q15).1 (And.intro ((h.2.2.2.1 q15).2).1 (And.intro (fun q1 => And.intro (by decide) (((((h.2.2.2.1 q15).2).2).1 q1))) (fun q1 => And.intro (by decide) (((((h.2.2.2.1 q15).2).2).2 q1)))))) (And.intro (fun q15 => And.intro (h.2.2.2.2.1 q15).1 (And.intro ((h.2.2.2.2.1 q15).2).1 (And.intro (fun q2 => And.intro (by decide) (((((h.2.2.2.2.1 q15).2).2).1 q2))) (fun q2 => And.intro (by decide) (((((h.2.2.2.2.1 q15).2).2).2 q2)))))) (And.intro (fun q15 => And.intro (h.2.2.2.2.2.1 q15).1 (And.intro ((h.2.2.2.2.2.1 q15).2).1 (And.intro (fun q4 => And.intro (by decide) (((((h.2.2.2.2.2.1 q15).2).2).1 q4))) (fun q4 => nw_TI.mono ((((h.2.2.2.2.2.1 q15).2).2).2 q4) (fun _ _ q_2 => And.intro q_2.1 (And.intro (fun q3 => And.intro (by decide) (((q_2.2).1 q3))) (fun q3 => And.intro (by decide) (((q_2.2).2 q3))))))))) (And.intro (fun q15 => And.intro (h.2.2.2.2.2.2.1 q15).1 (And.intro ((h.2.2.2.2.2.2.1 q15).2).1 (And.intro (fun q6 => And.intro (by decide) (((((h.2.2.2.2.2.2.1 q15).2).2).1 q6))) (fun q6 => nw_TI.mono ((((h.2.2.2.2.2.2.1 q15).2).2).2 q6) (fun _ _ q_3 => And.intro q_3.1 (And.intro (fun q5 => And.intro (by decide) (((q_3.2).1 q5))) (fun q5 => And.intro (by decide) (((q_3.2).2 q5))))))))) (And.intro (fun q15 => And.intro (h.2.2.2.2.2.2.2.1 q15).1 (And.intro ((h.2.2.2.2.2.2.2.1 q15).2).1 (And.intro (fun q8 => And.intro (by decide) (((((h.2.2.2.2.2.2.2.1 q15).2).2).1 q8))) (fun q8 => nw_TI.mono ((((h.2.2.2.2.2.2.2.1 q15).2).2).2 q8) (fun _ _ q_4 => And.intro q_4.1 (And.intro (fun q7 => And.intro (by decide) (((q_4.2).1 q7))) (fun q7 => And.intro (by decide) (((q_4.2).2 q7))))))))) (And.intro (fun q15 => nw_TI.mono (h.2.2.2.2.2.2.2.2.1 q15) (fun _ _ q_5 => And.intro q_5.1 (And.intro (fun q10 => And.intro (by decide) (((q_5.2).1 q10))) (fun q10 => nw_TI.mono ((q_5.2).2 q10) (fun _ _ q_6 => And.intro q_6.1 (And.intro (fun q9 => And.intro (by decide) (((q_6.2).1 q9))) (fun q9 => And.intro (by decide) (((q_6.2).2 q9))))))))) (And.intro (fun q15 => nw_TI.mono (h.2.2.2.2.2.2.2.2.2.1 q15) (fun _ _ q_7 => And.intro q_7.1 (And.intro (fun q12 => And.intro (by decide) (((q_7.2).1 q12))) (fun q12 => nw_TI.mono ((q_7.2).2 q12) (fun _ _ q_8 => And.intro q_8.1 (And.intro (fun q11 => And.intro (by decide) (((q_8.2).1 q11))) (fun q11 => And.intro (by decide) (((q_8.2).2 q11))))))))) (And.intro (fun q15 => nw_TI.mono (h.2.2.2.2.2.2.2.2.2.2 q15) (fun _ _ q_9 => And.intro q_9.1 (And.intro (fun q14 => And.intro (by decide) (((q_9.2).1 q14))) (fun q14 => nw_TI.mono ((q_9.2).2 q14) (fun _ _ q_10 => And.intro q_10.1 (And.intro (fun q13 => And.intro (by decide) (((q_10.2).1 q13))) (fun q13 => And.intro (by decide) (((q_10.2).2 q13))))))))) (True.intro))))))))))))
-- X5_rule
set_option maxRecDepth 100000 in
theorem bk73_0 {G : nw_G} {Φ : Int → nw_S → Prop} {σ : nw_S} {x1 x2 x3 x4 x5 : Int} (h : nw_TI G 66 [.inr x1, .inr 0, .inr 5] σ (fun v1 u1 => nw_TI G 66 [.inr x1, .inr 1, .inr 5] u1 (fun v2 u2 => (nw_r v1) ∧ ((v1 = 0 → (nw_r v2) ∧ ((v2 = 0 → nw_TI G 72 [.inr x1, .inr x2, .inr x3, .inr x4] u2 (fun v3 u3 => (nw_r v3) ∧ ((v3 = 0 → Φ (-1000002) u3) ∧ (v3 ≠ 0 → nw_TI G 66 [.inr x5, .inr 1, .inr 1000] u3 (fun v4 u4 => (nw_r v4) ∧ ((v4 ≠ 0 → (nw_r (u4 26 3)) ∧ (((u4 26 3) ≠ 12 → (0 ≤ (u4 26 3) ∧ (u4 26 3) < 12) ∧ (Φ (((u4 26 3) + 1) - 1) (nw_up (nw_up (nw_up (nw_up (nw_up (nw_up (nw_up (nw_up u4 29 ((u4 26 3).toNat) x1) 30 ((u4 26 3).toNat) x2) 31 ((u4 26 3).toNat) x3) 32 ((u4 26 3).toNat) x4) 33 ((u4 26 3).toNat) x5) 34 ((u4 26 3).toNat) 1) 26 3 ((u4 26 3) + 1)) 26 11 0))) ∧ ((u4 26 3) = 12 → Φ (-1000003) u4))) ∧ (v4 = 0 → Φ (-1000002) u4))))))) ∧ (v2 ≠ 0 → nw_TI G 67 [.inl 26, .inr x3] u2 (fun v5 u5 => (nw_r v5) ∧ ((v5 ≠ 0 → nw_TI G 72 [.inr x1, .inr x2, .inr x3, .inr x4] u5 (fun v6 u6 => (nw_r v6) ∧ ((v6 = 0 → Φ (-1000002) u6) ∧ (v6 ≠ 0 → nw_TI G 66 [.inr x5, .inr 1, .inr 1000] u6 (fun v7 u7 => (nw_r v7) ∧ ((v7 ≠ 0 → (nw_r (u7 26 3)) ∧ (((u7 26 3) ≠ 12 → (0 ≤ (u7 26 3) ∧ (u7 26 3) < 12) ∧ (Φ (((u7 26 3) + 1) - 1) (nw_up (nw_up (nw_up (nw_up (nw_up (nw_up (nw_up (nw_up u7 29 ((u7 26 3).toNat) x1) 30 ((u7 26 3).toNat) x2) 31 ((u7 26 3).toNat) x3) 32 ((u7 26 3).toNat) x4) 33 ((u7 26 3).toNat) x5) 34 ((u7 26 3).toNat) 1) 26 3 ((u7 26 3) + 1)) 26 11 0))) ∧ ((u7 26 3) = 12 → Φ (-1000003) u7))) ∧ (v7 = 0 → Φ (-1000002) u7))))))) ∧ (v5 = 0 → Φ (-1000001) u5)))))) ∧ (v1 ≠ 0 → nw_TI G 67 [.inl 26, .inr x2] u2 (fun v8 u8 => (nw_r v8) ∧ ((v8 = 0 → Φ (-1000001) u8) ∧ (v8 ≠ 0 → (nw_r v2) ∧ ((v2 = 0 → nw_TI G 72 [.inr x1, .inr x2, .inr x3, .inr x4] u8 (fun v9 u9 => (nw_r v9) ∧ ((v9 = 0 → Φ (-1000002) u9) ∧ (v9 ≠ 0 → nw_TI G 66 [.inr x5, .inr 1, .inr 1000] u9 (fun v10 u10 => (nw_r v10) ∧ ((v10 ≠ 0 → (nw_r (u10 26 3)) ∧ (((u10 26 3) ≠ 12 → (0 ≤ (u10 26 3) ∧ (u10 26 3) < 12) ∧ (Φ (((u10 26 3) + 1) - 1) (nw_up (nw_up (nw_up (nw_up (nw_up (nw_up (nw_up (nw_up u10 29 ((u10 26 3).toNat) x1) 30 ((u10 26 3).toNat) x2) 31 ((u10 26 3).toNat) x3) 32 ((u10 26 3).toNat) x4) 33 ((u10 26 3).toNat) x5) 34 ((u10 26 3).toNat) 1) 26 3 ((u10 26 3) + 1)) 26 11 0))) ∧ ((u10 26 3) = 12 → Φ (-1000003) u10))) ∧ (v10 = 0 → Φ (-1000002) u10))))))) ∧ (v2 ≠ 0 → nw_TI G 67 [.inl 26, .inr x3] u8 (fun v11 u11 => (nw_r v11) ∧ ((v11 ≠ 0 → nw_TI G 72 [.inr x1, .inr x2, .inr x3, .inr x4] u11 (fun v12 u12 => (nw_r v12) ∧ ((v12 = 0 → Φ (-1000002) u12) ∧ (v12 ≠ 0 → nw_TI G 66 [.inr x5, .inr 1, .inr 1000] u12 (fun v13 u13 => (nw_r v13) ∧ ((v13 ≠ 0 → (nw_r (u13 26 3)) ∧ (((u13 26 3) ≠ 12 → (0 ≤ (u13 26 3) ∧ (u13 26 3) < 12) ∧ (Φ (((u13 26 3) + 1) - 1) (nw_up (nw_up (nw_up (nw_up (nw_up (nw_up (nw_up (nw_up u13 29 ((u13 26 3).toNat) x1) 30 ((u13 26 3).toNat) x2) 31 ((u13 26 3).toNat) x3) 32 ((u13 26 3).toNat) x4) 33 ((u13 26 3).toNat) x5) 34 ((u13 26 3).toNat) 1) 26 3 ((u13 26 3) + 1)) 26 11 0))) ∧ ((u13 26 3) = 12 → Φ (-1000003) u13))) ∧ (v13 = 0 → Φ (-1000002) u13))))))) ∧ (v11 = 0 → Φ (-1000001) u11))))))))))))) : nw_V G 73 (nw_pi Φ) 0 [some (.inl 26), some (.inr x1), some (.inr x2), some (.inr x3), some (.inr x4), some (.inr x5), none, none] [] σ := nw_run (cd := nw_cd73) rfl [] 87 (nw_TI.mono h (fun _ _ q_1 => nw_TI.mono q_1 (fun _ _ q_2 => And.intro q_2.1 (And.intro (fun q18 => And.intro ((q_2.2).1 q18).1 (And.intro (fun q8 => nw_TI.mono ((((q_2.2).1 q18).2).1 q8) (fun _ _ q_3 => And.intro q_3.1 (And.intro (fun q3 => ((q_3.2).1 q3)) (fun q3 => nw_TI.mono ((q_3.2).2 q3) (fun _ _ q_4 => And.intro q_4.1 (And.intro (fun q2 => And.intro ((q_4.2).1 q2).1 (And.intro (by decide) (And.intro (fun q1 => And.intro ((((q_4.2).1 q2).2).1 q1).1 (And.intro ((((q_4.2).1 q2).2).1 q1).1 (And.intro ((((q_4.2).1 q2).2).1 q1).1 (And.intro ((((q_4.2).1 q2).2).1 q1).1 (And.intro ((((q_4.2).1 q2).2).1 q1).1 (And.intro ((((q_4.2).1 q2).2).1 q1).1 (And.intro (by decide) (((((q_4.2).1 q2).2).1 q1).2)))))))) (fun q1 => ((((q_4.2).1 q2).2).2 q1))))) (fun q2 => ((q_4.2).2 q2)))))))) (fun q8 => nw_TI.mono ((((q_2.2).1 q18).2).2 q8) (fun _ _ q_5 => And.intro q_5.1 (And.intro (fun q7 => nw_TI.mono ((q_5.2).1 q7) (fun _ _ q_6 => And.intro q_6.1 (And.intro (fun q6 => ((q_6.2).1 q6)) (fun q6 => nw_TI.mono ((q_6.2).2 q6) (fun _ _ q_7 => And.intro q_7.1 (And.intro (fun q5 => And.intro ((q_7.2).1 q5).1 (And.intro (by decide) (And.intro (fun q4 => And.intro ((((q_7.2).1 q5).2).1 q4).1 (And.intro ((((q_7.2).1 q5).2).1 q4).1 (And.intro ((((q_7.2).1 q5).2).1 q4).1 (And.intro ((((q_7.2).1 q5).2).1 q4).1 (And.intro ((((q_7.2).1 q5).2).1 q4).1 (And.intro ((((q_7.2).1 q5).2).1 q4).1 (And.intro (by decide) (((((q_7.2).1 q5).2).1 q4).2)))))))) (fun q4 => ((((q_7.2).1 q5).2).2 q4))))) (fun q5 => ((q_7.2).2 q5)))))))) (fun q7 => ((q_5.2).2 q7))))))) (fun q18 => nw_TI.mono ((q_2.2).2 q18) (fun _ _ q_8 => And.intro q_8.1 (And.intro (fun q17 => ((q_8.2).1 q17)) (fun q17 => And.intro ((q_8.2).2 q17).1 (And.intro (fun q16 => nw_TI.mono ((((q_8.2).2 q17).2).1 q16) (fun _ _ q_9 => And.intro q_9.1 (And.intro (fun q11 => ((q_9.2).1 q11)) (fun q11 => nw_TI.mono ((q_9.2).2 q11) (fun _ _ q_10 => And.intro q_10.1 (And.intro (fun q10 => And.intro ((q_10.2).1 q10).1 (And.intro (by decide) (And.intro (fun q9 => And.intro ((((q_10.2).1 q10).2).1 q9).1 (And.intro ((((q_10.2).1 q10).2).1 q9).1 (And.intro ((((q_10.2).1 q10).2).1 q9).1 (And.intro ((((q_10.2).1 q10).2).1 q9).1 (And.intro ((((q_10.2).1 q10).2).1 q9).1 (And.intro ((((q_10.2).1 q10).2).1 q9).1 (And.intro (by decide) (((((q_10.2).1 q10).2).1 q9).2)))))))) (fun q9 => ((((q_10.2).1 q10).2).2 q9))))) (fun q10 => ((q_10.2).2 q10)))))))) (fun q16 => nw_TI.mono ((((q_8.2).2 q17).2).2 q16) (fun _ _ q_11 => And.intro q_11.1 (And.intro (fun q15 => nw_TI.mono ((q_11.2).1 q15) (fun _ _ q_12 => And.intro q_12.1 (And.intro (fun q14 => ((q_12.2).1 q14)) (fun q14 => nw_TI.mono ((q_12.2).2 q14) (fun _ _ q_13 => And.intro q_13.1 (And.intro (fun q13 => And.intro ((q_13.2).1 q13).1 (And.intro (by decide) (And.intro (fun q12 => And.intro ((((q_13.2).1 q13).2).1 q12).1 (And.intro ((((q_13.2).1 q13).2).1 q12).1 (And.intro ((((q_13.2).1 q13).2).1 q12).1 (And.intro ((((q_13.2).1 q13).2).1 q12).1 (And.intro ((((q_13.2).1 q13).2).1 q12).1 (And.intro ((((q_13.2).1 q13).2).1 q12).1 (And.intro (by decide) (((((q_13.2).1 q13).2).1 q12).2)))))))) (fun q12 => ((((q_13.2).1 q13).2).2 q12))))) (fun q13 => ((q_13.2).2 q13)))))))) (fun q15 => ((q_11.2).2 q15))))))))))))))
-- X5_mode
set_option maxRecDepth 100000 in
theorem bk74_0 {G : nw_G} {Φ : Int → nw_S → Prop} {σ : nw_S} {x1 x2 : Int} (h : nw_TI G 69 [.inl 26, .inr x1] σ (fun v1 u1 => (nw_r v1) ∧ ((v1 ≠ 0 → nw_TI G 66 [.inr x2, .inr 0, .inr 2] u1 (fun v2 u2 => (nw_r v2) ∧ ((v2 ≠ 0 → (0 ≤ x1 ∧ x1 < 12) ∧ (Φ (u2 34 (x1.toNat)) (nw_up u2 34 (x1.toNat) x2))) ∧ (v2 = 0 → Φ (-1000002) u2)))) ∧ (v1 = 0 → Φ (-1000001) u1)))) : nw_V G 74 (nw_pi Φ) 0 [some (.inl 26), some (.inr x1), some (.inr x2), none] [] σ := nw_run (cd := nw_cd74) rfl [] 21 (nw_TI.mono h (fun _ _ q_1 => And.intro q_1.1 (And.intro (fun q2 => nw_TI.mono ((q_1.2).1 q2) (fun _ _ q_2 => And.intro q_2.1 (And.intro (fun q1 => And.intro ((q_2.2).1 q1).1 (And.intro ((q_2.2).1 q1).1 (((q_2.2).1 q1).2))) (fun q1 => ((q_2.2).2 q1))))) (fun q2 => ((q_1.2).2 q2)))))
-- X5_weigh
set_option maxRecDepth 100000 in
theorem bk75_0 {G : nw_G} {Φ : Int → nw_S → Prop} {σ : nw_S} {x1 x2 : Int} (h : nw_TI G 69 [.inl 26, .inr x1] σ (fun v1 u1 => (nw_r v1) ∧ ((v1 ≠ 0 → nw_TI G 66 [.inr x2, .inr 1, .inr 1000] u1 (fun v2 u2 => (nw_r v2) ∧ ((v2 ≠ 0 → (0 ≤ x1 ∧ x1 < 12) ∧ (Φ (u2 33 (x1.toNat)) (nw_up u2 33 (x1.toNat) x2))) ∧ (v2 = 0 → Φ (-1000002) u2)))) ∧ (v1 = 0 → Φ (-1000001) u1)))) : nw_V G 75 (nw_pi Φ) 0 [some (.inl 26), some (.inr x1), some (.inr x2), none] [] σ := nw_run (cd := nw_cd75) rfl [] 21 (nw_TI.mono h (fun _ _ q_1 => And.intro q_1.1 (And.intro (fun q2 => nw_TI.mono ((q_1.2).1 q2) (fun _ _ q_2 => And.intro q_2.1 (And.intro (fun q1 => And.intro ((q_2.2).1 q1).1 (And.intro ((q_2.2).1 q1).1 (((q_2.2).1 q1).2))) (fun q1 => ((q_2.2).2 q1))))) (fun q2 => ((q_1.2).2 q2)))))
-- X5_told
set_option maxRecDepth 100000 in
theorem bk76_0 {G : nw_G} {Φ : Int → nw_S → Prop} {σ : nw_S} {x1 x2 : Int} (h : nw_TI G 69 [.inl 26, .inr x1] σ (fun v1 u1 => (nw_r v1) ∧ ((v1 ≠ 0 → nw_r x2 ∧ (x2 < 0 ∨ 5 < x2 → Φ (-1000002) u1) ∧ (x2 = 0 → (0 ≤ x1 ∧ x1 < 12) ∧ (Φ (u1 29 (x1.toNat)) u1)) ∧ (x2 = 1 → (0 ≤ x1 ∧ x1 < 12) ∧ (Φ (u1 30 (x1.toNat)) u1)) ∧ (x2 = 2 → (0 ≤ x1 ∧ x1 < 12) ∧ (Φ (u1 31 (x1.toNat)) u1)) ∧ (x2 = 3 → (0 ≤ x1 ∧ x1 < 12) ∧ (Φ (u1 32 (x1.toNat)) u1)) ∧ (x2 = 4 → (0 ≤ x1 ∧ x1 < 12) ∧ (Φ (u1 33 (x1.toNat)) u1)) ∧ (x2 = 5 → (0 ≤ x1 ∧ x1 < 12) ∧ (Φ (u1 34 (x1.toNat)) u1))) ∧ (v1 = 0 → Φ (-1000001) u1)))) : nw_V G 76 (nw_pi Φ) 0 [some (.inl 26), some (.inr x1), some (.inr x2)] [] σ := nw_run (cd := nw_cd76) rfl [] 11 (nw_TI.mono h (fun _ _ q_1 => And.intro q_1.1 (And.intro (fun q1 => And.intro ((q_1.2).1 q1).1 (And.intro (fun q2 => (((q_1.2).1 q1).2.1 q2)) (And.intro (fun q2 => (((q_1.2).1 q1).2.2.1 q2)) (And.intro (fun q2 => (((q_1.2).1 q1).2.2.2.1 q2)) (And.intro (fun q2 => (((q_1.2).1 q1).2.2.2.2.1 q2)) (And.intro (fun q2 => (((q_1.2).1 q1).2.2.2.2.2.1 q2)) (And.intro (fun q2 => (((q_1.2).1 q1).2.2.2.2.2.2.1 q2)) (And.intro (fun q2 => (((q_1.2).1 q1).2.2.2.2.2.2.2 q2)) (True.intro))))))))) (fun q1 => ((q_1.2).2 q1)))))
-- X5_plans
set_option maxRecDepth 100000 in
theorem bk77_0 {G : nw_G} {Φ : Int → nw_S → Prop} {σ : nw_S} (h : nw_V G 77 (nw_pi Φ) 4 [some (.inl 26), some (.inr 1), some (.inr 0)] [] σ) : nw_V G 77 (nw_pi Φ) 0 [some (.inl 26), none, none] [] σ := nw_run (cd := nw_cd77) rfl [(4, 3)] 5 (h)
set_option maxRecDepth 100000 in
theorem bk77_4 {G : nw_G} {Φ : Int → nw_S → Prop} {σ : nw_S} {x1 x2 : Int} (h : (nw_r x2) ∧ ((nw_r (σ 26 0)) ∧ (((σ 26 0) ≤ x2 → Φ x1 σ) ∧ (x2 < (σ 26 0) → (0 ≤ x2 ∧ x2 < 5) ∧ (nw_V G 77 (nw_pi Φ) 4 [some (.inl 26), some (.inr (x1 * (σ 27 (x2.toNat)))), some (.inr (x2 + 1))] [] σ))))) : nw_V G 77 (nw_pi Φ) 4 [some (.inl 26), some (.inr x1), some (.inr x2)] [] σ := nw_run (cd := nw_cd77) rfl [(4, 3)] 14 (h)
-- X5_lay
set_option maxRecDepth 100000 in
theorem bk78_0 {G : nw_G} {Φ : nw_S → Prop} {σ : nw_S} {x1 : Int} (h : nw_V G 78 (nw_pv Φ) 9 [some (.inl 26), some (.inr x1), some (.inr x1), some (.inr ((σ 26 0) - 1))] [] σ) : nw_V G 78 (nw_pv Φ) 0 [some (.inl 26), some (.inr x1), none, none] [] σ := nw_run (cd := nw_cd78) rfl [(9, 4)] 8 (h)
set_option maxRecDepth 100000 in
theorem bk78_9 {G : nw_G} {Φ : nw_S → Prop} {σ : nw_S} {x1 x2 x3 : Int} (h : (nw_r x3) ∧ ((x3 < 0 → Φ σ) ∧ ((0 : Int) ≤ x3 → (0 ≤ x3 ∧ x3 < 5) ∧ ((0 ≤ x2 ∧ x2 < 2147483648 ∧ 0 < (σ 27 (x3.toNat)) ∧ (σ 27 (x3.toNat)) < 2147483648) ∧ (nw_V G 78 (nw_pv Φ) 9 [some (.inl 26), some (.inr x1), some (.inr (x2 / (σ 27 (x3.toNat)))), some (.inr (x3 + (-1)))] [] (nw_up σ 37 (x3.toNat) (x2 % (σ 27 (x3.toNat))))))))) : nw_V G 78 (nw_pv Φ) 9 [some (.inl 26), some (.inr x1), some (.inr x2), some (.inr x3)] [] σ := nw_run (cd := nw_cd78) rfl [(9, 4)] 22 (And.intro h.1 (And.intro (fun q1 => ((h.2).1 q1)) (fun q1 => And.intro ((h.2).2 q1).1 (And.intro (((h.2).2 q1).2).1 (And.intro ((h.2).2 q1).1 (And.intro ((h.2).2 q1).1 (And.intro (((h.2).2 q1).2).1 ((((h.2).2 q1).2).2))))))))
-- X5_keeps
set_option maxRecDepth 100000 in
theorem bk79_0 {G : nw_G} {Φ : Int → nw_S → Prop} {σ : nw_S} {x1 : Int} (h : (0 ≤ x1 ∧ x1 < 12) ∧ (nw_V G 79 (nw_pi Φ) 31 [some (.inl 26), some (.inr x1), some (.inr (σ 30 (x1.toNat))), some (.inr (σ 31 (x1.toNat))), some (.inr (σ 32 (x1.toNat))), some (.inr 0), some (.inr 0), some (.inr 0)] [] σ)) : nw_V G 79 (nw_pi Φ) 0 [some (.inl 26), some (.inr x1), none, none, none, none, none, none] [] σ := nw_run (cd := nw_cd79) rfl [(31, 8)] 22 (And.intro h.1 (And.intro h.1 (And.intro h.1 (h.2))))
set_option maxRecDepth 100000 in
theorem bk79_31 {G : nw_G} {Φ : Int → nw_S → Prop} {σ : nw_S} {x1 x2 x3 x4 x5 x6 x7 : Int} (h : (nw_r x7) ∧ ((nw_r (σ 26 0)) ∧ (((σ 26 0) ≤ x7 → (0 ≤ x1 ∧ x1 < 12) ∧ (nw_r (σ 29 (x1.toNat)) ∧ ((σ 29 (x1.toNat)) < 0 ∨ 7 < (σ 29 (x1.toNat)) → (nw_r x6) ∧ ((nw_r x2) ∧ ((x6 < x2 → Φ 0 σ) ∧ (x2 ≤ x6 → (nw_r x3) ∧ ((x3 < x6 → Φ 0 σ) ∧ (x6 ≤ x3 → Φ 1 σ)))))) ∧ ((σ 29 (x1.toNat)) = 0 → (0 ≤ x2 ∧ x2 < 5) ∧ ((nw_r (nw_and (nw_shr x4 (σ 37 (x2.toNat))) 1)) ∧ (((nw_and (nw_shr x4 (σ 37 (x2.toNat))) 1) ≠ 1 → Φ 0 σ) ∧ ((nw_and (nw_shr x4 (σ 37 (x2.toNat))) 1) = 1 → Φ 1 σ)))) ∧ ((σ 29 (x1.toNat)) = 1 → (0 ≤ x2 ∧ x2 < 5) ∧ ((0 ≤ x3 ∧ x3 < 5) ∧ ((nw_r (σ 37 (x2.toNat))) ∧ ((nw_r (σ 37 (x3.toNat))) ∧ (((σ 37 (x2.toNat)) = (σ 37 (x3.toNat)) → Φ 0 σ) ∧ ((σ 37 (x2.toNat)) ≠ (σ 37 (x3.toNat)) → Φ 1 σ)))))) ∧ ((σ 29 (x1.toNat)) = 2 → (0 ≤ x2 ∧ x2 < 5) ∧ ((0 ≤ x3 ∧ x3 < 5) ∧ ((nw_r (σ 37 (x2.toNat))) ∧ ((nw_r (σ 37 (x3.toNat))) ∧ (((σ 37 (x2.toNat)) ≠ (σ 37 (x3.toNat)) → Φ 0 σ) ∧ ((σ 37 (x2.toNat)) = (σ 37 (x3.toNat)) → Φ 1 σ)))))) ∧ ((σ 29 (x1.toNat)) = 3 → (0 ≤ x3 ∧ x3 < 5) ∧ ((0 ≤ x2 ∧ x2 < 5) ∧ ((nw_r (σ 37 (x3.toNat))) ∧ ((nw_r ((σ 37 (x2.toNat)) + x4)) ∧ (((σ 37 (x3.toNat)) < ((σ 37 (x2.toNat)) + x4) → Φ 0 σ) ∧ (((σ 37 (x2.toNat)) + x4) ≤ (σ 37 (x3.toNat)) → Φ 1 σ)))))) ∧ ((σ 29 (x1.toNat)) = 4 → (0 ≤ x2 ∧ x2 < 5) ∧ ((0 ≤ x3 ∧ x3 < 5) ∧ ((nw_r ((σ 37 (x2.toNat)) - (σ 37 (x3.toNat)))) ∧ ((nw_r x4) ∧ ((x4 < ((σ 37 (x2.toNat)) - (σ 37 (x3.toNat))) → Φ 0 σ) ∧ (((σ 37 (x2.toNat)) - (σ 37 (x3.toNat))) ≤ x4 → (nw_r ((σ 37 (x3.toNat)) - (σ 37 (x2.toNat)))) ∧ ((x4 < ((σ 37 (x3.toNat)) - (σ 37 (x2.toNat))) → Φ 0 σ) ∧ (((σ 37 (x3.toNat)) - (σ 37 (x2.toNat))) ≤ x4 → Φ 1 σ)))))))) ∧ ((σ 29 (x1.toNat)) = 5 → (0 ≤ x2 ∧ x2 < 5) ∧ ((0 ≤ x4 ∧ x4 < 2147483648 ∧ 0 < (8 : Int) ∧ (8 : Int) < 2147483648) ∧ ((nw_r (σ 37 (x2.toNat))) ∧ ((nw_r (x4 / 8)) ∧ (((σ 37 (x2.toNat)) ≠ (x4 / 8) → Φ 1 σ) ∧ ((σ 37 (x2.toNat)) = (x4 / 8) → (0 ≤ x3 ∧ x3 < 5) ∧ ((nw_r (σ 37 (x3.toNat))) ∧ ((nw_r (x4 % 8)) ∧ (((σ 37 (x3.toNat)) ≠ (x4 % 8) → Φ 0 σ) ∧ ((σ 37 (x3.toNat)) = (x4 % 8) → Φ 1 σ)))))))))) ∧ ((σ 29 (x1.toNat)) = 6 → (nw_r x5) ∧ ((nw_r x4) ∧ ((x4 < x5 → Φ 0 σ) ∧ (x5 ≤ x4 → Φ 1 σ)))) ∧ ((σ 29 (x1.toNat)) = 7 → (nw_r x5) ∧ ((nw_r x4) ∧ ((x5 < x4 → Φ 0 σ) ∧ (x4 ≤ x5 → Φ 1 σ)))))) ∧ (x7 < (σ 26 0) → (0 ≤ x7 ∧ x7 < 5) ∧ ((nw_r (σ 37 (x7.toNat))) ∧ ((nw_r x2) ∧ (((σ 37 (x7.toNat)) ≠ x2 → nw_V G 79 (nw_pi Φ) 31 [some (.inl 26), some (.inr x1), some (.inr x2), some (.inr x3), some (.inr x4), some (.inr (x5 + 0)), some (.inr (x6 + (σ 37 (x7.toNat)))), some (.inr (x7 + 1))] [] σ) ∧ ((σ 37 (x7.toNat)) = x2 → nw_V G 79 (nw_pi Φ) 31 [some (.inl 26), some (.inr x1), some (.inr x2), some (.inr x3), some (.inr x4), some (.inr (x5 + 1)), some (.inr (x6 + (σ 37 (x7.toNat)))), some (.inr (x7 + 1))] [] σ)))))))) : nw_V G 79 (nw_pi Φ) 31 [some (.inl 26), some (.inr x1), some (.inr x2), some (.inr x3), some (.inr x4), some (.inr x5), some (.inr x6), some (.inr x7)] [] σ := nw_run (cd := nw_cd79) rfl [(31, 8)] 34 (And.intro h.1 (And.intro (h.2).1 (And.intro (fun q14 => And.intro (((h.2).2).1 q14).1 (And.intro ((((h.2).2).1 q14).2).1 (And.intro (fun q15 => And.intro (((((h.2).2).1 q14).2).2.1 q15).1 (And.intro ((((((h.2).2).1 q14).2).2.1 q15).2).1 (And.intro (fun q2 => And.intro (by decide) (((((((((h.2).2).1 q14).2).2.1 q15).2).2).1 q2))) (fun q2 => And.intro (((((h.2).2).1 q14).2).2.1 q15).1 (And.intro ((((((((h.2).2).1 q14).2).2.1 q15).2).2).2 q2).1 (And.intro (fun q1 => And.intro (by decide) (((((((((((h.2).2).1 q14).2).2.1 q15).2).2).2 q2).2).1 q1))) (fun q1 => And.intro (by decide) (((((((((((h.2).2).1 q14).2).2.1 q15).2).2).2 q2).2).2 q1))))))))) (And.intro (fun q15 => And.intro (((((h.2).2).1 q14).2).2.2.1 q15).1 (And.intro ((((((h.2).2).1 q14).2).2.2.1 q15).2).1 (And.intro (by decide) (And.intro (fun q3 => And.intro (by decide) (((((((((h.2).2).1 q14).2).2.2.1 q15).2).2).1 q3))) (fun q3 => And.intro (by decide) (((((((((h.2).2).1 q14).2).2.2.1 q15).2).2).2 q3))))))) (And.intro (fun q15 => And.intro (((((h.2).2).1 q14).2).2.2.2.1 q15).1 (And.intro ((((((h.2).2).1 q14).2).2.2.2.1 q15).2).1 (And.intro (((((((h.2).2).1 q14).2).2.2.2.1 q15).2).2).1 (And.intro ((((((((h.2).2).1 q14).2).2.2.2.1 q15).2).2).2).1 (And.intro (fun q4 => And.intro (by decide) (((((((((((h.2).2).1 q14).2).2.2.2.1 q15).2).2).2).2).1 q4))) (fun q4 => And.intro (by decide) (((((((((((h.2).2).1 q14).2).2.2.2.1 q15).2).2).2).2).2 q4)))))))) (And.intro (fun q15 => And.intro (((((h.2).2).1 q14).2).2.2.2.2.1 q15).1 (And.intro ((((((h.2).2).1 q14).2).2.2.2.2.1 q15).2).1 (And.intro (((((((h.2).2).1 q14).2).2.2.2.2.1 q15).2).2).1 (And.intro ((((((((h.2).2).1 q14).2).2.2.2.2.1 q15).2).2).2).1 (And.intro (fun q5 => And.intro (by decide) (((((((((((h.2).2).1 q14).2).2.2.2.2.1 q15).2).2).2).2).1 q5))) (fun q5 => And.intro (by decide) (((((((((((h.2).2).1 q14).2).2.2.2.2.1 q15).2).2).2).2).2 q5)))))))) (And.intro (fun q15 => And.intro (((((h.2).2).1 q14).2).2.2.2.2.2.1 q15).1 (And.intro ((((((h.2).2).1 q14).2).2.2.2.2.2.1 q15).2).1 (And.intro (((((((h.2).2).1 q14).2).2.2.2.2.2.1 q15).2).2).1 (And.intro ((((((((h.2).2).1 q14).2).2.2.2.2.2.1 q15).2).2).2).1 (And.intro (fun q6 => And.intro (by decide) (((((((((((h.2).2).1 q14).2).2.2.2.2.2.1 q15).2).2).2).2).1 q6))) (fun q6 => And.intro (by decide) (((((((((((h.2).2).1 q14).2).2.2.2.2.2.1 q15).2).2).2).2).2 q6)))))))) (And.intro (fun q15 => And.intro (((((h.2).2).1 q14).2).2.2.2.2.2.2.1 q15).1 (And.intro ((((((h.2).2).1 q14).2).2.2.2.2.2.2.1 q15).2).1 (And.intro (((((((h.2).2).1 q14).2).2.2.2.2.2.2.1 q15).2).2).1 (And.intro ((((((((h.2).2).1 q14).2).2.2.2.2.2.2.1 q15).2).2).2).1 (And.intro (fun q8 => And.intro (by decide) (((((((((((h.2).2).1 q14).2).2.2.2.2.2.2.1 q15).2).2).2).2).1 q8))) (fun q8 => And.intro ((((((h.2).2).1 q14).2).2.2.2.2.2.2.1 q15).2).1 (And.intro (((((h.2).2).1 q14).2).2.2.2.2.2.2.1 q15).1 (And.intro ((((((((((h.2).2).1 q14).2).2.2.2.2.2.2.1 q15).2).2).2).2).2 q8).1 (And.intro ((((((((h.2).2).1 q14).2).2.2.2.2.2.2.1 q15).2).2).2).1 (And.intro (fun q7 => And.intro (by decide) (((((((((((((h.2).2).1 q14).2).2.2.2.2.2.2.1 q15).2).2).2).2).2 q8).2).1 q7))) (fun q7 => And.intro (by decide) (((((((((((((h.2).2).1 q14).2).2.2.2.2.2.2.1 q15).2).2).2).2).2 q8).2).2 q7))))))))))))) (And.intro (fun q15 => And.intro (((((h.2).2).1 q14).2).2.2.2.2.2.2.2.1 q15).1 (And.intro ((((((h.2).2).1 q14).2).2.2.2.2.2.2.2.1 q15).2).1 (And.intro (((((((h.2).2).1 q14).2).2.2.2.2.2.2.2.1 q15).2).2).1 (And.intro ((((((((h.2).2).1 q14).2).2.2.2.2.2.2.2.1 q15).2).2).2).1 (And.intro (fun q10 => And.intro (by decide) (((((((((((h.2).2).1 q14).2).2.2.2.2.2.2.2.1 q15).2).2).2).2).1 q10))) (fun q10 => And.intro ((((((((((h.2).2).1 q14).2).2.2.2.2.2.2.2.1 q15).2).2).2).2).2 q10).1 (And.intro ((((((h.2).2).1 q14).2).2.2.2.2.2.2.2.1 q15).2).1 (And.intro (((((((((((h.2).2).1 q14).2).2.2.2.2.2.2.2.1 q15).2).2).2).2).2 q10).2).1 (And.intro ((((((((((((h.2).2).1 q14).2).2.2.2.2.2.2.2.1 q15).2).2).2).2).2 q10).2).2).1 (And.intro (fun q9 => And.intro (by decide) (((((((((((((((h.2).2).1 q14).2).2.2.2.2.2.2.2.1 q15).2).2).2).2).2 q10).2).2).2).1 q9))) (fun q9 => And.intro (by decide) (((((((((((((((h.2).2).1 q14).2).2.2.2.2.2.2.2.1 q15).2).2).2).2).2 q10).2).2).2).2 q9))))))))))))) (And.intro (fun q15 => And.intro (((((h.2).2).1 q14).2).2.2.2.2.2.2.2.2.1 q15).1 (And.intro ((((((h.2).2).1 q14).2).2.2.2.2.2.2.2.2.1 q15).2).1 (And.intro (fun q11 => And.intro (by decide) (((((((((h.2).2).1 q14).2).2.2.2.2.2.2.2.2.1 q15).2).2).1 q11))) (fun q11 => And.intro (by decide) (((((((((h.2).2).1 q14).2).2.2.2.2.2.2.2.2.1 q15).2).2).2 q11)))))) (And.intro (fun q15 => And.intro (((((h.2).2).1 q14).2).2.2.2.2.2.2.2.2.2 q15).1 (And.intro ((((((h.2).2).1 q14).2).2.2.2.2.2.2.2.2.2 q15).2).1 (And.intro (fun q12 => And.intro (by decide) (((((((((h.2).2).1 q14).2).2.2.2.2.2.2.2.2.2 q15).2).2).1 q12))) (fun q12 => And.intro (by decide) (((((((((h.2).2).1 q14).2).2.2.2.2.2.2.2.2.2 q15).2).2).2 q12)))))) (True.intro)))))))))))) (fun q14 => And.intro (((h.2).2).2 q14).1 (And.intro ((((h.2).2).2 q14).2).1 (And.intro (((((h.2).2).2 q14).2).2).1 (And.intro (fun q13 => And.intro (((h.2).2).2 q14).1 ((((((((h.2).2).2 q14).2).2).2).1 q13))) (fun q13 => And.intro (((h.2).2).2 q14).1 ((((((((h.2).2).2 q14).2).2).2).2 q13))))))))))
-- X5_breaksNow
set_option maxRecDepth 100000 in
theorem bk80_0 {G : nw_G} {Φ : Int → nw_S → Prop} {σ : nw_S} (h : nw_V G 80 (nw_pi Φ) 4 [some (.inl 26), some (.inr 0), some (.inr 0)] [] σ) : nw_V G 80 (nw_pi Φ) 0 [some (.inl 26), none, none] [] σ := nw_run (cd := nw_cd80) rfl [(4, 3)] 5 (h)
set_option maxRecDepth 100000 in
theorem bk80_4 {G : nw_G} {Φ : Int → nw_S → Prop} {σ : nw_S} {x1 x2 : Int} (h : (nw_r x2) ∧ ((nw_r (σ 26 3)) ∧ (((σ 26 3) ≤ x2 → Φ x1 σ) ∧ (x2 < (σ 26 3) → nw_TI G 79 [.inl 26, .inr x2] σ (fun v1 u1 => (nw_r v1) ∧ ((v1 = 0 → nw_V G 80 (nw_pi Φ) 4 [some (.inl 26), some (.inr (nw_or x1 (nw_shl 1 x2))), some (.inr (x2 + 1))] [] u1) ∧ (v1 ≠ 0 → nw_V G 80 (nw_pi Φ) 4 [some (.inl 26), some (.inr (nw_or x1 0)), some (.inr (x2 + 1))] [] u1))))))) : nw_V G 80 (nw_pi Φ) 4 [some (.inl 26), some (.inr x1), some (.inr x2)] [] σ := nw_run (cd := nw_cd80) rfl [(4, 3)] 17 (h)
-- X5_freshen
set_option maxRecDepth 100000 in
theorem bk81_0 {G : nw_G} {Φ : nw_S → Prop} {σ : nw_S} (h : (nw_r (σ 26 11)) ∧ (((σ 26 11) ≠ 0 → Φ σ) ∧ ((σ 26 11) = 0 → nw_TI G 77 [.inl 26] (nw_up σ 26 11 1) (fun v1 u1 => nw_V G 81 (nw_pv Φ) 19 [some (.inl 26), some (.inr v1), some (.inr 0)] [] u1)))) : nw_V G 81 (nw_pv Φ) 0 [some (.inl 26), none, none] [] σ := nw_run (cd := nw_cd81) rfl [(19, 3)] 12 (And.intro h.1 (And.intro (fun q1 => ((h.2).1 q1)) (fun q1 => And.intro (by decide) (((h.2).2 q1)))))
set_option maxRecDepth 100000 in
theorem bk81_19 {G : nw_G} {Φ : nw_S → Prop} {σ : nw_S} {x1 x2 : Int} (h : (nw_r x2) ∧ ((nw_r x1) ∧ ((x1 ≤ x2 → Φ σ) ∧ (x2 < x1 → nw_TV G 78 [.inl 26, .inr x2] σ (fun u1 => nw_TI G 80 [.inl 26] u1 (fun v2 u2 => (0 ≤ x2 ∧ x2 < 7776) ∧ (nw_V G 81 (nw_pv Φ) 19 [some (.inl 26), some (.inr x1), some (.inr (x2 + 1))] [] (nw_up u2 35 (x2.toNat) v2)))))))) : nw_V G 81 (nw_pv Φ) 19 [some (.inl 26), some (.inr x1), some (.inr x2)] [] σ := nw_run (cd := nw_cd81) rfl [(19, 3)] 15 (h)
-- X5_ofMode
set_option maxRecDepth 100000 in
theorem bk82_0 {G : nw_G} {Φ : Int → nw_S → Prop} {σ : nw_S} {x1 : Int} (h : nw_V G 82 (nw_pi Φ) 4 [some (.inl 26), some (.inr x1), some (.inr 0), some (.inr 0)] [] σ) : nw_V G 82 (nw_pi Φ) 0 [some (.inl 26), some (.inr x1), none, none] [] σ := nw_run (cd := nw_cd82) rfl [(4, 4)] 5 (h)
set_option maxRecDepth 100000 in
theorem bk82_4 {G : nw_G} {Φ : Int → nw_S → Prop} {σ : nw_S} {x1 x2 x3 : Int} (h : (nw_r x3) ∧ ((nw_r (σ 26 3)) ∧ (((σ 26 3) ≤ x3 → Φ x2 σ) ∧ (x3 < (σ 26 3) → (0 ≤ x3 ∧ x3 < 12) ∧ ((nw_r (σ 34 (x3.toNat))) ∧ ((nw_r x1) ∧ (((σ 34 (x3.toNat)) ≠ x1 → nw_V G 82 (nw_pi Φ) 4 [some (.inl 26), some (.inr x1), some (.inr (nw_or x2 0)), some (.inr (x3 + 1))] [] σ) ∧ ((σ 34 (x3.toNat)) = x1 → nw_V G 82 (nw_pi Φ) 4 [some (.inl 26), some (.inr x1), some (.inr (nw_or x2 (nw_shl 1 x3))), some (.inr (x3 + 1))] [] σ)))))))) : nw_V G 82 (nw_pi Φ) 4 [some (.inl 26), some (.inr x1), some (.inr x2), some (.inr x3)] [] σ := nw_run (cd := nw_cd82) rfl [(4, 4)] 20 (h)
-- X5_costOf
set_option maxRecDepth 100000 in
theorem bk83_0 {G : nw_G} {Φ : Int → nw_S → Prop} {σ : nw_S} {x1 : Int} (h : nw_V G 83 (nw_pi Φ) 4 [some (.inl 26), some (.inr x1), some (.inr 0), some (.inr 0)] [] σ) : nw_V G 83 (nw_pi Φ) 0 [some (.inl 26), some (.inr x1), none, none] [] σ := nw_run (cd := nw_cd83) rfl [(4, 4)] 5 (h)
set_option maxRecDepth 100000 in
theorem bk83_4 {G : nw_G} {Φ : Int → nw_S → Prop} {σ : nw_S} {x1 x2 x3 : Int} (h : (nw_r x3) ∧ ((nw_r (σ 26 3)) ∧ (((σ 26 3) ≤ x3 → Φ x2 σ) ∧ (x3 < (σ 26 3) → (nw_r (nw_and (nw_shr x1 x3) 1)) ∧ (((nw_and (nw_shr x1 x3) 1) ≠ 1 → nw_V G 83 (nw_pi Φ) 4 [some (.inl 26), some (.inr x1), some (.inr (x2 + 0)), some (.inr (x3 + 1))] [] σ) ∧ ((nw_and (nw_shr x1 x3) 1) = 1 → (0 ≤ x3 ∧ x3 < 12) ∧ (nw_V G 83 (nw_pi Φ) 4 [some (.inl 26), some (.inr x1), some (.inr (x2 + (σ 33 (x3.toNat)))), some (.inr (x3 + 1))] [] σ))))))) : nw_V G 83 (nw_pi Φ) 4 [some (.inl 26), some (.inr x1), some (.inr x2), some (.inr x3)] [] σ := nw_run (cd := nw_cd83) rfl [(4, 4)] 22 (And.intro h.1 (And.intro (h.2).1 (And.intro (fun q2 => (((h.2).2).1 q2)) (fun q2 => And.intro (((h.2).2).2 q2).1 (And.intro (by decide) ((((h.2).2).2 q2).2))))))
-- X5_takes
set_option maxRecDepth 100000 in
theorem bk84_0 {G : nw_G} {Φ : Int → nw_S → Prop} {σ : nw_S} {x1 x2 : Int} (h : nw_TV G 78 [.inl 26, .inr x1] σ (fun u1 => (0 ≤ x2 ∧ x2 < 5) ∧ (Φ (u1 37 (x2.toNat)) u1))) : nw_V G 84 (nw_pi Φ) 0 [some (.inl 26), some (.inr x1), some (.inr x2)] [] σ := nw_run (cd := nw_cd84) rfl [] 8 (h)
-- X5_scoreNow
set_option maxRecDepth 100000 in
theorem bk85_0 {G : nw_G} {Φ : Int → nw_S → Prop} {σ : nw_S} {x1 x2 : Int} (h : nw_V G 85 (nw_pi Φ) 5 [some (.inl 26), some (.inr x1), some (.inr x2), some (.inr 0), some (.inr 0)] [] σ) : nw_V G 85 (nw_pi Φ) 0 [some (.inl 26), some (.inr x1), some (.inr x2), none, none] [] σ := nw_run (cd := nw_cd85) rfl [(5, 5)] 5 (h)
set_option maxRecDepth 100000 in
theorem bk85_5 {G : nw_G} {Φ : Int → nw_S → Prop} {σ : nw_S} {x1 x2 x3 x4 : Int} (h : (nw_r x4) ∧ ((nw_r (σ 26 0)) ∧ (((σ 26 0) ≤ x4 → nw_TI G 83 [.inl 26, .inr (nw_and x1 x2)] σ (fun v1 u1 => Φ (x3 - v1) u1)) ∧ (x4 < (σ 26 0) → (0 ≤ x4 ∧ x4 < 5) ∧ ((0 ≤ (((6 : Int) * x4) + (σ 37 (x4.toNat))) ∧ (((6 : Int) * x4) + (σ 37 (x4.toNat))) < 30) ∧ (nw_V G 85 (nw_pi Φ) 5 [some (.inl 26), some (.inr x1), some (.inr x2), some (.inr (x3 + (σ 28 ((((6 : Int) * x4) + (σ 37 (x4.toNat))).toNat)))), some (.inr (x4 + 1))] [] σ)))))) : nw_V G 85 (nw_pi Φ) 5 [some (.inl 26), some (.inr x1), some (.inr x2), some (.inr x3), some (.inr x4)] [] σ := nw_run (cd := nw_cd85) rfl [(5, 5)] 21 (h)
-- X5_scoreOf
set_option maxRecDepth 100000 in
theorem bk86_0 {G : nw_G} {Φ : Int → nw_S → Prop} {σ : nw_S} {x1 x2 : Int} (h : nw_TV G 78 [.inl 26, .inr x1] σ (fun u1 => (0 ≤ x1 ∧ x1 < 7776) ∧ (nw_TI G 85 [.inl 26, .inr (u1 35 (x1.toNat)), .inr x2] u1 (fun v2 u2 => Φ v2 u2)))) : nw_V G 86 (nw_pi Φ) 0 [some (.inl 26), some (.inr x1), some (.inr x2)] [] σ := nw_run (cd := nw_cd86) rfl [] 11 (h)
-- X5_first
set_option maxRecDepth 100000 in
theorem bk87_0 {G : nw_G} {Φ : Int → nw_S → Prop} {σ : nw_S} {x1 x2 x3 x4 x5 : Int} (h : nw_TV G 81 [.inl 26] σ (fun u1 => nw_TI G 77 [.inl 26] u1 (fun v2 u2 => nw_V G 87 (nw_pi Φ) 16 [some (.inl 26), some (.inr x1), some (.inr x2), some (.inr x3), some (.inr x4), some (.inr x5), some (.inr (-1)), some (.inr v2), some (.inr 0), none, none] [] u2))) : nw_V G 87 (nw_pi Φ) 0 [some (.inl 26), some (.inr x1), some (.inr x2), some (.inr x3), some (.inr x4), some (.inr x5), none, none, none, none, none] [] σ := nw_run (cd := nw_cd87) rfl [(16, 9)] 10 (h)
set_option maxRecDepth 100000 in
theorem bk87_16 {G : nw_G} {Φ : Int → nw_S → Prop} {σ : nw_S} {x1 x2 x3 x4 x5 x6 x7 x8 : Int} (h : (nw_r x8) ∧ ((nw_r x7) ∧ ((x7 ≤ x8 → Φ x6 σ) ∧ (x8 < x7 → (0 ≤ x8 ∧ x8 < 7776) ∧ ((nw_r (nw_and (σ 35 (x8.toNat)) x1)) ∧ (((nw_and (σ 35 (x8.toNat)) x1) ≠ 0 → nw_V G 87 (nw_pi Φ) 16 [some (.inl 26), some (.inr x1), some (.inr x2), some (.inr x3), some (.inr x4), some (.inr x5), some (.inr x6), some (.inr x7), some (.inr (x8 + 1)), none, none] [] σ) ∧ ((nw_and (σ 35 (x8.toNat)) x1) = 0 → (nw_r x5) ∧ ((x5 = 0 → nw_TI G 86 [.inl 26, .inr x8, .inr x2] σ (fun v1 u1 => (nw_r x6) ∧ ((x6 = (-1) → nw_V G 87 (nw_pi Φ) 16 [some (.inl 26), some (.inr x1), some (.inr x2), some (.inr x3), some (.inr x4), some (.inr x5), some (.inr x8), some (.inr x7), some (.inr (x8 + 1)), none, none] [] (nw_up u1 26 14 v1)) ∧ (x6 ≠ (-1) → (nw_r v1) ∧ ((nw_r (u1 26 14)) ∧ ((v1 ≤ (u1 26 14) → nw_V G 87 (nw_pi Φ) 16 [some (.inl 26), some (.inr x1), some (.inr x2), some (.inr x3), some (.inr x4), some (.inr x5), some (.inr x6), some (.inr x7), some (.inr (x8 + 1)), none, none] [] u1) ∧ ((u1 26 14) < v1 → nw_V G 87 (nw_pi Φ) 16 [some (.inl 26), some (.inr x1), some (.inr x2), some (.inr x3), some (.inr x4), some (.inr x5), some (.inr x8), some (.inr x7), some (.inr (x8 + 1)), none, none] [] (nw_up u1 26 14 v1)))))))) ∧ (x5 ≠ 0 → nw_TI G 84 [.inl 26, .inr x8, .inr x3] σ (fun v2 u2 => (nw_r v2) ∧ ((nw_r x4) ∧ ((v2 ≠ x4 → (x5 ≠ 1 → nw_TI G 86 [.inl 26, .inr x8, .inr x2] u2 (fun v3 u3 => (nw_r x6) ∧ ((x6 = (-1) → nw_V G 87 (nw_pi Φ) 16 [some (.inl 26), some (.inr x1), some (.inr x2), some (.inr x3), some (.inr x4), some (.inr x5), some (.inr x8), some (.inr x7), some (.inr (x8 + 1)), none, none] [] (nw_up u3 26 14 v3)) ∧ (x6 ≠ (-1) → (nw_r v3) ∧ ((nw_r (u3 26 14)) ∧ ((v3 ≤ (u3 26 14) → nw_V G 87 (nw_pi Φ) 16 [some (.inl 26), some (.inr x1), some (.inr x2), some (.inr x3), some (.inr x4), some (.inr x5), some (.inr x6), some (.inr x7), some (.inr (x8 + 1)), none, none] [] u3) ∧ ((u3 26 14) < v3 → nw_V G 87 (nw_pi Φ) 16 [some (.inl 26), some (.inr x1), some (.inr x2), some (.inr x3), some (.inr x4), some (.inr x5), some (.inr x8), some (.inr x7), some (.inr (x8 + 1)), none, none] [] (nw_up u3 26 14 v3)))))))) ∧ (x5 = 1 → nw_V G 87 (nw_pi Φ) 16 [some (.inl 26), some (.inr x1), some (.inr x2), some (.inr x3), some (.inr x4), some (.inr x5), some (.inr x6), some (.inr x7), some (.inr (x8 + 1)), none, none] [] u2)) ∧ (v2 = x4 → (x5 ≠ 1 → nw_V G 87 (nw_pi Φ) 16 [some (.inl 26), some (.inr x1), some (.inr x2), some (.inr x3), some (.inr x4), some (.inr x5), some (.inr x6), some (.inr x7), some (.inr (x8 + 1)), none, none] [] u2) ∧ (x5 = 1 → nw_TI G 86 [.inl 26, .inr x8, .inr x2] u2 (fun v4 u4 => (nw_r x6) ∧ ((x6 = (-1) → nw_V G 87 (nw_pi Φ) 16 [some (.inl 26), some (.inr x1), some (.inr x2), some (.inr x3), some (.inr x4), some (.inr x5), some (.inr x8), some (.inr x7), some (.inr (x8 + 1)), none, none] [] (nw_up u4 26 14 v4)) ∧ (x6 ≠ (-1) → (nw_r v4) ∧ ((nw_r (u4 26 14)) ∧ ((v4 ≤ (u4 26 14) → nw_V G 87 (nw_pi Φ) 16 [some (.inl 26), some (.inr x1), some (.inr x2), some (.inr x3), some (.inr x4), some (.inr x5), some (.inr x6), some (.inr x7), some (.inr (x8 + 1)), none, none] [] u4) ∧ ((u4 26 14) < v4 → nw_V G 87 (nw_pi Φ) 16 [some (.inl 26), some (.inr x1), some (.inr x2), some (.inr x3), some (.inr x4), some (.inr x5), some (.inr x8), some (.inr x7), some (.inr (x8 + 1)), none, none] [] (nw_up u4 26 14 v4))))))))))))))))))))) : nw_V G 87 (nw_pi Φ) 16 [some (.inl 26), some (.inr x1), some (.inr x2), some (.inr x3), some (.inr x4), some (.inr x5), some (.inr x6), some (.inr x7), some (.inr x8), none, none] [] σ := nw_run (cd := nw_cd87) rfl [(16, 9)] 51 (And.intro h.1 (And.intro (h.2).1 (And.intro (fun q12 => (((h.2).2).1 q12)) (fun q12 => And.intro (((h.2).2).2 q12).1 (And.intro ((((h.2).2).2 q12).2).1 (And.intro (fun q11 => And.intro (by decide) (And.intro (fun _ => ((((((h.2).2).2 q12).2).2).1 q11)) (fun q => absurd q (by decide)))) (fun q11 => And.intro ((((((h.2).2).2 q12).2).2).2 q11).1 (And.intro (fun q10 => And.intro (by decide) (And.intro (fun q => absurd q (by decide)) (fun _ => nw_TI.mono ((((((((h.2).2).2 q12).2).2).2 q11).2).1 q10) (fun _ _ q_1 => And.intro q_1.1 (And.intro (by decide) (q_1.2)))))) (fun q10 => nw_TI.mono ((((((((h.2).2).2 q12).2).2).2 q11).2).2 q10) (fun _ _ q_2 => And.intro q_2.1 (And.intro (q_2.2).1 (And.intro (fun q9 => And.intro ((((((h.2).2).2 q12).2).2).2 q11).1 (And.intro (by decide) (And.intro (fun q5 => And.intro (by decide) (And.intro (by decide) (And.intro (fun q => absurd q (by decide)) (fun _ => And.intro (by decide) (And.intro (fun q => absurd q (by decide)) (fun _ => nw_TI.mono ((((q_2.2).2).1 q9).1 q5) (fun _ _ q_3 => And.intro q_3.1 (And.intro (by decide) (q_3.2))))))))) (fun q5 => And.intro (by decide) (And.intro (by decide) (And.intro (fun _ => And.intro (by decide) (And.intro (fun _ => ((((q_2.2).2).1 q9).2 q5)) (fun q => absurd q (by decide)))) (fun q => absurd q (by decide)))))))) (fun q9 => And.intro ((((((h.2).2).2 q12).2).2).2 q11).1 (And.intro (by decide) (And.intro (fun q8 => And.intro (by decide) (And.intro (by decide) (And.intro (fun _ => And.intro (by decide) (And.intro (fun _ => ((((q_2.2).2).2 q9).1 q8)) (fun q => absurd q (by decide)))) (fun q => absurd q (by decide))))) (fun q8 => And.intro (by decide) (And.intro (by decide) (And.intro (fun q => absurd q (by decide)) (fun _ => And.intro (by decide) (And.intro (fun q => absurd q (by decide)) (fun _ => nw_TI.mono ((((q_2.2).2).2 q9).2 q8) (fun _ _ q_4 => And.intro q_4.1 (And.intro (by decide) (q_4.2))))))))))))))))))))))))
-- X5_firstBest
set_option maxRecDepth 100000 in
theorem bk88_0 {G : nw_G} {Φ : Int → nw_S → Prop} {σ : nw_S} (h : nw_TI G 82 [.inl 26, .inr 1] σ (fun v1 u1 => nw_TI G 82 [.inl 26, .inr 2] u1 (fun v2 u2 => nw_TI G 87 [.inl 26, .inr v1, .inr v2, .inr 0, .inr 0, .inr 0] u2 (fun v3 u3 => Φ v3 u3)))) : nw_V G 88 (nw_pi Φ) 0 [some (.inl 26)] [] σ := nw_run (cd := nw_cd88) rfl [] 12 (h)
-- X5_findCan
set_option maxRecDepth 100000 in
theorem bk89_0 {G : nw_G} {Φ : nw_S → Prop} {σ : nw_S} (h : nw_TV G 81 [.inl 26] σ (fun u1 => nw_TI G 82 [.inl 26, .inr 1] u1 (fun v2 u2 => nw_V G 89 (nw_pv Φ) 12 [some (.inl 26), some (.inr v2), some (.inr 0), none, none] [] u2))) : nw_V G 89 (nw_pv Φ) 0 [some (.inl 26), none, none, none, none] [] σ := nw_run (cd := nw_cd89) rfl [(12, 3), (39, 4), (70, 4), (77, 5)] 9 (h)
set_option maxRecDepth 100000 in
theorem bk89_12 {G : nw_G} {Φ : nw_S → Prop} {σ : nw_S} {x1 x2 : Int} (h : (nw_r x2) ∧ (((4096 : Int) ≤ x2 → nw_TI G 77 [.inl 26] σ (fun v1 u1 => nw_V G 89 (nw_pv Φ) 39 [some (.inl 26), some (.inr x1), some (.inr v1), some (.inr 0), none] [] u1)) ∧ (x2 < 4096 → (0 ≤ x2 ∧ x2 < 4096) ∧ (nw_V G 89 (nw_pv Φ) 12 [some (.inl 26), some (.inr x1), some (.inr (x2 + 1)), none, none] [] (nw_up σ 36 (x2.toNat) 0))))) : nw_V G 89 (nw_pv Φ) 12 [some (.inl 26), some (.inr x1), some (.inr x2), none, none] [] σ := nw_run (cd := nw_cd89) rfl [(12, 3), (39, 4), (70, 4), (77, 5)] 11 (And.intro h.1 (And.intro (by decide) (And.intro (fun q1 => ((h.2).1 q1)) (fun q1 => And.intro ((h.2).2 q1).1 (And.intro (by decide) (((h.2).2 q1).2))))))
set_option maxRecDepth 100000 in
theorem bk89_39 {G : nw_G} {Φ : nw_S → Prop} {σ : nw_S} {x1 x2 x3 : Int} (h : (nw_r x3) ∧ ((nw_r x2) ∧ ((x2 ≤ x3 → nw_V G 89 (nw_pv Φ) 70 [some (.inl 26), some (.inr x1), some (.inr x2), some (.inr 4095), none] [] σ) ∧ (x3 < x2 → (0 ≤ x3 ∧ x3 < 7776) ∧ ((0 ≤ (nw_and x1 (nw_xor (σ 35 (x3.toNat)) (-1))) ∧ (nw_and x1 (nw_xor (σ 35 (x3.toNat)) (-1))) < 4096) ∧ (nw_V G 89 (nw_pv Φ) 39 [some (.inl 26), some (.inr x1), some (.inr x2), some (.inr (x3 + 1)), none] [] (nw_up σ 36 ((nw_and x1 (nw_xor (σ 35 (x3.toNat)) (-1))).toNat) 1))))))) : nw_V G 89 (nw_pv Φ) 39 [some (.inl 26), some (.inr x1), some (.inr x2), some (.inr x3), none] [] σ := nw_run (cd := nw_cd89) rfl [(12, 3), (39, 4), (70, 4), (77, 5)] 18 (And.intro h.1 (And.intro (h.2).1 (And.intro (fun q1 => (((h.2).2).1 q1)) (fun q1 => And.intro (((h.2).2).2 q1).1 (And.intro ((((h.2).2).2 q1).2).1 (And.intro (by decide) (((((h.2).2).2 q1).2).2)))))))
set_option maxRecDepth 100000 in
theorem bk89_70 {G : nw_G} {Φ : nw_S → Prop} {σ : nw_S} {x1 x2 x3 : Int} (h : (nw_r x3) ∧ ((x3 < 0 → Φ σ) ∧ ((0 : Int) ≤ x3 → nw_V G 89 (nw_pv Φ) 77 [some (.inl 26), some (.inr x1), some (.inr x2), some (.inr x3), some (.inr 0)] [] σ))) : nw_V G 89 (nw_pv Φ) 70 [some (.inl 26), some (.inr x1), some (.inr x2), some (.inr x3), none] [] σ := nw_run (cd := nw_cd89) rfl [(12, 3), (39, 4), (70, 4), (77, 5)] 5 (h)
set_option maxRecDepth 100000 in
theorem bk89_77 {G : nw_G} {Φ : nw_S → Prop} {σ : nw_S} {x1 x2 x3 x4 : Int} (h : (nw_r x4) ∧ (((12 : Int) ≤ x4 → nw_V G 89 (nw_pv Φ) 70 [some (.inl 26), some (.inr x1), some (.inr x2), some (.inr (x3 + (-1))), none] [] σ) ∧ (x4 < 12 → (0 ≤ x3 ∧ x3 < 4096) ∧ ((nw_r (σ 36 (x3.toNat))) ∧ (((σ 36 (x3.toNat)) = 0 → nw_V G 89 (nw_pv Φ) 70 [some (.inl 26), some (.inr x1), some (.inr x2), some (.inr (x3 + (-1))), none] [] σ) ∧ ((σ 36 (x3.toNat)) ≠ 0 → (0 ≤ (nw_and x3 (nw_xor (nw_shl 1 x4) (-1))) ∧ (nw_and x3 (nw_xor (nw_shl 1 x4) (-1))) < 4096) ∧ (nw_V G 89 (nw_pv Φ) 77 [some (.inl 26), some (.inr x1), some (.inr x2), some (.inr x3), some (.inr (x4 + 1))] [] (nw_up σ 36 ((nw_and x3 (nw_xor (nw_shl 1 x4) (-1))).toNat) 1)))))))) : nw_V G 89 (nw_pv Φ) 77 [some (.inl 26), some (.inr x1), some (.inr x2), some (.inr x3), some (.inr x4)] [] σ := nw_run (cd := nw_cd89) rfl [(12, 3), (39, 4), (70, 4), (77, 5)] 22 (And.intro h.1 (And.intro (by decide) (And.intro (fun q2 => ((h.2).1 q2)) (fun q2 => And.intro ((h.2).2 q2).1 (And.intro (((h.2).2 q2).2).1 (And.intro (fun q1 => (((((h.2).2 q2).2).2).1 q1)) (fun q1 => And.intro (((((h.2).2 q2).2).2).2 q1).1 (And.intro (by decide) ((((((h.2).2 q2).2).2).2 q1).2)))))))))
-- X5_isClash
set_option maxRecDepth 100000 in
theorem bk90_0 {G : nw_G} {Φ : Int → nw_S → Prop} {σ : nw_S} {x1 x2 : Int} (h : (nw_r (nw_and x1 (nw_xor x2 (-1)))) ∧ (((nw_and x1 (nw_xor x2 (-1))) ≠ 0 → nw_V G 90 (nw_pi Φ) 26 [some (.inl 26), some (.inr x1), some (.inr x2), some (.inr 0), some (.inr 0)] [] σ) ∧ ((nw_and x1 (nw_xor x2 (-1))) = 0 → (0 ≤ x1 ∧ x1 < 4096) ∧ ((nw_r (σ 36 (x1.toNat))) ∧ (((σ 36 (x1.toNat)) ≠ 0 → nw_V G 90 (nw_pi Φ) 26 [some (.inl 26), some (.inr x1), some (.inr x2), some (.inr 0), some (.inr 0)] [] σ) ∧ ((σ 36 (x1.toNat)) = 0 → nw_V G 90 (nw_pi Φ) 26 [some (.inl 26), some (.inr x1), some (.inr x2), some (.inr 1), some (.inr 0)] [] σ)))))) : nw_V G 90 (nw_pi Φ) 0 [some (.inl 26), some (.inr x1), some (.inr x2), none, none] [] σ := nw_run (cd := nw_cd90) rfl [(26, 5)] 17 (h)
set_option maxRecDepth 100000 in
theorem bk90_26 {G : nw_G} {Φ : Int → nw_S → Prop} {σ : nw_S} {x1 x2 x3 x4 : Int} (h : (nw_r x4) ∧ (((12 : Int) ≤ x4 → (x3 = 0 ∨ x3 = 1) ∧ (Φ x3 σ)) ∧ (x4 < 12 → (nw_r x3) ∧ ((x3 = 0 → (x3 = 0 ∨ x3 = 1) ∧ (Φ x3 σ)) ∧ (x3 ≠ 0 → (nw_r (nw_and (nw_shr x1 x4) 1)) ∧ (((nw_and (nw_shr x1 x4) 1) = 0 → nw_V G 90 (nw_pi Φ) 26 [some (.inl 26), some (.inr x1), some (.inr x2), some (.inr 1), some (.inr (x4 + 1))] [] σ) ∧ ((nw_and (nw_shr x1 x4) 1) ≠ 0 → (0 ≤ (nw_xor x1 (nw_shl 1 x4)) ∧ (nw_xor x1 (nw_shl 1 x4)) < 4096) ∧ ((nw_r (σ 36 ((nw_xor x1 (nw_shl 1 x4)).toNat))) ∧ (((σ 36 ((nw_xor x1 (nw_shl 1 x4)).toNat)) = 0 → nw_V G 90 (nw_pi Φ) 26 [some (.inl 26), some (.inr x1), some (.inr x2), some (.inr 0), some (.inr (x4 + 1))] [] σ) ∧ ((σ 36 ((nw_xor x1 (nw_shl 1 x4)).toNat)) ≠ 0 → nw_V G 90 (nw_pi Φ) 26 [some (.inl 26), some (.inr x1), some (.inr x2), some (.inr 1), some (.inr (x4 + 1))] [] σ)))))))))) : nw_V G 90 (nw_pi Φ) 26 [some (.inl 26), some (.inr x1), some (.inr x2), some (.inr x3), some (.inr x4)] [] σ := nw_run (cd := nw_cd90) rfl [(26, 5)] 26 (And.intro h.1 (And.intro (by decide) (h.2)))
-- X5_isRelaxation
set_option maxRecDepth 100000 in
theorem bk91_0 {G : nw_G} {Φ : Int → nw_S → Prop} {σ : nw_S} {x1 x2 : Int} (h : (nw_r (nw_and x1 (nw_xor x2 (-1)))) ∧ (((nw_and x1 (nw_xor x2 (-1))) ≠ 0 → nw_V G 91 (nw_pi Φ) 30 [some (.inl 26), some (.inr x1), some (.inr x2), some (.inr 0), some (.inr 0)] [] σ) ∧ ((nw_and x1 (nw_xor x2 (-1))) = 0 → (0 ≤ (nw_and x2 (nw_xor x1 (-1))) ∧ (nw_and x2 (nw_xor x1 (-1))) < 4096) ∧ ((nw_r (σ 36 ((nw_and x2 (nw_xor x1 (-1))).toNat))) ∧ (((σ 36 ((nw_and x2 (nw_xor x1 (-1))).toNat)) = 0 → nw_V G 91 (nw_pi Φ) 30 [some (.inl 26), some (.inr x1), some (.inr x2), some (.inr 0), some (.inr 0)] [] σ) ∧ ((σ 36 ((nw_and x2 (nw_xor x1 (-1))).toNat)) ≠ 0 → nw_V G 91 (nw_pi Φ) 30 [some (.inl 26), some (.inr x1), some (.inr x2), some (.inr 1), some (.inr 0)] [] σ)))))) : nw_V G 91 (nw_pi Φ) 0 [some (.inl 26), some (.inr x1), some (.inr x2), none, none] [] σ := nw_run (cd := nw_cd91) rfl [(30, 5)] 21 (h)
set_option maxRecDepth 100000 in
theorem bk91_30 {G : nw_G} {Φ : Int → nw_S → Prop} {σ : nw_S} {x1 x2 x3 x4 : Int} (h : (nw_r x4) ∧ (((12 : Int) ≤ x4 → (x3 = 0 ∨ x3 = 1) ∧ (Φ x3 σ)) ∧ (x4 < 12 → (nw_r x3) ∧ ((x3 = 0 → (x3 = 0 ∨ x3 = 1) ∧ (Φ x3 σ)) ∧ (x3 ≠ 0 → (nw_r (nw_and (nw_shr x1 x4) 1)) ∧ (((nw_and (nw_shr x1 x4) 1) = 0 → nw_V G 91 (nw_pi Φ) 30 [some (.inl 26), some (.inr x1), some (.inr x2), some (.inr 1), some (.inr (x4 + 1))] [] σ) ∧ ((nw_and (nw_shr x1 x4) 1) ≠ 0 → (0 ≤ (nw_or (nw_and x2 (nw_xor x1 (-1))) (nw_shl 1 x4)) ∧ (nw_or (nw_and x2 (nw_xor x1 (-1))) (nw_shl 1 x4)) < 4096) ∧ ((nw_r (σ 36 ((nw_or (nw_and x2 (nw_xor x1 (-1))) (nw_shl 1 x4)).toNat))) ∧ (((σ 36 ((nw_or (nw_and x2 (nw_xor x1 (-1))) (nw_shl 1 x4)).toNat)) ≠ 0 → nw_V G 91 (nw_pi Φ) 30 [some (.inl 26), some (.inr x1), some (.inr x2), some (.inr 0), some (.inr (x4 + 1))] [] σ) ∧ ((σ 36 ((nw_or (nw_and x2 (nw_xor x1 (-1))) (nw_shl 1 x4)).toNat)) = 0 → nw_V G 91 (nw_pi Φ) 30 [some (.inl 26), some (.inr x1), some (.inr x2), some (.inr 1), some (.inr (x4 + 1))] [] σ)))))))))) : nw_V G 91 (nw_pi Φ) 30 [some (.inl 26), some (.inr x1), some (.inr x2), some (.inr x3), some (.inr x4)] [] σ := nw_run (cd := nw_cd91) rfl [(30, 5)] 30 (And.intro h.1 (And.intro (by decide) (h.2)))
-- X5_sizeOf
set_option maxRecDepth 100000 in
theorem bk92_0 {G : nw_G} {Φ : Int → nw_S → Prop} {σ : nw_S} {x0 : Int} (h : nw_V G 92 (nw_pi Φ) 4 [some (.inr x0), some (.inr 0), some (.inr 0)] [] σ) : nw_V G 92 (nw_pi Φ) 0 [some (.inr x0), none, none] [] σ := nw_run (cd := nw_cd92) rfl [(4, 3)] 5 (h)
set_option maxRecDepth 100000 in
theorem bk92_4 {G : nw_G} {Φ : Int → nw_S → Prop} {σ : nw_S} {x0 x1 x2 : Int} (h : (nw_r x2) ∧ (((12 : Int) ≤ x2 → Φ x1 σ) ∧ (x2 < 12 → nw_V G 92 (nw_pi Φ) 4 [some (.inr x0), some (.inr (x1 + (nw_and (nw_shr x0 x2) 1))), some (.inr (x2 + 1))] [] σ))) : nw_V G 92 (nw_pi Φ) 4 [some (.inr x0), some (.inr x1), some (.inr x2)] [] σ := nw_run (cd := nw_cd92) rfl [(4, 3)] 14 (And.intro h.1 (And.intro (by decide) (h.2)))
-- X5_rankOf
set_option maxRecDepth 100000 in
theorem bk93_0 {G : nw_G} {Φ : Int → nw_S → Prop} {σ : nw_S} {x1 x2 : Int} (h : (nw_r x2) ∧ ((x2 = 0 → nw_TI G 83 [.inl 26, .inr x1] σ (fun v1 u1 => Φ v1 u1)) ∧ (x2 ≠ 0 → nw_TI G 92 [.inr x1] σ (fun v2 u2 => Φ v2 u2)))) : nw_V G 93 (nw_pi Φ) 0 [some (.inl 26), some (.inr x1), some (.inr x2)] [] σ := nw_run (cd := nw_cd93) rfl [] 6 (h)
-- X5_manySets
set_option maxRecDepth 100000 in
theorem bk94_0 {G : nw_G} {Φ : Int → nw_S → Prop} {σ : nw_S} {x1 : Int} (h : nw_TV G 89 [.inl 26] σ (fun u1 => nw_TI G 82 [.inl 26, .inr 1] u1 (fun v2 u2 => nw_V G 94 (nw_pi Φ) 15 [some (.inl 26), some (.inr x1), some (.inr v2), some (.inr 0), some (.inr 0)] [] u2))) : nw_V G 94 (nw_pi Φ) 0 [some (.inl 26), some (.inr x1), none, none, none] [] σ := nw_run (cd := nw_cd94) rfl [(15, 5)] 11 (h)
set_option maxRecDepth 100000 in
theorem bk94_15 {G : nw_G} {Φ : Int → nw_S → Prop} {σ : nw_S} {x1 x2 x3 x4 : Int} (h : (nw_r x4) ∧ (((4096 : Int) ≤ x4 → Φ x3 σ) ∧ (x4 < 4096 → (nw_r x1) ∧ ((x1 = 0 → nw_TI G 91 [.inl 26, .inr x4, .inr x2] σ (fun v1 u1 => (nw_r v1) ∧ ((v1 = 0 → nw_V G 94 (nw_pi Φ) 15 [some (.inl 26), some (.inr x1), some (.inr x2), some (.inr (x3 + 0)), some (.inr (x4 + 1))] [] u1) ∧ (v1 ≠ 0 → nw_V G 94 (nw_pi Φ) 15 [some (.inl 26), some (.inr x1), some (.inr x2), some (.inr (x3 + 1)), some (.inr (x4 + 1))] [] u1)))) ∧ (x1 ≠ 0 → nw_TI G 90 [.inl 26, .inr x4, .inr x2] σ (fun v2 u2 => (nw_r v2) ∧ ((v2 = 0 → nw_V G 94 (nw_pi Φ) 15 [some (.inl 26), some (.inr x1), some (.inr x2), some (.inr (x3 + 0)), some (.inr (x4 + 1))] [] u2) ∧ (v2 ≠ 0 → nw_V G 94 (nw_pi Φ) 15 [some (.inl 26), some (.inr x1), some (.inr x2), some (.inr (x3 + 1)), some (.inr (x4 + 1))] [] u2)))))))) : nw_V G 94 (nw_pi Φ) 15 [some (.inl 26), some (.inr x1), some (.inr x2), some (.inr x3), some (.inr x4)] [] σ := nw_run (cd := nw_cd94) rfl [(15, 5)] 19 (And.intro h.1 (And.intro (by decide) (h.2)))
-- X5_setAt
set_option maxRecDepth 100000 in
theorem bk95_0 {G : nw_G} {Φ : Int → nw_S → Prop} {σ : nw_S} {x1 x2 : Int} (h : (nw_r x1) ∧ (((0 : Int) ≤ x1 → nw_TV G 89 [.inl 26] σ (fun u1 => nw_TI G 82 [.inl 26, .inr 1] u1 (fun v2 u2 => nw_V G 95 (nw_pi Φ) 23 [some (.inl 26), some (.inr x1), some (.inr x2), some (.inr v2), some (.inr (-1)), some (.inr 0), none, none, none, none] [] u2))) ∧ (x1 < 0 → Φ (-1000004) σ))) : nw_V G 95 (nw_pi Φ) 0 [some (.inl 26), some (.inr x1), some (.inr x2), none, none, none, none, none, none, none] [] σ := nw_run (cd := nw_cd95) rfl [(23, 6), (35, 8)] 13 (h)
set_option maxRecDepth 100000 in
theorem bk95_23 {G : nw_G} {Φ : Int → nw_S → Prop} {σ : nw_S} {x1 x2 x3 x4 x5 : Int} (h : (nw_r x5) ∧ ((nw_r x1) ∧ ((x1 < x5 → Φ x4 σ) ∧ (x5 ≤ x1 → nw_V G 95 (nw_pi Φ) 35 [some (.inl 26), some (.inr x1), some (.inr x2), some (.inr x3), some (.inr x4), some (.inr x5), some (.inr (-1)), some (.inr 0), none, none] [] σ)))) : nw_V G 95 (nw_pi Φ) 23 [some (.inl 26), some (.inr x1), some (.inr x2), some (.inr x3), some (.inr x4), some (.inr x5), none, none, none, none] [] σ := nw_run (cd := nw_cd95) rfl [(23, 6), (35, 8)] 8 (h)
set_option maxRecDepth 100000 in
theorem bk95_35 {G : nw_G} {Φ : Int → nw_S → Prop} {σ : nw_S} {x1 x2 x3 x4 x5 x6 x7 : Int} (h : (nw_r x7) ∧ (((4096 : Int) ≤ x7 → (nw_r x6) ∧ ((x6 ≠ (-1) → nw_V G 95 (nw_pi Φ) 23 [some (.inl 26), some (.inr x1), some (.inr x2), some (.inr x3), some (.inr x6), some (.inr (x5 + 1)), none, none, none, none] [] σ) ∧ (x6 = (-1) → Φ (-1000004) σ))) ∧ (x7 < 4096 → (nw_r x2) ∧ ((x2 = 0 → nw_TI G 91 [.inl 26, .inr x7, .inr x3] σ (fun v1 u1 => (nw_r v1) ∧ ((v1 = 0 → nw_V G 95 (nw_pi Φ) 35 [some (.inl 26), some (.inr x1), some (.inr x2), some (.inr x3), some (.inr x4), some (.inr x5), some (.inr x6), some (.inr (x7 + 1)), none, none] [] u1) ∧ (v1 ≠ 0 → nw_TI G 93 [.inl 26, .inr x7, .inr x2] u1 (fun v2 u2 => (nw_r x4) ∧ ((x4 = (-1) → (nw_r x6) ∧ ((x6 = (-1) → nw_V G 95 (nw_pi Φ) 35 [some (.inl 26), some (.inr x1), some (.inr x2), some (.inr x3), some (.inr x4), some (.inr x5), some (.inr x7), some (.inr (x7 + 1)), none, none] [] u2) ∧ (x6 ≠ (-1) → nw_TI G 93 [.inl 26, .inr x6, .inr x2] u2 (fun v3 u3 => (nw_r v2) ∧ ((nw_r v3) ∧ ((v3 ≤ v2 → nw_V G 95 (nw_pi Φ) 35 [some (.inl 26), some (.inr x1), some (.inr x2), some (.inr x3), some (.inr x4), some (.inr x5), some (.inr x6), some (.inr (x7 + 1)), none, none] [] u3) ∧ (v2 < v3 → nw_V G 95 (nw_pi Φ) 35 [some (.inl 26), some (.inr x1), some (.inr x2), some (.inr x3), some (.inr x4), some (.inr x5), some (.inr x7), some (.inr (x7 + 1)), none, none] [] u3))))))) ∧ (x4 ≠ (-1) → nw_TI G 93 [.inl 26, .inr x4, .inr x2] u2 (fun v4 u4 => (nw_r v2) ∧ ((nw_r v4) ∧ ((v4 < v2 → (nw_r x6) ∧ ((x6 = (-1) → nw_V G 95 (nw_pi Φ) 35 [some (.inl 26), some (.inr x1), some (.inr x2), some (.inr x3), some (.inr x4), some (.inr x5), some (.inr x7), some (.inr (x7 + 1)), none, none] [] u4) ∧ (x6 ≠ (-1) → nw_TI G 93 [.inl 26, .inr x6, .inr x2] u4 (fun v5 u5 => (nw_r v5) ∧ ((v5 ≤ v2 → nw_V G 95 (nw_pi Φ) 35 [some (.inl 26), some (.inr x1), some (.inr x2), some (.inr x3), some (.inr x4), some (.inr x5), some (.inr x6), some (.inr (x7 + 1)), none, none] [] u5) ∧ (v2 < v5 → nw_V G 95 (nw_pi Φ) 35 [some (.inl 26), some (.inr x1), some (.inr x2), some (.inr x3), some (.inr x4), some (.inr x5), some (.inr x7), some (.inr (x7 + 1)), none, none] [] u5)))))) ∧ (v2 ≤ v4 → nw_TI G 93 [.inl 26, .inr x4, .inr x2] u4 (fun v6 u6 => (nw_r v6) ∧ ((v2 ≠ v6 → nw_V G 95 (nw_pi Φ) 35 [some (.inl 26), some (.inr x1), some (.inr x2), some (.inr x3), some (.inr x4), some (.inr x5), some (.inr x6), some (.inr (x7 + 1)), none, none] [] u6) ∧ (v2 = v6 → (x7 ≤ x4 → nw_V G 95 (nw_pi Φ) 35 [some (.inl 26), some (.inr x1), some (.inr x2), some (.inr x3), some (.inr x4), some (.inr x5), some (.inr x6), some (.inr (x7 + 1)), none, none] [] u6) ∧ (x4 < x7 → (nw_r x6) ∧ ((x6 = (-1) → nw_V G 95 (nw_pi Φ) 35 [some (.inl 26), some (.inr x1), some (.inr x2), some (.inr x3), some (.inr x4), some (.inr x5), some (.inr x7), some (.inr (x7 + 1)), none, none] [] u6) ∧ (x6 ≠ (-1) → nw_TI G 93 [.inl 26, .inr x6, .inr x2] u6 (fun v7 u7 => (nw_r v7) ∧ ((v7 ≤ v2 → nw_V G 95 (nw_pi Φ) 35 [some (.inl 26), some (.inr x1), some (.inr x2), some (.inr x3), some (.inr x4), some (.inr x5), some (.inr x6), some (.inr (x7 + 1)), none, none] [] u7) ∧ (v2 < v7 → nw_V G 95 (nw_pi Φ) 35 [some (.inl 26), some (.inr x1), some (.inr x2), some (.inr x3), some (.inr x4), some (.inr x5), some (.inr x7), some (.inr (x7 + 1)), none, none] [] u7)))))))))))))))))))) ∧ (x2 ≠ 0 → nw_TI G 90 [.inl 26, .inr x7, .inr x3] σ (fun v8 u8 => (nw_r v8) ∧ ((v8 = 0 → nw_V G 95 (nw_pi Φ) 35 [some (.inl 26), some (.inr x1), some (.inr x2), some (.inr x3), some (.inr x4), some (.inr x5), some (.inr x6), some (.inr (x7 + 1)), none, none] [] u8) ∧ (v8 ≠ 0 → nw_TI G 93 [.inl 26, .inr x7, .inr x2] u8 (fun v9 u9 => (nw_r x4) ∧ ((x4 = (-1) → (nw_r x6) ∧ ((x6 = (-1) → nw_V G 95 (nw_pi Φ) 35 [some (.inl 26), some (.inr x1), some (.inr x2), some (.inr x3), some (.inr x4), some (.inr x5), some (.inr x7), some (.inr (x7 + 1)), none, none] [] u9) ∧ (x6 ≠ (-1) → nw_TI G 93 [.inl 26, .inr x6, .inr x2] u9 (fun v10 u10 => (nw_r v9) ∧ ((nw_r v10) ∧ ((v10 ≤ v9 → nw_V G 95 (nw_pi Φ) 35 [some (.inl 26), some (.inr x1), some (.inr x2), some (.inr x3), some (.inr x4), some (.inr x5), some (.inr x6), some (.inr (x7 + 1)), none, none] [] u10) ∧ (v9 < v10 → nw_V G 95 (nw_pi Φ) 35 [some (.inl 26), some (.inr x1), some (.inr x2), some (.inr x3), some (.inr x4), some (.inr x5), some (.inr x7), some (.inr (x7 + 1)), none, none] [] u10))))))) ∧ (x4 ≠ (-1) → nw_TI G 93 [.inl 26, .inr x4, .inr x2] u9 (fun v11 u11 => (nw_r v9) ∧ ((nw_r v11) ∧ ((v11 < v9 → (nw_r x6) ∧ ((x6 = (-1) → nw_V G 95 (nw_pi Φ) 35 [some (.inl 26), some (.inr x1), some (.inr x2), some (.inr x3), some (.inr x4), some (.inr x5), some (.inr x7), some (.inr (x7 + 1)), none, none] [] u11) ∧ (x6 ≠ (-1) → nw_TI G 93 [.inl 26, .inr x6, .inr x2] u11 (fun v12 u12 => (nw_r v12) ∧ ((v12 ≤ v9 → nw_V G 95 (nw_pi Φ) 35 [some (.inl 26), some (.inr x1), some (.inr x2), some (.inr x3), some (.inr x4), some (.inr x5), some (.inr x6), some (.inr (x7 + 1)), none, none] [] u12) ∧ (v9 < v12 → nw_V G 95 (nw_pi Φ) 35 [some (.inl 26), some (.inr x1), some (.inr x2), some (.inr x3), some (.inr x4), some (.inr x5), some (.inr x7), some (.inr (x7 + 1)), none, none] [] u12)))))) ∧ (v9 ≤ v11 → nw_TI G 93 [.inl 26, .inr x4, .inr x2] u11 (fun v13 u13 => (nw_r v13) ∧ ((v9 ≠ v13 → nw_V G 95 (nw_pi Φ) 35 [some (.inl 26), some (.inr x1), some (.inr x2), some (.inr x3), some (.inr x4), some (.inr x5), some (.inr x6), some (.inr (x7 + 1)), none, none] [] u13) ∧ (v9 = v13 → (x7 ≤ x4 → nw_V G 95 (nw_pi Φ) 35 [some (.inl 26), some (.inr x1), some (.inr x2), some (.inr x3), some (.inr x4), some (.inr x5), some (.inr x6), some (.inr (x7 + 1)), none, none] [] u13) ∧ (x4 < x7 → (nw_r x6) ∧ ((x6 = (-1) → nw_V G 95 (nw_pi Φ) 35 [some (.inl 26), some (.inr x1), some (.inr x2), some (.inr x3), some (.inr x4), some (.inr x5), some (.inr x7), some (.inr (x7 + 1)), none, none] [] u13) ∧ (x6 ≠ (-1) → nw_TI G 93 [.inl 26, .inr x6, .inr x2] u13 (fun v14 u14 => (nw_r v14) ∧ ((v14 ≤ v9 → nw_V G 95 (nw_pi Φ) 35 [some (.inl 26), some (.inr x1), some (.inr x2), some (.inr x3), some (.inr x4), some (.inr x5), some (.inr x6), some (.inr (x7 + 1)), none, none] [] u14) ∧ (v9 < v14 → nw_V G 95 (nw_pi Φ) 35 [some (.inl 26), some (.inr x1), some (.inr x2), some (.inr x3), some (.inr x4), some (.inr x5), some (.inr x7), some (.inr (x7 + 1)), none, none] [] u14)))))))))))))))))))))))) : nw_V G 95 (nw_pi Φ) 35 [some (.inl 26), some (.inr x1), some (.inr x2), some (.inr x3), some (.inr x4), some (.inr x5), some (.inr x6), some (.inr x7), none, none] [] σ := nw_run (cd := nw_cd95) rfl [(23, 6), (35, 8)] 54 (And.intro h.1 (And.intro (by decide) (And.intro (fun q25 => And.intro ((h.2).1 q25).1 (And.intro (by decide) (((h.2).1 q25).2))) (fun q25 => And.intro ((h.2).2 q25).1 (And.intro (fun q24 => nw_TI.mono ((((h.2).2 q25).2).1 q24) (fun _ _ q_1 => And.intro q_1.1 (And.intro (fun q12 => ((q_1.2).1 q12)) (fun q12 => nw_TI.mono ((q_1.2).2 q12) (fun _ _ q_2 => And.intro q_2.1 (And.intro (by decide) (And.intro (fun q11 => And.intro (by decide) (And.intro (fun q => absurd q (by decide)) (fun _ => And.intro ((q_2.2).1 q11).1 (And.intro (by decide) (((q_2.2).1 q11).2))))) (fun q11 => nw_TI.mono ((q_2.2).2 q11) (fun _ _ q_4 => And.intro q_4.1 (And.intro (q_4.2).1 (And.intro (fun q10 => And.intro (by decide) (And.intro (fun q => absurd q (by decide)) (fun _ => And.intro (((q_4.2).2).1 q10).1 (And.intro (by decide) (And.intro (fun q5 => (((((q_4.2).2).1 q10).2).1 q5)) (fun q5 => nw_TI.mono (((((q_4.2).2).1 q10).2).2 q5) (fun _ _ q_5 => And.intro q_4.1 (q_5)))))))) (fun q10 => nw_TI.mono (((q_4.2).2).2 q10) (fun _ _ q_6 => And.intro q_4.1 (And.intro q_6.1 (And.intro (fun q9 => And.intro (by decide) (And.intro (fun _ => ((q_6.2).1 q9)) (fun q => absurd q (by decide)))) (fun q9 => And.intro h.1 (And.intro q_2.1 (And.intro (fun q8 => And.intro (by decide) (And.intro (fun _ => (((q_6.2).2 q9).1 q8)) (fun q => absurd q (by decide)))) (fun q8 => And.intro (by decide) (And.intro (fun q => absurd q (by decide)) (fun _ => And.intro (((q_6.2).2 q9).2 q8).1 (And.intro (by decide) (And.intro (fun q7 => (((((q_6.2).2 q9).2 q8).2).1 q7)) (fun q7 => nw_TI.mono (((((q_6.2).2 q9).2 q8).2).2 q7) (fun _ _ q_7 => And.intro q_4.1 (q_7)))))))))))))))))))))))))) (fun q24 => nw_TI.mono ((((h.2).2 q25).2).2 q24) (fun _ _ q_8 => And.intro q_8.1 (And.intro (fun q23 => ((q_8.2).1 q23)) (fun q23 => nw_TI.mono ((q_8.2).2 q23) (fun _ _ q_9 => And.intro q_9.1 (And.intro (by decide) (And.intro (fun q22 => And.intro (by decide) (And.intro (fun q => absurd q (by decide)) (fun _ => And.intro ((q_9.2).1 q22).1 (And.intro (by decide) (((q_9.2).1 q22).2))))) (fun q22 => nw_TI.mono ((q_9.2).2 q22) (fun _ _ q_11 => And.intro q_11.1 (And.intro (q_11.2).1 (And.intro (fun q21 => And.intro (by decide) (And.intro (fun q => absurd q (by decide)) (fun _ => And.intro (((q_11.2).2).1 q21).1 (And.intro (by decide) (And.intro (fun q16 => (((((q_11.2).2).1 q21).2).1 q16)) (fun q16 => nw_TI.mono (((((q_11.2).2).1 q21).2).2 q16) (fun _ _ q_12 => And.intro q_11.1 (q_12)))))))) (fun q21 => nw_TI.mono (((q_11.2).2).2 q21) (fun _ _ q_13 => And.intro q_11.1 (And.intro q_13.1 (And.intro (fun q20 => And.intro (by decide) (And.intro (fun _ => ((q_13.2).1 q20)) (fun q => absurd q (by decide)))) (fun q20 => And.intro h.1 (And.intro q_9.1 (And.intro (fun q19 => And.intro (by decide) (And.intro (fun _ => (((q_13.2).2 q20).1 q19)) (fun q => absurd q (by decide)))) (fun q19 => And.intro (by decide) (And.intro (fun q => absurd q (by decide)) (fun _ => And.intro (((q_13.2).2 q20).2 q19).1 (And.intro (by decide) (And.intro (fun q18 => (((((q_13.2).2 q20).2 q19).2).1 q18)) (fun q18 => nw_TI.mono (((((q_13.2).2 q20).2 q19).2).2 q18) (fun _ _ q_14 => And.intro q_11.1 (q_14)))))))))))))))))))))))))))))))
-- X5_standing
set_option maxRecDepth 100000 in
theorem bk96_0 {G : nw_G} {Φ : Int → nw_S → Prop} {σ : nw_S} {x1 x2 : Int} (h : nw_TV G 81 [.inl 26] σ (fun u1 => nw_TI G 82 [.inl 26, .inr 1] u1 (fun v2 u2 => nw_TI G 82 [.inl 26, .inr 2] u2 (fun v3 u3 => nw_TI G 77 [.inl 26] u3 (fun v4 u4 => nw_V G 96 (nw_pi Φ) 29 [some (.inl 26), some (.inr x1), some (.inr x2), some (.inr v2), some (.inr v3), some (.inr 0), some (.inr v4), some (.inr 0)] [] u4))))) : nw_V G 96 (nw_pi Φ) 0 [some (.inl 26), some (.inr x1), some (.inr x2), none, none, none, none, none] [] σ := nw_run (cd := nw_cd96) rfl [(29, 8)] 18 (h)
set_option maxRecDepth 100000 in
theorem bk96_29 {G : nw_G} {Φ : Int → nw_S → Prop} {σ : nw_S} {x1 x2 x3 x4 x5 x6 x7 : Int} (h : (nw_r x7) ∧ ((nw_r x6) ∧ ((x6 ≤ x7 → Φ x5 σ) ∧ (x7 < x6 → (0 ≤ x7 ∧ x7 < 7776) ∧ ((nw_r (nw_and (σ 35 (x7.toNat)) x3)) ∧ (((nw_and (σ 35 (x7.toNat)) x3) ≠ 0 → nw_V G 96 (nw_pi Φ) 29 [some (.inl 26), some (.inr x1), some (.inr x2), some (.inr x3), some (.inr x4), some (.inr (x5 + 0)), some (.inr x6), some (.inr (x7 + 1))] [] σ) ∧ ((nw_and (σ 35 (x7.toNat)) x3) = 0 → (nw_r x1) ∧ ((x1 = 0 → nw_V G 96 (nw_pi Φ) 29 [some (.inl 26), some (.inr x1), some (.inr x2), some (.inr x3), some (.inr x4), some (.inr (x5 + 1)), some (.inr x6), some (.inr (x7 + 1))] [] σ) ∧ (x1 ≠ 0 → nw_TI G 86 [.inl 26, .inr x7, .inr x4] σ (fun v1 u1 => (nw_r v1) ∧ ((nw_r x2) ∧ ((v1 ≠ x2 → nw_V G 96 (nw_pi Φ) 29 [some (.inl 26), some (.inr x1), some (.inr x2), some (.inr x3), some (.inr x4), some (.inr (x5 + 0)), some (.inr x6), some (.inr (x7 + 1))] [] u1) ∧ (v1 = x2 → nw_V G 96 (nw_pi Φ) 29 [some (.inl 26), some (.inr x1), some (.inr x2), some (.inr x3), some (.inr x4), some (.inr (x5 + 1)), some (.inr x6), some (.inr (x7 + 1))] [] u1))))))))))))) : nw_V G 96 (nw_pi Φ) 29 [some (.inl 26), some (.inr x1), some (.inr x2), some (.inr x3), some (.inr x4), some (.inr x5), some (.inr x6), some (.inr x7)] [] σ := nw_run (cd := nw_cd96) rfl [(29, 8)] 26 (h)
-- X5_count
set_option maxRecDepth 100000 in
theorem bk97_0 {G : nw_G} {Φ : Int → nw_S → Prop} {σ : nw_S} {x1 : Int} (h : nw_r x1 ∧ (x1 < 0 ∨ 6 < x1 → Φ (-1000002) σ) ∧ (x1 = 0 → Φ (σ 26 0) σ) ∧ (x1 = 1 → Φ (σ 26 3) σ) ∧ (x1 = 2 → nw_TI G 77 [.inl 26] σ (fun v1 u1 => Φ v1 u1)) ∧ (x1 = 3 → nw_TI G 96 [.inl 26, .inr 0, .inr 0] σ (fun v2 u2 => Φ v2 u2)) ∧ (x1 = 4 → nw_TI G 88 [.inl 26] σ (fun v3 u3 => (nw_r v3) ∧ ((v3 ≠ (-1) → nw_TI G 96 [.inl 26, .inr 1, .inr (u3 26 14)] u3 (fun v4 u4 => Φ v4 u4)) ∧ (v3 = (-1) → Φ 0 u3)))) ∧ (x1 = 5 → nw_TI G 94 [.inl 26, .inr 1] σ (fun v5 u5 => Φ v5 u5)) ∧ (x1 = 6 → nw_TI G 94 [.inl 26, .inr 0] σ (fun v6 u6 => Φ v6 u6))) : nw_V G 97 (nw_pi Φ) 0 [some (.inl 26), some (.inr x1)] [] σ := nw_run (cd := nw_cd97) rfl [] 12 (And.intro h.1 (And.intro (fun q2 => (h.2.1 q2)) (And.intro (fun q2 => (h.2.2.1 q2)) (And.intro (fun q2 => (h.2.2.2.1 q2)) (And.intro (fun q2 => (h.2.2.2.2.1 q2)) (And.intro (fun q2 => (h.2.2.2.2.2.1 q2)) (And.intro (fun q2 => nw_TI.mono (h.2.2.2.2.2.2.1 q2) (fun _ _ q_3 => And.intro q_3.1 (And.intro (by decide) (q_3.2)))) (And.intro (fun q2 => (h.2.2.2.2.2.2.2.1 q2)) (And.intro (fun q2 => (h.2.2.2.2.2.2.2.2 q2)) (True.intro))))))))))
-- X5_best
set_option maxRecDepth 100000 in
theorem bk98_0 {G : nw_G} {Φ : Int → nw_S → Prop} {σ : nw_S} (h : nw_TI G 88 [.inl 26] σ (fun v1 u1 => (nw_r v1) ∧ ((v1 ≠ (-1) → Φ (u1 26 14) u1) ∧ (v1 = (-1) → Φ (-1000004) u1)))) : nw_V G 98 (nw_pi Φ) 0 [some (.inl 26)] [] σ := nw_run (cd := nw_cd98) rfl [] 7 (nw_TI.mono h (fun _ _ q_1 => And.intro q_1.1 (And.intro (by decide) (q_1.2))))
-- X5_pick
set_option maxRecDepth 100000 in
theorem bk99_0 {G : nw_G} {Φ : Int → nw_S → Prop} {σ : nw_S} {x1 : Int} (h : nw_TI G 67 [.inl 26, .inr x1] σ (fun v1 u1 => (nw_r v1) ∧ ((v1 ≠ 0 → nw_TI G 88 [.inl 26] u1 (fun v2 u2 => (nw_r v2) ∧ ((v2 ≠ (-1) → nw_TI G 84 [.inl 26, .inr v2, .inr x1] u2 (fun v3 u3 => Φ v3 u3)) ∧ (v2 = (-1) → Φ (-1000004) u2)))) ∧ (v1 = 0 → Φ (-1000001) u1)))) : nw_V G 99 (nw_pi Φ) 0 [some (.inl 26), some (.inr x1), none] [] σ := nw_run (cd := nw_cd99) rfl [] 15 (nw_TI.mono h (fun _ _ q_1 => And.intro q_1.1 (And.intro (fun q2 => nw_TI.mono ((q_1.2).1 q2) (fun _ _ q_2 => And.intro q_2.1 (And.intro (by decide) (q_2.2)))) (fun q2 => ((q_1.2).2 q2)))))
-- X5_fixed
set_option maxRecDepth 100000 in
theorem bk100_0 {G : nw_G} {Φ : Int → nw_S → Prop} {σ : nw_S} {x1 : Int} (h : nw_TI G 67 [.inl 26, .inr x1] σ (fun v1 u1 => (nw_r v1) ∧ ((v1 ≠ 0 → nw_TI G 88 [.inl 26] u1 (fun v2 u2 => (nw_r v2) ∧ ((v2 ≠ (-1) → nw_TI G 82 [.inl 26, .inr 1] u2 (fun v3 u3 => nw_TI G 82 [.inl 26, .inr 2] u3 (fun v4 u4 => nw_TI G 84 [.inl 26, .inr v2, .inr x1] u4 (fun v5 u5 => nw_TI G 77 [.inl 26] u5 (fun v6 u6 => nw_V G 100 (nw_pi Φ) 54 [some (.inl 26), some (.inr x1), some (.inr v2), some (.inr v3), some (.inr v4), some (.inr v5), some (.inr v6), some (.inr v2)] [] u6))))) ∧ (v2 = (-1) → Φ (-1000004) u2)))) ∧ (v1 = 0 → Φ (-1000001) u1)))) : nw_V G 100 (nw_pi Φ) 0 [some (.inl 26), some (.inr x1), none, none, none, none, none, none] [] σ := nw_run (cd := nw_cd100) rfl [(54, 8)] 29 (nw_TI.mono h (fun _ _ q_1 => And.intro q_1.1 (And.intro (fun q2 => nw_TI.mono ((q_1.2).1 q2) (fun _ _ q_2 => And.intro q_2.1 (And.intro (by decide) (q_2.2)))) (fun q2 => ((q_1.2).2 q2)))))
set_option maxRecDepth 100000 in
theorem bk100_54 {G : nw_G} {Φ : Int → nw_S → Prop} {σ : nw_S} {x1 x2 x3 x4 x5 x6 x7 : Int} (h : (nw_r x7) ∧ ((nw_r x6) ∧ ((x6 ≤ x7 → Φ x5 σ) ∧ (x7 < x6 → (0 ≤ x7 ∧ x7 < 7776) ∧ ((nw_r (nw_and (σ 35 (x7.toNat)) x3)) ∧ (((nw_and (σ 35 (x7.toNat)) x3) ≠ 0 → nw_V G 100 (nw_pi Φ) 54 [some (.inl 26), some (.inr x1), some (.inr x2), some (.inr x3), some (.inr x4), some (.inr x5), some (.inr x6), some (.inr (x7 + 1))] [] σ) ∧ ((nw_and (σ 35 (x7.toNat)) x3) = 0 → nw_TI G 86 [.inl 26, .inr x7, .inr x4] σ (fun v1 u1 => (nw_r v1) ∧ ((nw_r (u1 26 14)) ∧ ((v1 ≠ (u1 26 14) → nw_V G 100 (nw_pi Φ) 54 [some (.inl 26), some (.inr x1), some (.inr x2), some (.inr x3), some (.inr x4), some (.inr x5), some (.inr x6), some (.inr (x7 + 1))] [] u1) ∧ (v1 = (u1 26 14) → nw_TI G 84 [.inl 26, .inr x7, .inr x1] u1 (fun v2 u2 => (nw_r v2) ∧ ((nw_r x5) ∧ ((v2 = x5 → nw_V G 100 (nw_pi Φ) 54 [some (.inl 26), some (.inr x1), some (.inr x2), some (.inr x3), some (.inr x4), some (.inr x5), some (.inr x6), some (.inr (x7 + 1))] [] u2) ∧ (v2 ≠ x5 → Φ (-1) u2))))))))))))))) : nw_V G 100 (nw_pi Φ) 54 [some (.inl 26), some (.inr x1), some (.inr x2), some (.inr x3), some (.inr x4), some (.inr x5), some (.inr x6), some (.inr x7)] [] σ := nw_run (cd := nw_cd100) rfl [(54, 8)] 26 (h)
-- X5_force
set_option maxRecDepth 100000 in
theorem bk101_0 {G : nw_G} {Φ : Int → nw_S → Prop} {σ : nw_S} {x1 x2 : Int} (h : nw_TI G 68 [.inl 26, .inr x1, .inr x2] σ (fun v1 u1 => (nw_r v1) ∧ ((v1 ≠ 0 → nw_TI G 82 [.inl 26, .inr 1] u1 (fun v2 u2 => nw_TI G 82 [.inl 26, .inr 2] u2 (fun v3 u3 => nw_TI G 87 [.inl 26, .inr v2, .inr v3, .inr x1, .inr x2, .inr 1] u3 (fun v4 u4 => (nw_r v4) ∧ ((v4 ≠ (-1) → Φ (u4 26 14) u4) ∧ (v4 = (-1) → Φ (-1000004) u4)))))) ∧ (v1 = 0 → Φ (-1000001) u1)))) : nw_V G 101 (nw_pi Φ) 0 [some (.inl 26), some (.inr x1), some (.inr x2)] [] σ := nw_run (cd := nw_cd101) rfl [] 21 (nw_TI.mono h (fun _ _ q_1 => And.intro q_1.1 (And.intro (fun q2 => nw_TI.mono ((q_1.2).1 q2) (fun _ _ q_2 => nw_TI.mono q_2 (fun _ _ q_3 => nw_TI.mono q_3 (fun _ _ q_4 => And.intro q_4.1 (And.intro (by decide) (q_4.2)))))) (fun q2 => ((q_1.2).2 q2)))))
-- X5_forced
set_option maxRecDepth 100000 in
theorem bk102_0 {G : nw_G} {Φ : Int → nw_S → Prop} {σ : nw_S} {x1 x2 x3 : Int} (h : nw_TI G 68 [.inl 26, .inr x1, .inr x2] σ (fun v1 u1 => (nw_r v1) ∧ ((v1 = 0 → Φ (-1000001) u1) ∧ (v1 ≠ 0 → nw_TI G 67 [.inl 26, .inr x3] u1 (fun v2 u2 => (nw_r v2) ∧ ((v2 ≠ 0 → nw_TI G 82 [.inl 26, .inr 1] u2 (fun v3 u3 => nw_TI G 82 [.inl 26, .inr 2] u3 (fun v4 u4 => nw_TI G 87 [.inl 26, .inr v3, .inr v4, .inr x1, .inr x2, .inr 1] u4 (fun v5 u5 => (nw_r v5) ∧ ((v5 ≠ (-1) → nw_TI G 84 [.inl 26, .inr v5, .inr x3] u5 (fun v6 u6 => Φ v6 u6)) ∧ (v5 = (-1) → Φ (-1000004) u5)))))) ∧ (v2 = 0 → Φ (-1000001) u2))))))) : nw_V G 102 (nw_pi Φ) 0 [some (.inl 26), some (.inr x1), some (.inr x2), some (.inr x3), none] [] σ := nw_run (cd := nw_cd102) rfl [] 29 (nw_TI.mono h (fun _ _ q_1 => And.intro q_1.1 (And.intro (fun q3 => ((q_1.2).1 q3)) (fun q3 => nw_TI.mono ((q_1.2).2 q3) (fun _ _ q_2 => And.intro q_2.1 (And.intro (fun q2 => nw_TI.mono ((q_2.2).1 q2) (fun _ _ q_3 => nw_TI.mono q_3 (fun _ _ q_4 => nw_TI.mono q_4 (fun _ _ q_5 => And.intro q_5.1 (And.intro (by decide) (q_5.2)))))) (fun q2 => ((q_2.2).2 q2))))))))
-- X5_avoid
set_option maxRecDepth 100000 in
theorem bk103_0 {G : nw_G} {Φ : Int → nw_S → Prop} {σ : nw_S} {x1 x2 : Int} (h : nw_TI G 68 [.inl 26, .inr x1, .inr x2] σ (fun v1 u1 => (nw_r v1) ∧ ((v1 ≠ 0 → nw_TI G 82 [.inl 26, .inr 1] u1 (fun v2 u2 => nw_TI G 82 [.inl 26, .inr 2] u2 (fun v3 u3 => nw_TI G 87 [.inl 26, .inr v2, .inr v3, .inr x1, .inr x2, .inr 2] u3 (fun v4 u4 => (nw_r v4) ∧ ((v4 ≠ (-1) → Φ (u4 26 14) u4) ∧ (v4 = (-1) → Φ (-1000004) u4)))))) ∧ (v1 = 0 → Φ (-1000001) u1)))) : nw_V G 103 (nw_pi Φ) 0 [some (.inl 26), some (.inr x1), some (.inr x2)] [] σ := nw_run (cd := nw_cd103) rfl [] 21 (nw_TI.mono h (fun _ _ q_1 => And.intro q_1.1 (And.intro (fun q2 => nw_TI.mono ((q_1.2).1 q2) (fun _ _ q_2 => nw_TI.mono q_2 (fun _ _ q_3 => nw_TI.mono q_3 (fun _ _ q_4 => And.intro q_4.1 (And.intro (by decide) (q_4.2)))))) (fun q2 => ((q_1.2).2 q2)))))
-- X5_raise
set_option maxRecDepth 100000 in
theorem bk104_0 {G : nw_G} {Φ : Int → nw_S → Prop} {σ : nw_S} {x1 x2 : Int} (h : nw_TI G 68 [.inl 26, .inr x1, .inr x2] σ (fun v1 u1 => (nw_r v1) ∧ ((v1 ≠ 0 → nw_TI G 82 [.inl 26, .inr 1] u1 (fun v2 u2 => nw_TI G 82 [.inl 26, .inr 2] u2 (fun v3 u3 => nw_TI G 87 [.inl 26, .inr v2, .inr v3, .inr x1, .inr x2, .inr 1] u3 (fun v4 u4 => nw_TI G 82 [.inl 26, .inr 1] u4 (fun v5 u5 => nw_TI G 82 [.inl 26, .inr 2] u5 (fun v6 u6 => nw_TI G 87 [.inl 26, .inr v5, .inr v6, .inr x1, .inr x2, .inr 2] u6 (fun v7 u7 => (nw_r v4) ∧ ((v4 ≠ (-1) → (nw_r v7) ∧ ((v7 ≠ (-1) → nw_V G 104 (nw_pi Φ) 80 [some (.inl 26), some (.inr x1), some (.inr x2), some (.inr v4), some (.inr (u4 26 14)), some (.inr v7), some (.inr (u7 26 14)), some (.inr 0)] [] u7) ∧ (v7 = (-1) → Φ 0 u7))) ∧ (v4 = (-1) → Φ (-1000004) u7))))))))) ∧ (v1 = 0 → Φ (-1000001) u1)))) : nw_V G 104 (nw_pi Φ) 0 [some (.inl 26), some (.inr x1), some (.inr x2), none, none, none, none, none] [] σ := nw_run (cd := nw_cd104) rfl [(80, 8)] 44 (nw_TI.mono h (fun _ _ q_1 => And.intro q_1.1 (And.intro (fun q3 => nw_TI.mono ((q_1.2).1 q3) (fun _ _ q_2 => nw_TI.mono q_2 (fun _ _ q_3 => nw_TI.mono q_3 (fun _ _ q_4 => nw_TI.mono q_4 (fun _ _ q_5 => nw_TI.mono q_5 (fun _ _ q_6 => nw_TI.mono q_6 (fun _ _ q_7 => And.intro q_7.1 (And.intro (by decide) (And.intro (fun q2 => And.intro ((q_7.2).1 q2).1 (And.intro (by decide) (((q_7.2).1 q2).2))) (fun q2 => ((q_7.2).2 q2))))))))))) (fun q3 => ((q_1.2).2 q3)))))
set_option maxRecDepth 100000 in
theorem bk104_80 {G : nw_G} {Φ : Int → nw_S → Prop} {σ : nw_S} {x1 x2 x3 x4 x5 x6 x7 : Int} (h : (nw_r (x4 + x7)) ∧ ((nw_r x6) ∧ (((x4 + x7) < x6 → nw_V G 104 (nw_pi Φ) 80 [some (.inl 26), some (.inr x1), some (.inr x2), some (.inr x3), some (.inr x4), some (.inr x5), some (.inr x6), some (.inr (x7 + 1))] [] σ) ∧ (x6 ≤ (x4 + x7) → ((x4 + x7) ≠ x6 → Φ x7 σ) ∧ ((x4 + x7) = x6 → (nw_r x5) ∧ ((nw_r x3) ∧ ((x3 ≤ x5 → Φ x7 σ) ∧ (x5 < x3 → nw_V G 104 (nw_pi Φ) 80 [some (.inl 26), some (.inr x1), some (.inr x2), some (.inr x3), some (.inr x4), some (.inr x5), some (.inr x6), some (.inr (x7 + 1))] [] σ)))))))) : nw_V G 104 (nw_pi Φ) 80 [some (.inl 26), some (.inr x1), some (.inr x2), some (.inr x3), some (.inr x4), some (.inr x5), some (.inr x6), some (.inr x7)] [] σ := nw_run (cd := nw_cd104) rfl [(80, 8)] 16 (And.intro h.1 (And.intro (h.2).1 (And.intro (fun q3 => (((h.2).2).1 q3)) (fun q3 => And.intro h.1 (And.intro (h.2).1 ((((h.2).2).2 q3)))))))
-- X5_lower
set_option maxRecDepth 100000 in
theorem bk105_0 {G : nw_G} {Φ : Int → nw_S → Prop} {σ : nw_S} {x1 x2 : Int} (h : nw_TI G 68 [.inl 26, .inr x1, .inr x2] σ (fun v1 u1 => (nw_r v1) ∧ ((v1 ≠ 0 → nw_TI G 82 [.inl 26, .inr 1] u1 (fun v2 u2 => nw_TI G 82 [.inl 26, .inr 2] u2 (fun v3 u3 => nw_TI G 87 [.inl 26, .inr v2, .inr v3, .inr x1, .inr x2, .inr 1] u3 (fun v4 u4 => nw_TI G 82 [.inl 26, .inr 1] u4 (fun v5 u5 => nw_TI G 82 [.inl 26, .inr 2] u5 (fun v6 u6 => nw_TI G 87 [.inl 26, .inr v5, .inr v6, .inr x1, .inr x2, .inr 2] u6 (fun v7 u7 => (nw_r v7) ∧ ((v7 ≠ (-1) → (nw_r v4) ∧ ((v4 ≠ (-1) → nw_V G 105 (nw_pi Φ) 80 [some (.inl 26), some (.inr x1), some (.inr x2), some (.inr v4), some (.inr (u4 26 14)), some (.inr v7), some (.inr (u7 26 14)), some (.inr 0)] [] u7) ∧ (v4 = (-1) → Φ 0 u7))) ∧ (v7 = (-1) → Φ (-1000004) u7))))))))) ∧ (v1 = 0 → Φ (-1000001) u1)))) : nw_V G 105 (nw_pi Φ) 0 [some (.inl 26), some (.inr x1), some (.inr x2), none, none, none, none, none] [] σ := nw_run (cd := nw_cd105) rfl [(80, 8)] 44 (nw_TI.mono h (fun _ _ q_1 => And.intro q_1.1 (And.intro (fun q3 => nw_TI.mono ((q_1.2).1 q3) (fun _ _ q_2 => nw_TI.mono q_2 (fun _ _ q_3 => nw_TI.mono q_3 (fun _ _ q_4 => nw_TI.mono q_4 (fun _ _ q_5 => nw_TI.mono q_5 (fun _ _ q_6 => nw_TI.mono q_6 (fun _ _ q_7 => And.intro q_7.1 (And.intro (by decide) (And.intro (fun q2 => And.intro ((q_7.2).1 q2).1 (And.intro (by decide) (((q_7.2).1 q2).2))) (fun q2 => ((q_7.2).2 q2))))))))))) (fun q3 => ((q_1.2).2 q3)))))
set_option maxRecDepth 100000 in
theorem bk105_80 {G : nw_G} {Φ : Int → nw_S → Prop} {σ : nw_S} {x1 x2 x3 x4 x5 x6 x7 : Int} (h : (nw_r (x4 - x7)) ∧ ((nw_r x6) ∧ ((x6 < (x4 - x7) → nw_V G 105 (nw_pi Φ) 80 [some (.inl 26), some (.inr x1), some (.inr x2), some (.inr x3), some (.inr x4), some (.inr x5), some (.inr x6), some (.inr (x7 + 1))] [] σ) ∧ ((x4 - x7) ≤ x6 → ((x4 - x7) ≠ x6 → Φ x7 σ) ∧ ((x4 - x7) = x6 → (nw_r x3) ∧ ((nw_r x5) ∧ ((x5 ≤ x3 → Φ x7 σ) ∧ (x3 < x5 → nw_V G 105 (nw_pi Φ) 80 [some (.inl 26), some (.inr x1), some (.inr x2), some (.inr x3), some (.inr x4), some (.inr x5), some (.inr x6), some (.inr (x7 + 1))] [] σ)))))))) : nw_V G 105 (nw_pi Φ) 80 [some (.inl 26), some (.inr x1), some (.inr x2), some (.inr x3), some (.inr x4), some (.inr x5), some (.inr x6), some (.inr x7)] [] σ := nw_run (cd := nw_cd105) rfl [(80, 8)] 16 (And.intro h.1 (And.intro (h.2).1 (And.intro (fun q3 => (((h.2).2).1 q3)) (fun q3 => And.intro h.1 (And.intro (h.2).1 ((((h.2).2).2 q3)))))))
-- X5_needs
set_option maxRecDepth 100000 in
theorem bk106_0 {G : nw_G} {Φ : Int → nw_S → Prop} {σ : nw_S} {x1 x2 : Int} (h : nw_TI G 68 [.inl 26, .inr x1, .inr x2] σ (fun v1 u1 => (nw_r v1) ∧ ((v1 ≠ 0 → nw_TV G 81 [.inl 26] u1 (fun u2 => nw_TI G 82 [.inl 26, .inr 1] u2 (fun v3 u3 => nw_TI G 77 [.inl 26] u3 (fun v4 u4 => nw_V G 106 (nw_pi Φ) 34 [some (.inl 26), some (.inr x1), some (.inr x2), some (.inr v3), some (.inr (-1)), some (.inr v4), some (.inr 0), none, none] [] u4)))) ∧ (v1 = 0 → Φ (-1000001) u1)))) : nw_V G 106 (nw_pi Φ) 0 [some (.inl 26), some (.inr x1), some (.inr x2), none, none, none, none, none, none] [] σ := nw_run (cd := nw_cd106) rfl [(34, 7)] 19 (h)
set_option maxRecDepth 100000 in
theorem bk106_34 {G : nw_G} {Φ : Int → nw_S → Prop} {σ : nw_S} {x1 x2 x3 x4 x5 x6 : Int} (h : (nw_r x6) ∧ ((nw_r x5) ∧ ((x5 ≤ x6 → Φ x4 σ) ∧ (x6 < x5 → nw_TI G 84 [.inl 26, .inr x6, .inr x1] σ (fun v1 u1 => (nw_r v1) ∧ ((nw_r x2) ∧ ((v1 ≠ x2 → nw_V G 106 (nw_pi Φ) 34 [some (.inl 26), some (.inr x1), some (.inr x2), some (.inr x3), some (.inr x4), some (.inr x5), some (.inr (x6 + 1)), none, none] [] u1) ∧ (v1 = x2 → (0 ≤ x6 ∧ x6 < 7776) ∧ ((nw_r x4) ∧ ((x4 = (-1) → nw_V G 106 (nw_pi Φ) 34 [some (.inl 26), some (.inr x1), some (.inr x2), some (.inr x3), some (.inr (nw_and (u1 35 (x6.toNat)) x3)), some (.inr x5), some (.inr (x6 + 1)), none, none] [] u1) ∧ (x4 ≠ (-1) → nw_TI G 83 [.inl 26, .inr (nw_and (u1 35 (x6.toNat)) x3)] u1 (fun v2 u2 => nw_TI G 83 [.inl 26, .inr x4] u2 (fun v3 u3 => (nw_r v2) ∧ ((nw_r v3) ∧ ((v2 < v3 → nw_V G 106 (nw_pi Φ) 34 [some (.inl 26), some (.inr x1), some (.inr x2), some (.inr x3), some (.inr (nw_and (u1 35 (x6.toNat)) x3)), some (.inr x5), some (.inr (x6 + 1)), none, none] [] u3) ∧ (v3 ≤ v2 → nw_TI G 83 [.inl 26, .inr (nw_and (u1 35 (x6.toNat)) x3)] u3 (fun v4 u4 => nw_TI G 83 [.inl 26, .inr x4] u4 (fun v5 u5 => (nw_r v4) ∧ ((nw_r v5) ∧ ((v4 ≠ v5 → nw_V G 106 (nw_pi Φ) 34 [some (.inl 26), some (.inr x1), some (.inr x2), some (.inr x3), some (.inr x4), some (.inr x5), some (.inr (x6 + 1)), none, none] [] u5) ∧ (v4 = v5 → (nw_r (nw_and (u1 35 (x6.toNat)) x3)) ∧ ((x4 ≤ (nw_and (u1 35 (x6.toNat)) x3) → nw_V G 106 (nw_pi Φ) 34 [some (.inl 26), some (.inr x1), some (.inr x2), some (.inr x3), some (.inr x4), some (.inr x5), some (.inr (x6 + 1)), none, none] [] u5) ∧ ((nw_and (u1 35 (x6.toNat)) x3) < x4 → nw_V G 106 (nw_pi Φ) 34 [some (.inl 26), some (.inr x1), some (.inr x2), some (.inr x3), some (.inr (nw_and (u1 35 (x6.toNat)) x3)), some (.inr x5), some (.inr (x6 + 1)), none, none] [] u5))))))))))))))))))))))) : nw_V G 106 (nw_pi Φ) 34 [some (.inl 26), some (.inr x1), some (.inr x2), some (.inr x3), some (.inr x4), some (.inr x5), some (.inr x6), none, none] [] σ := nw_run (cd := nw_cd106) rfl [(34, 7)] 47 (And.intro h.1 (And.intro (h.2).1 (And.intro (fun q6 => (((h.2).2).1 q6)) (fun q6 => nw_TI.mono (((h.2).2).2 q6) (fun _ _ q_1 => And.intro q_1.1 (And.intro (q_1.2).1 (And.intro (fun q5 => (((q_1.2).2).1 q5)) (fun q5 => And.intro (((q_1.2).2).2 q5).1 (And.intro ((((q_1.2).2).2 q5).2).1 (And.intro (by decide) (And.intro (fun q4 => And.intro (by decide) (And.intro (fun q => absurd q (by decide)) (fun _ => ((((((q_1.2).2).2 q5).2).2).1 q4)))) (fun q4 => nw_TI.mono ((((((q_1.2).2).2 q5).2).2).2 q4) (fun _ _ q_2 => nw_TI.mono q_2 (fun _ _ q_3 => And.intro q_3.1 (And.intro (q_3.2).1 (And.intro (fun q3 => And.intro (by decide) (And.intro (fun q => absurd q (by decide)) (fun _ => (((q_3.2).2).1 q3)))) (fun q3 => nw_TI.mono (((q_3.2).2).2 q3) (fun _ _ q_4 => nw_TI.mono q_4 (fun _ _ q_5 => And.intro q_5.1 (And.intro (q_5.2).1 (And.intro (fun q2 => And.intro (by decide) (And.intro (fun _ => (((q_5.2).2).1 q2)) (fun q => absurd q (by decide)))) (fun q2 => And.intro (((q_5.2).2).2 q2).1 (And.intro ((((q_1.2).2).2 q5).2).1 (And.intro (fun q1 => And.intro (by decide) (And.intro (fun _ => (((((q_5.2).2).2 q2).2).1 q1)) (fun q => absurd q (by decide)))) (fun q1 => And.intro (by decide) (And.intro (fun q => absurd q (by decide)) (fun _ => (((((q_5.2).2).2 q2).2).2 q1))))))))))))))))))))))))))))
-- X5_clash
set_option maxRecDepth 100000 in
theorem bk107_0 {G : nw_G} {Φ : Int → nw_S → Prop} {σ : nw_S} (h : nw_TV G 89 [.inl 26] σ (fun u1 => nw_TI G 82 [.inl 26, .inr 1] u1 (fun v2 u2 => (0 ≤ v2 ∧ v2 < 4096) ∧ ((nw_r (u2 36 (v2.toNat))) ∧ (((u2 36 (v2.toNat)) = 0 → nw_V G 107 (nw_pi Φ) 23 [some (.inl 26), some (.inr v2), some (.inr 0)] [] u2) ∧ ((u2 36 (v2.toNat)) ≠ 0 → Φ 0 u2)))))) : nw_V G 107 (nw_pi Φ) 0 [some (.inl 26), none, none] [] σ := nw_run (cd := nw_cd107) rfl [(23, 3)] 14 (h)
set_option maxRecDepth 100000 in
theorem bk107_23 {G : nw_G} {Φ : Int → nw_S → Prop} {σ : nw_S} {x1 x2 : Int} (h : (nw_r x2) ∧ ((nw_r (σ 26 3)) ∧ (((σ 26 3) ≤ x2 → Φ x1 σ) ∧ (x2 < (σ 26 3) → (nw_r (nw_and (nw_shr x1 x2) 1)) ∧ (((nw_and (nw_shr x1 x2) 1) ≠ 1 → nw_V G 107 (nw_pi Φ) 23 [some (.inl 26), some (.inr x1), some (.inr (x2 + 1))] [] σ) ∧ ((nw_and (nw_shr x1 x2) 1) = 1 → (0 ≤ (nw_xor x1 (nw_shl 1 x2)) ∧ (nw_xor x1 (nw_shl 1 x2)) < 4096) ∧ ((nw_r (σ 36 ((nw_xor x1 (nw_shl 1 x2)).toNat))) ∧ (((σ 36 ((nw_xor x1 (nw_shl 1 x2)).toNat)) ≠ 0 → nw_V G 107 (nw_pi Φ) 23 [some (.inl 26), some (.inr x1), some (.inr (x2 + 1))] [] σ) ∧ ((σ 36 ((nw_xor x1 (nw_shl 1 x2)).toNat)) = 0 → nw_V G 107 (nw_pi Φ) 23 [some (.inl 26), some (.inr (nw_xor x1 (nw_shl 1 x2))), some (.inr (x2 + 1))] [] σ))))))))) : nw_V G 107 (nw_pi Φ) 23 [some (.inl 26), some (.inr x1), some (.inr x2)] [] σ := nw_run (cd := nw_cd107) rfl [(23, 3)] 30 (And.intro h.1 (And.intro (h.2).1 (And.intro (fun q3 => (((h.2).2).1 q3)) (fun q3 => And.intro (((h.2).2).2 q3).1 (And.intro (by decide) ((((h.2).2).2 q3).2))))))
-- X5_clashAt
set_option maxRecDepth 100000 in
theorem bk108_0 {G : nw_G} {Φ : Int → nw_S → Prop} {σ : nw_S} {x1 : Int} (h : nw_TI G 95 [.inl 26, .inr x1, .inr 1] σ (fun v1 u1 => Φ v1 u1)) : nw_V G 108 (nw_pi Φ) 0 [some (.inl 26), some (.inr x1)] [] σ := nw_run (cd := nw_cd108) rfl [] 5 (h)
-- X5_relaxAt
set_option maxRecDepth 100000 in
theorem bk109_0 {G : nw_G} {Φ : Int → nw_S → Prop} {σ : nw_S} {x1 : Int} (h : nw_TI G 95 [.inl 26, .inr x1, .inr 0] σ (fun v1 u1 => Φ v1 u1)) : nw_V G 109 (nw_pi Φ) 0 [some (.inl 26), some (.inr x1)] [] σ := nw_run (cd := nw_cd109) rfl [] 5 (h)
-- X5_cost
set_option maxRecDepth 100000 in
theorem bk110_0 {G : nw_G} {Φ : Int → nw_S → Prop} {σ : nw_S} {x1 : Int} (h : (nw_r x1) ∧ ((x1 < 0 → Φ (-1000001) σ) ∧ ((0 : Int) ≤ x1 → (nw_r (nw_shr x1 (σ 26 3))) ∧ (((nw_shr x1 (σ 26 3)) = 0 → nw_TI G 83 [.inl 26, .inr x1] σ (fun v1 u1 => Φ v1 u1)) ∧ ((nw_shr x1 (σ 26 3)) ≠ 0 → Φ (-1000001) σ))))) : nw_V G 110 (nw_pi Φ) 0 [some (.inl 26), some (.inr x1)] [] σ := nw_run (cd := nw_cd110) rfl [] 11 (h)
-- X5_price
set_option maxRecDepth 100000 in
theorem bk111_0 {G : nw_G} {Φ : Int → nw_S → Prop} {σ : nw_S} {x1 : Int} (h : nw_TI G 69 [.inl 26, .inr x1] σ (fun v1 u1 => (nw_r v1) ∧ ((v1 ≠ 0 → nw_TI G 88 [.inl 26] u1 (fun v2 u2 => (nw_r v2) ∧ ((v2 ≠ (-1) → (0 ≤ x1 ∧ x1 < 12) ∧ (nw_TI G 88 [.inl 26] (nw_up u2 34 (x1.toNat) 0) (fun v3 u3 => (nw_r v3) ∧ ((v3 ≠ (-1) → Φ ((u3 26 14) - (u2 26 14)) (nw_up u3 34 (x1.toNat) (u2 34 (x1.toNat)))) ∧ (v3 = (-1) → Φ (-1000004) (nw_up u3 34 (x1.toNat) (u2 34 (x1.toNat)))))))) ∧ (v2 = (-1) → Φ (-1000004) u2)))) ∧ (v1 = 0 → Φ (-1000001) u1)))) : nw_V G 111 (nw_pi Φ) 0 [some (.inl 26), some (.inr x1), none, none, none] [] σ := nw_run (cd := nw_cd111) rfl [] 37 (nw_TI.mono h (fun _ _ q_1 => And.intro q_1.1 (And.intro (fun q3 => nw_TI.mono ((q_1.2).1 q3) (fun _ _ q_2 => And.intro q_2.1 (And.intro (by decide) (And.intro (fun q2 => And.intro ((q_2.2).1 q2).1 (And.intro ((q_2.2).1 q2).1 (nw_TI.mono (((q_2.2).1 q2).2) (fun _ _ q_3 => And.intro ((q_2.2).1 q2).1 (And.intro q_3.1 (And.intro (by decide) (q_3.2))))))) (fun q2 => ((q_2.2).2 q2)))))) (fun q3 => ((q_1.2).2 q3)))))
-- X5_isPlan
set_option maxRecDepth 100000 in
theorem bk112_0 {G : nw_G} {Φ : Int → nw_S → Prop} {σ : nw_S} {x1 x2 x3 x4 x5 : Int} (h : nw_V G 112 (nw_pi Φ) 3 [some (.inl 26), some (.inr x1), some (.inr x2), some (.inr x3), some (.inr x4), some (.inr x5), some (.inr 0)] [] σ) : nw_V G 112 (nw_pi Φ) 0 [some (.inl 26), some (.inr x1), some (.inr x2), some (.inr x3), some (.inr x4), some (.inr x5), none] [] σ := nw_run (cd := nw_cd112) rfl [(3, 7)] 3 (h)
set_option maxRecDepth 100000 in
theorem bk112_3 {G : nw_G} {Φ : Int → nw_S → Prop} {σ : nw_S} {x1 x2 x3 x4 x5 x6 : Int} (h : (nw_r x6) ∧ ((nw_r (σ 26 0)) ∧ (((σ 26 0) ≤ x6 → Φ 1 σ) ∧ (x6 < (σ 26 0) → (x6 ≠ 0 → (x6 ≠ 1 → (x6 ≠ 2 → (x6 ≠ 3 → (0 ≤ x6 ∧ x6 < 5) ∧ (nw_TI G 68 [.inl 26, .inr x6, .inr ((nw_up σ 37 (x6.toNat) x5) 37 (x6.toNat))] (nw_up σ 37 (x6.toNat) x5) (fun v1 u1 => (nw_r v1) ∧ ((v1 ≠ 0 → nw_V G 112 (nw_pi Φ) 3 [some (.inl 26), some (.inr x1), some (.inr x2), some (.inr x3), some (.inr x4), some (.inr x5), some (.inr (x6 + 1))] [] u1) ∧ (v1 = 0 → Φ 0 u1))))) ∧ (x6 = 3 → (0 ≤ x6 ∧ x6 < 5) ∧ (nw_TI G 68 [.inl 26, .inr x6, .inr ((nw_up σ 37 (x6.toNat) x4) 37 (x6.toNat))] (nw_up σ 37 (x6.toNat) x4) (fun v2 u2 => (nw_r v2) ∧ ((v2 ≠ 0 → nw_V G 112 (nw_pi Φ) 3 [some (.inl 26), some (.inr x1), some (.inr x2), some (.inr x3), some (.inr x4), some (.inr x5), some (.inr (x6 + 1))] [] u2) ∧ (v2 = 0 → Φ 0 u2)))))) ∧ (x6 = 2 → (0 ≤ x6 ∧ x6 < 5) ∧ (nw_TI G 68 [.inl 26, .inr x6, .inr ((nw_up σ 37 (x6.toNat) x3) 37 (x6.toNat))] (nw_up σ 37 (x6.toNat) x3) (fun v3 u3 => (nw_r v3) ∧ ((v3 ≠ 0 → nw_V G 112 (nw_pi Φ) 3 [some (.inl 26), some (.inr x1), some (.inr x2), some (.inr x3), some (.inr x4), some (.inr x5), some (.inr (x6 + 1))] [] u3) ∧ (v3 = 0 → Φ 0 u3)))))) ∧ (x6 = 1 → (0 ≤ x6 ∧ x6 < 5) ∧ (nw_TI G 68 [.inl 26, .inr x6, .inr ((nw_up σ 37 (x6.toNat) x2) 37 (x6.toNat))] (nw_up σ 37 (x6.toNat) x2) (fun v4 u4 => (nw_r v4) ∧ ((v4 ≠ 0 → nw_V G 112 (nw_pi Φ) 3 [some (.inl 26), some (.inr x1), some (.inr x2), some (.inr x3), some (.inr x4), some (.inr x5), some (.inr (x6 + 1))] [] u4) ∧ (v4 = 0 → Φ 0 u4)))))) ∧ (x6 = 0 → (0 ≤ x6 ∧ x6 < 5) ∧ (nw_TI G 68 [.inl 26, .inr x6, .inr ((nw_up σ 37 (x6.toNat) x1) 37 (x6.toNat))] (nw_up σ 37 (x6.toNat) x1) (fun v5 u5 => (nw_r v5) ∧ ((v5 ≠ 0 → nw_V G 112 (nw_pi Φ) 3 [some (.inl 26), some (.inr x1), some (.inr x2), some (.inr x3), some (.inr x4), some (.inr x5), some (.inr (x6 + 1))] [] u5) ∧ (v5 = 0 → Φ 0 u5))))))))) : nw_V G 112 (nw_pi Φ) 3 [some (.inl 26), some (.inr x1), some (.inr x2), some (.inr x3), some (.inr x4), some (.inr x5), some (.inr x6)] [] σ := nw_run (cd := nw_cd112) rfl [(3, 7)] 32 (And.intro h.1 (And.intro (h.2).1 (And.intro (fun q10 => And.intro (by decide) ((((h.2).2).1 q10))) (fun q10 => And.intro h.1 (And.intro (fun q9 => And.intro h.1 (And.intro (by decide) (And.intro (fun q7 => And.intro h.1 (And.intro (by decide) (And.intro (fun q5 => And.intro h.1 (And.intro (by decide) (And.intro (fun q3 => And.intro (((((((h.2).2).2 q10).1 q9).1 q7).1 q5).1 q3).1 (And.intro (((((((h.2).2).2 q10).1 q9).1 q7).1 q5).1 q3).1 (nw_TI.mono ((((((((h.2).2).2 q10).1 q9).1 q7).1 q5).1 q3).2) (fun _ _ q_1 => And.intro q_1.1 (And.intro (fun q1 => ((q_1.2).1 q1)) (fun q1 => And.intro (by decide) (((q_1.2).2 q1)))))))) (fun q3 => And.intro (((((((h.2).2).2 q10).1 q9).1 q7).1 q5).2 q3).1 (And.intro (((((((h.2).2).2 q10).1 q9).1 q7).1 q5).2 q3).1 (nw_TI.mono ((((((((h.2).2).2 q10).1 q9).1 q7).1 q5).2 q3).2) (fun _ _ q_2 => And.intro q_2.1 (And.intro (fun q2 => ((q_2.2).1 q2)) (fun q2 => And.intro (by decide) (((q_2.2).2 q2))))))))))) (fun q5 => And.intro ((((((h.2).2).2 q10).1 q9).1 q7).2 q5).1 (And.intro ((((((h.2).2).2 q10).1 q9).1 q7).2 q5).1 (nw_TI.mono (((((((h.2).2).2 q10).1 q9).1 q7).2 q5).2) (fun _ _ q_3 => And.intro q_3.1 (And.intro (fun q4 => ((q_3.2).1 q4)) (fun q4 => And.intro (by decide) (((q_3.2).2 q4))))))))))) (fun q7 => And.intro (((((h.2).2).2 q10).1 q9).2 q7).1 (And.intro (((((h.2).2).2 q10).1 q9).2 q7).1 (nw_TI.mono ((((((h.2).2).2 q10).1 q9).2 q7).2) (fun _ _ q_4 => And.intro q_4.1 (And.intro (fun q6 => ((q_4.2).1 q6)) (fun q6 => And.intro (by decide) (((q_4.2).2 q6))))))))))) (fun q9 => And.intro ((((h.2).2).2 q10).2 q9).1 (And.intro ((((h.2).2).2 q10).2 q9).1 (nw_TI.mono (((((h.2).2).2 q10).2 q9).2) (fun _ _ q_5 => And.intro q_5.1 (And.intro (fun q8 => ((q_5.2).1 q8)) (fun q8 => And.intro (by decide) (((q_5.2).2 q8)))))))))))))
-- X5_breaks
set_option maxRecDepth 100000 in
theorem bk113_0 {G : nw_G} {Φ : Int → nw_S → Prop} {σ : nw_S} {x1 x2 x3 x4 x5 : Int} (h : nw_TI G 112 [.inl 26, .inr x1, .inr x2, .inr x3, .inr x4, .inr x5] σ (fun v1 u1 => (nw_r v1) ∧ ((v1 ≠ 0 → nw_TI G 80 [.inl 26] u1 (fun v2 u2 => nw_TI G 82 [.inl 26, .inr 1] u2 (fun v3 u3 => nw_TI G 82 [.inl 26, .inr 2] u3 (fun v4 u4 => Φ (nw_and v2 (nw_or v3 v4)) u4)))) ∧ (v1 = 0 → Φ (-1000001) u1)))) : nw_V G 113 (nw_pi Φ) 0 [some (.inl 26), some (.inr x1), some (.inr x2), some (.inr x3), some (.inr x4), some (.inr x5)] [] σ := nw_run (cd := nw_cd113) rfl [] 19 (h)
-- X5_score
set_option maxRecDepth 100000 in
theorem bk114_0 {G : nw_G} {Φ : Int → nw_S → Prop} {σ : nw_S} {x1 x2 x3 x4 x5 : Int} (h : nw_TI G 112 [.inl 26, .inr x1, .inr x2, .inr x3, .inr x4, .inr x5] σ (fun v1 u1 => (nw_r v1) ∧ ((v1 ≠ 0 → nw_TI G 80 [.inl 26] u1 (fun v2 u2 => nw_TI G 82 [.inl 26, .inr 2] u2 (fun v3 u3 => nw_TI G 85 [.inl 26, .inr v2, .inr v3] u3 (fun v4 u4 => Φ v4 u4)))) ∧ (v1 = 0 → Φ (-1000001) u1)))) : nw_V G 114 (nw_pi Φ) 0 [some (.inl 26), some (.inr x1), some (.inr x2), some (.inr x3), some (.inr x4), some (.inr x5)] [] σ := nw_run (cd := nw_cd114) rfl [] 16 (h)
end
section
/-! the machine's bits on numbers that are not negative -/
theorem nb_tb (a : Nat) : (Int32.ofInt (a : Int)).toBitVec = BitVec.ofNat 32 a := by
  rw [Int32.ofInt_eq_ofNat]
  rfl
theorem nb_toInt {x : Int32} (h : x.toBitVec.toNat < 2 ^ 31) : x.toInt = (x.toBitVec.toNat : Int) := by
  show x.toBitVec.toInt = _
  rw [BitVec.toInt_eq_toNat_cond, if_pos (by omega)]
theorem nb_and {a b : Nat} (ha : a < 2 ^ 31) (hb : b < 2 ^ 31) : nw_and (a : Int) (b : Int) = ((a &&& b : Nat) : Int) := by
  unfold nw_and
  have e : (Int32.ofInt (a : Int) &&& Int32.ofInt (b : Int)).toBitVec.toNat = a &&& b := by
    rw [Int32.toBitVec_and, nb_tb, nb_tb, BitVec.toNat_and, BitVec.toNat_ofNat, BitVec.toNat_ofNat, Nat.mod_eq_of_lt (by omega), Nat.mod_eq_of_lt (by omega)]
  rw [nb_toInt (by rw [e]; exact Nat.lt_of_le_of_lt Nat.and_le_left ha), e]
theorem nb_or {a b : Nat} (ha : a < 2 ^ 31) (hb : b < 2 ^ 31) : nw_or (a : Int) (b : Int) = ((a ||| b : Nat) : Int) := by
  unfold nw_or
  have e : (Int32.ofInt (a : Int) ||| Int32.ofInt (b : Int)).toBitVec.toNat = a ||| b := by
    rw [Int32.toBitVec_or, nb_tb, nb_tb, BitVec.toNat_or, BitVec.toNat_ofNat, BitVec.toNat_ofNat, Nat.mod_eq_of_lt (by omega), Nat.mod_eq_of_lt (by omega)]
  rw [nb_toInt (by rw [e]; exact Nat.or_lt_two_pow ha hb), e]
theorem nb_xor {a b : Nat} (ha : a < 2 ^ 31) (hb : b < 2 ^ 31) : nw_xor (a : Int) (b : Int) = ((a ^^^ b : Nat) : Int) := by
  unfold nw_xor
  have e : (Int32.ofInt (a : Int) ^^^ Int32.ofInt (b : Int)).toBitVec.toNat = a ^^^ b := by
    rw [Int32.toBitVec_xor, nb_tb, nb_tb, BitVec.toNat_xor, BitVec.toNat_ofNat, BitVec.toNat_ofNat, Nat.mod_eq_of_lt (by omega), Nat.mod_eq_of_lt (by omega)]
  rw [nb_toInt (by rw [e]; exact Nat.xor_lt_two_pow ha hb), e]
/-- a and not b -/
theorem nb_dif {a b : Nat} (ha : a < 4096) (hb : b < 4096) : nw_and (a : Int) (nw_xor (b : Int) (-1)) = ((a &&& (4095 ^^^ b) : Nat) : Int) := by
  have hx : Int32.ofInt (nw_xor (b : Int) (-1)) = Int32.ofInt (b : Int) ^^^ (-1) := by
    unfold nw_xor
    rw [Int32.ofInt_toInt]
    rfl
  unfold nw_and
  rw [hx]
  have e : (Int32.ofInt (a : Int) &&& (Int32.ofInt (b : Int) ^^^ (-1))).toBitVec.toNat = a &&& (4095 ^^^ b) := by
    rw [Int32.toBitVec_and, Int32.toBitVec_xor, nb_tb, nb_tb]
    have e1 : (-1 : Int32).toBitVec = BitVec.allOnes 32 := by decide
    rw [e1, BitVec.toNat_and, BitVec.toNat_xor, BitVec.toNat_allOnes, BitVec.toNat_ofNat, BitVec.toNat_ofNat, Nat.mod_eq_of_lt (by omega), Nat.mod_eq_of_lt (by omega)]
    apply Nat.eq_of_testBit_eq
    intro i
    rw [Nat.testBit_and, Nat.testBit_and, Nat.testBit_xor, Nat.testBit_xor]
    by_cases hi : i < 12
    · rw [Nat.testBit_two_pow_sub_one, show (4095 : Nat) = 2 ^ 12 - 1 from rfl, Nat.testBit_two_pow_sub_one]
      simp [hi, show i < 32 from by omega, Bool.xor_comm]
    · have : a.testBit i = false := Nat.testBit_lt_two_pow (Nat.lt_of_lt_of_le ha (Nat.pow_le_pow_right (show 0 < 2 by decide) (show 12 ≤ i by omega)))
      simp [this]
  rw [nb_toInt (by rw [e]; exact Nat.lt_of_le_of_lt Nat.and_le_left (by omega)), e]
theorem nb_sh31 {r : Nat} (h : r < 32) : (Int32.ofInt (r : Int) &&& 31) = Int32.ofInt (r : Int) := by
  have h0 : ∀ q : Nat, q < 32 → (Int32.ofInt (q : Int) &&& 31) = Int32.ofInt (q : Int) := by decide +kernel
  exact h0 r h
theorem nb_smod {r : Nat} (h : r < 32) : ((Int32.ofInt (r : Int)).toBitVec.smod 32).toNat = r := by
  have h0 : ∀ q : Nat, q < 32 → ((Int32.ofInt (q : Int)).toBitVec.smod 32).toNat = q := by decide +kernel
  exact h0 r h
theorem nb_shl {r : Nat} (h : r < 31) : nw_shl 1 (r : Int) = ((2 ^ r : Nat) : Int) := by
  have h0 : ∀ q : Nat, q < 31 → nw_shl 1 (q : Int) = ((2 ^ q : Nat) : Int) := by decide +kernel
  exact h0 r h
theorem nb_shr {a r : Nat} (ha : a < 2 ^ 31) (h : r < 32) : nw_shr (a : Int) (r : Int) = ((a / 2 ^ r : Nat) : Int) := by
  unfold nw_shr
  rw [nb_sh31 h]
  have := pk_shr (Int32.ofInt (a : Int)) (Int32.ofInt (r : Int)) r (nb_smod h)
  rw [this, nw_toInt ⟨by omega, by omega⟩]
  rw [Int.shiftRight_eq_div_pow]
  norm_cast
theorem nb_bit {a r : Nat} (ha : a < 2 ^ 31) (h : r < 32) : nw_and (nw_shr (a : Int) (r : Int)) 1 = if a.testBit r then 1 else 0 := by
  rw [nb_shr ha h]
  have h1 : a / 2 ^ r < 2 ^ 31 := Nat.lt_of_le_of_lt (Nat.div_le_self _ _) ha
  have := nb_and (a := a / 2 ^ r) (b := 1) h1 (by decide)
  rw [show ((1 : Nat) : Int) = 1 from rfl] at this
  rw [this, Nat.and_one_is_mod, Nat.testBit_eq_decide_div_mod_eq]
  rcases Nat.mod_two_eq_zero_or_one (a / 2 ^ r) with q | q <;> simp [q]
end
section
/-! the document's words, on whole numbers -/
/-- choices; candidates of each; worths (6c + k); rules; field i of rule r: 0 kind, 1 a, 2 b, 3 n, 4 weight, 5 mode -/
abbrev nd_D : Type := Nat × (Nat → Nat) × (Nat → Int) × Nat × (Nat → Nat → Int)
def nd_n (D : nd_D) : Nat := D.1
def nd_m (D : nd_D) : Nat → Nat := D.2.1
def nd_w (D : nd_D) : Nat → Int := D.2.2.1
def nd_r (D : nd_D) : Nat := D.2.2.2.1
def nd_f (D : nd_D) : Nat → Nat → Int := D.2.2.2.2
def nd_pl (m : Nat → Nat) : Nat → Nat
  | 0 => 1
  | n + 1 => nd_pl m n * m n
/-- by how much a plan's number grows from one candidate of choice c to the next -/
def nd_sp (m : Nat → Nat) : Nat → Nat → Nat
  | 0, _ => 1
  | n + 1, c => if c < n then nd_sp m n c * m n else 1
def nd_dg (m : Nat → Nat) (n p c : Nat) : Nat := p / nd_sp m n c % m c
def nd_ct (x : Nat → Nat) (a : Int) : Nat → Int
  | 0 => 0
  | c + 1 => nd_ct x a c + (if (x c : Int) = a then 1 else 0)
def nd_sm (x : Nat → Nat) : Nat → Int
  | 0 => 0
  | c + 1 => nd_sm x c + (x c : Int)
/-- a rule (its fields are g) is kept by what x takes for the n choices -/
def nd_kp (n : Nat) (x : Nat → Nat) (g : Nat → Int) : Bool :=
  if g 0 = 0 then decide (nw_and (nw_shr (g 3) (x (g 1).toNat)) 1 = 1)
  else if g 0 = 1 then decide ((x (g 1).toNat : Int) ≠ x (g 2).toNat)
  else if g 0 = 2 then decide ((x (g 1).toNat : Int) = x (g 2).toNat)
  else if g 0 = 3 then decide ((x (g 1).toNat : Int) + g 3 ≤ x (g 2).toNat)
  else if g 0 = 4 then decide ((x (g 1).toNat : Int) - x (g 2).toNat ≤ g 3 ∧ (x (g 2).toNat : Int) - x (g 1).toNat ≤ g 3)
  else if g 0 = 5 then decide ((x (g 1).toNat : Int) ≠ g 3 / 8 ∨ (x (g 2).toNat : Int) = g 3 % 8)
  else if g 0 = 6 then decide (nd_ct x (g 1) n ≤ g 3)
  else if g 0 = 7 then decide (g 3 ≤ nd_ct x (g 1) n)
  else decide (g 1 ≤ nd_sm x n ∧ nd_sm x n ≤ g 2)
/-- the rules before r that x breaks, as a set -/
def nd_bs (n : Nat) (x : Nat → Nat) (f : Nat → Nat → Int) : Nat → Nat
  | 0 => 0
  | r + 1 => nd_bs n x f r + (if nd_kp n x (fun i => f i r) then 0 else 2 ^ r)
/-- the rules before r of a mode, as a set -/
def nd_md (f : Nat → Nat → Int) (k : Int) : Nat → Nat
  | 0 => 0
  | r + 1 => nd_md f k r + (if f 5 r = k then 2 ^ r else 0)
/-- what a set costs -/
def nd_co (f : Nat → Nat → Int) (s : Nat) : Nat → Int
  | 0 => 0
  | r + 1 => nd_co f s r + (if s.testBit r then f 4 r else 0)
def nd_ws (w : Nat → Int) (x : Nat → Nat) : Nat → Int
  | 0 => 0
  | c + 1 => nd_ws w x c + w (6 * c + x c)
def nd_P (D : nd_D) : Nat := nd_pl (nd_m D) (nd_n D)
def nd_x (D : nd_D) (p : Nat) : Nat → Nat := nd_dg (nd_m D) (nd_n D) p
def nd_B (D : nd_D) (p : Nat) : Nat := nd_bs (nd_n D) (nd_x D p) (nd_f D) (nd_r D)
def nd_M (D : nd_D) (k : Int) : Nat := nd_md (nd_f D) k (nd_r D)
def nd_C (D : nd_D) (s : Nat) : Int := nd_co (nd_f D) s (nd_r D)
def nd_U (D : nd_D) (p : Nat) : Int := nd_ws (nd_w D) (nd_x D p) (nd_n D)
/-- the score of plan p, where soft is the set of soft rules -/
def nd_sc (D : nd_D) (soft p : Nat) : Int := nd_U D p - nd_C D (nd_B D p &&& soft)
/-- a rule is as said -/
def nd_ok (n : Nat) (g : Nat → Int) : Prop := (∀ i, i < 6 → nw_r (g i)) ∧ (0 ≤ g 0 ∧ g 0 ≤ 8) ∧ (g 0 ≤ 5 → 0 ≤ g 1 ∧ g 1 < n) ∧ (1 ≤ g 0 → g 0 ≤ 5 → 0 ≤ g 2 ∧ g 2 < n) ∧ (g 0 = 0 → 0 ≤ g 3 ∧ g 3 ≤ 63) ∧ (g 0 = 3 → -5 ≤ g 3 ∧ g 3 ≤ 5) ∧ (g 0 = 5 → 0 ≤ g 3 ∧ g 3 ≤ 63) ∧ (1 ≤ g 4 ∧ g 4 ≤ 1000) ∧ (0 ≤ g 5 ∧ g 5 ≤ 2)
def nd_wf (D : nd_D) : Prop := nd_n D ≤ 5 ∧ (∀ c, c < nd_n D → 1 ≤ nd_m D c ∧ nd_m D c ≤ 6) ∧ (∀ i, -1000 ≤ nd_w D i ∧ nd_w D i ≤ 1000) ∧ (∀ i, 6 * nd_n D ≤ i → nd_w D i = 0) ∧ nd_r D ≤ 12 ∧ (∀ r, r < nd_r D → nd_ok (nd_n D) (fun i => nd_f D i r))
/-! first facts -/
theorem nd_pl_le {m : Nat → Nat} : ∀ n : Nat, (∀ c, c < n → 1 ≤ m c ∧ m c ≤ 6) → 1 ≤ nd_pl m n ∧ nd_pl m n ≤ 6 ^ n
  | 0, _ => ⟨Nat.le_refl _, Nat.le_refl _⟩
  | n + 1, h => by
    obtain ⟨h1, h2⟩ := nd_pl_le n (fun c hc => h c (by omega))
    obtain ⟨h3, h4⟩ := h n (by omega)
    refine ⟨Nat.mul_le_mul h1 h3, ?_⟩
    show nd_pl m n * m n ≤ 6 ^ (n + 1)
    rw [Nat.pow_succ]
    exact Nat.mul_le_mul h2 h4
theorem nd_P_le {D : nd_D} (h : nd_wf D) : 1 ≤ nd_P D ∧ nd_P D ≤ 7776 := by
  obtain ⟨h1, h2⟩ := nd_pl_le (nd_n D) h.2.1
  refine ⟨h1, Nat.le_trans h2 ?_⟩
  exact Nat.le_trans (Nat.pow_le_pow_right (by decide) h.1) (by decide)
theorem nd_sp_pos {m : Nat → Nat} : ∀ (n c : Nat), (∀ c, c < n → 1 ≤ m c ∧ m c ≤ 6) → 1 ≤ nd_sp m n c ∧ nd_sp m n c ≤ 6 ^ n
  | 0, c, _ => ⟨Nat.le_refl _, Nat.le_refl _⟩
  | n + 1, c, h => by
    obtain ⟨h1, h2⟩ := nd_sp_pos n c (fun c hc => h c (by omega))
    obtain ⟨h3, h4⟩ := h n (by omega)
    unfold nd_sp
    split
    · refine ⟨Nat.mul_le_mul h1 h3, ?_⟩
      rw [Nat.pow_succ]
      exact Nat.mul_le_mul h2 h4
    · exact ⟨Nat.le_refl _, Nat.one_le_pow _ _ (by decide)⟩
theorem nd_sp_le {D : nd_D} (h : nd_wf D) (c : Nat) : 1 ≤ nd_sp (nd_m D) (nd_n D) c ∧ nd_sp (nd_m D) (nd_n D) c ≤ 7776 := by
  obtain ⟨h1, h2⟩ := nd_sp_pos (nd_n D) c h.2.1
  refine ⟨h1, Nat.le_trans h2 ?_⟩
  exact Nat.le_trans (Nat.pow_le_pow_right (by decide) h.1) (by decide)
theorem nd_x_lt {D : nd_D} (h : nd_wf D) {p c : Nat} (hc : c < nd_n D) : nd_x D p c < nd_m D c ∧ nd_x D p c < 6 := by
  obtain ⟨h1, h2⟩ := h.2.1 c hc
  have : nd_x D p c < nd_m D c := Nat.mod_lt _ h1
  exact ⟨this, by omega⟩
theorem nd_bs_lt (n : Nat) (x : Nat → Nat) (f : Nat → Nat → Int) : ∀ r, nd_bs n x f r < 2 ^ r
  | 0 => by simp [nd_bs]
  | r + 1 => by
    have := nd_bs_lt n x f r
    unfold nd_bs
    rw [Nat.pow_succ]
    split <;> omega
theorem nd_md_lt (f : Nat → Nat → Int) (k : Int) : ∀ r, nd_md f k r < 2 ^ r
  | 0 => by simp [nd_md]
  | r + 1 => by
    have := nd_md_lt f k r
    unfold nd_md
    rw [Nat.pow_succ]
    split <;> omega
theorem nd_pw {r : Nat} (h : r ≤ 12) : 2 ^ r ≤ 4096 := Nat.le_trans (Nat.pow_le_pow_right (by decide) h) (by decide)
theorem nd_B_lt {D : nd_D} (h : nd_wf D) (p : Nat) : nd_B D p < 2 ^ nd_r D ∧ nd_B D p < 4096 := by
  have h1 := nd_bs_lt (nd_n D) (nd_x D p) (nd_f D) (nd_r D)
  exact ⟨h1, Nat.lt_of_lt_of_le h1 (nd_pw h.2.2.2.2.1)⟩
theorem nd_M_lt {D : nd_D} (h : nd_wf D) (k : Int) : nd_M D k < 2 ^ nd_r D ∧ nd_M D k < 4096 := by
  have h1 := nd_md_lt (nd_f D) k (nd_r D)
  exact ⟨h1, Nat.lt_of_lt_of_le h1 (nd_pw h.2.2.2.2.1)⟩
theorem nd_co_le {D : nd_D} (h : nd_wf D) (s : Nat) : ∀ r, r ≤ nd_r D → 0 ≤ nd_co (nd_f D) s r ∧ nd_co (nd_f D) s r ≤ 1000 * r
  | 0, _ => by simp [nd_co]
  | r + 1, hr => by
    obtain ⟨h1, h2⟩ := nd_co_le h s r (by omega)
    have h3 := (h.2.2.2.2.2 r (by omega)).2.2.2.2.2.2.2.1
    dsimp only at h3
    unfold nd_co
    split <;> constructor <;> push_cast <;> omega
theorem nd_C_le {D : nd_D} (h : nd_wf D) (s : Nat) : 0 ≤ nd_C D s ∧ nd_C D s ≤ 12000 := by
  obtain ⟨h1, h2⟩ := nd_co_le h s (nd_r D) (Nat.le_refl _)
  have := h.2.2.2.2.1
  exact ⟨h1, by unfold nd_C; omega⟩
theorem nd_ws_le {w : Nat → Int} (hw : ∀ i, -1000 ≤ w i ∧ w i ≤ 1000) (x : Nat → Nat) : ∀ n : Nat, -1000 * (n : Int) ≤ nd_ws w x n ∧ nd_ws w x n ≤ 1000 * (n : Int)
  | 0 => by simp [nd_ws]
  | n + 1 => by
    obtain ⟨h1, h2⟩ := nd_ws_le hw x n
    have h3 := hw (6 * n + x n)
    unfold nd_ws
    constructor <;> push_cast <;> omega
theorem nd_U_le {D : nd_D} (h : nd_wf D) (p : Nat) : -5000 ≤ nd_U D p ∧ nd_U D p ≤ 5000 := by
  obtain ⟨h1, h2⟩ := nd_ws_le h.2.2.1 (nd_x D p) (nd_n D)
  have := h.1
  constructor <;> unfold nd_U <;> omega
theorem nd_sc_le {D : nd_D} (h : nd_wf D) (soft p : Nat) : -17000 ≤ nd_sc D soft p ∧ nd_sc D soft p ≤ 5000 := by
  have h1 := nd_U_le h p
  have h2 := nd_C_le h (nd_B D p &&& soft)
  constructor <;> unfold nd_sc <;> omega
/-- one bit more -/
theorem nd_or {a r : Nat} (ha : a < 2 ^ r) (hr : r < 31) : nw_or (a : Int) (nw_shl 1 (r : Int)) = ((a + 2 ^ r : Nat) : Int) := by
  have h2 : 2 ^ r < 2 ^ 31 := Nat.pow_lt_pow_right (by decide) hr
  rw [nb_shl hr, nb_or (Nat.lt_trans ha h2) h2]
  congr 1
  rw [Nat.or_comm, Nat.add_comm]
  have := Nat.two_pow_add_eq_or_of_lt ha 1
  simpa using this.symm
theorem nd_or0 {a : Nat} (ha : a < 2 ^ 31) : nw_or (a : Int) 0 = (a : Int) := by
  have := nb_or (a := a) (b := 0) ha (by decide)
  simpa using this
end
section
section NC1
variable {G : nw_G} {σ : nw_S} {D : nd_D}
/-! the pictures: what the class's cells hold of the document D -/
def nc_ch (D : nd_D) (σ : nw_S) : Prop := σ 1 0 = nd_n D ∧ σ 1 1 = nd_P D ∧ (∀ c, c < nd_n D → σ 2 c = nd_m D c) ∧ (∀ c, c < nd_n D → σ 3 c = nd_sp (nd_m D) (nd_n D) c) ∧ (∀ i, i < 30 → σ 4 i = nd_w D i)
def nc_ru (D : nd_D) (σ : nw_S) : Prop := σ 6 0 = nd_r D ∧ ∀ i r, i < 6 → r < nd_r D → σ (7 + i) r = nd_f D i r
def nc_mo (D : nd_D) (σ : nw_S) : Prop := σ 26 0 = nd_n D ∧ σ 26 3 = nd_r D ∧ (∀ c, c < nd_n D → σ 27 c = nd_m D c) ∧ (∀ i, i < 30 → σ 28 i = nd_w D i) ∧ ∀ i r, i < 6 → r < nd_r D → σ (29 + i) r = nd_f D i r
theorem c1 {Φ : Int → nw_S → Prop} {x1 : Int} (hr : nw_r x1) (h2 : nw_r (σ 1 0)) (ht : 0 ≤ x1 → x1 < σ 1 0 → Φ 1 σ) (hf : x1 < 0 ∨ σ 1 0 ≤ x1 → Φ 0 σ) : nw_TI G 1 [.inl 1, .inr x1] σ Φ :=
  nw_TI_of (by decide) (Nat.le_of_ble_eq_true rfl) (bk1_0 ⟨hr, fun q => hf (Or.inl q), fun q => ⟨h2, fun q2 => hf (Or.inr q2), fun q2 => ht q q2⟩⟩)
theorem c2 {Φ : Int → nw_S → Prop} (hw : nd_wf D) (hC : nc_ch D σ) {x1 x2 : Int} (h1 : nw_r x1) (h2 : nw_r x2) (ht : ∀ c k : Nat, x1 = c → x2 = k → c < nd_n D → k < nd_m D c → Φ 1 σ) (hf : (∀ c k : Nat, x1 = c → x2 = k → c < nd_n D → ¬ k < nd_m D c) → Φ 0 σ) : nw_TI G 2 [.inl 1, .inr x1, .inr x2] σ Φ := by
  have hn := hw.1
  have e := hC.1
  refine nw_TI_of (by decide) (Nat.le_of_ble_eq_true rfl) (bk2_0 (c1 h1 (by omega) (fun a b => ?_) (fun a => ?_)))
  · refine ⟨by decide, fun q => absurd q (by decide), fun _ => ⟨h2, fun q => hf (fun c k _ hk => by omega), fun q => ?_⟩⟩
    have hcn : x1.toNat < nd_n D := by omega
    have hm := hw.2.1 _ hcn
    have em := hC.2.2.1 _ hcn
    refine ⟨by omega, by omega, fun q2 => hf (fun c k hc hk hcn2 => ?_), fun q2 => ht x1.toNat x2.toNat (by omega) (by omega) hcn (by omega)⟩
    have : x1.toNat = c := by omega
    rw [this] at em q2
    omega
  · exact ⟨by decide, fun _ => hf (fun c k hc hk hcn => by omega), fun q => absurd rfl q⟩
theorem c5 {Φ : Int → nw_S → Prop} (hw : nd_wf D) (hC : nc_ch D σ) {x1 x2 : Int} {p c : Nat} (h1 : x1 = p) (h2 : x2 = c) (hp : p < 7776) (hc : c < nd_n D) (h : Φ (nd_x D p c) σ) : nw_TI G 5 [.inl 1, .inr x1, .inr x2] σ Φ := by
  subst h1
  subst h2
  have hn := hw.1
  have hm := hw.2.1 c hc
  have hs := nd_sp_le hw c
  have em := hC.2.2.1 c hc
  have es := hC.2.2.2.1 c hc
  refine nw_TI_of (by decide) (Nat.le_of_ble_eq_true rfl) (bk5_0 ?_)
  simp only [Int.toNat_natCast]
  rw [em, es]
  refine ⟨by omega, by omega, fun q => by omega, fun _ => ⟨by omega, fun _ => ⟨by omega, ?_, ?_⟩, fun q => by omega⟩⟩
  · have : ((p : Int) / (nd_sp (nd_m D) (nd_n D) c : Int)) = ((p / nd_sp (nd_m D) (nd_n D) c : Nat) : Int) := by norm_cast
    rw [this]
    have := Nat.div_le_self p (nd_sp (nd_m D) (nd_n D) c)
    generalize p / nd_sp (nd_m D) (nd_n D) c = q at this ⊢
    omega
  · have : ((p : Int) / (nd_sp (nd_m D) (nd_n D) c : Int)) % (nd_m D c : Int) = ((p / nd_sp (nd_m D) (nd_n D) c % nd_m D c : Nat) : Int) := by norm_cast
    rw [this]
    exact h
theorem c13 {Φ : Int → nw_S → Prop} {x1 : Int} (hr : nw_r x1) (h2 : nw_r (σ 6 0)) (ht : 0 ≤ x1 → x1 < σ 6 0 → Φ 1 σ) (hf : x1 < 0 ∨ σ 6 0 ≤ x1 → Φ 0 σ) : nw_TI G 13 [.inl 6, .inr x1] σ Φ :=
  nw_TI_of (by decide) (Nat.le_of_ble_eq_true rfl) (bk13_0 ⟨hr, fun q => hf (Or.inl q), fun q => ⟨h2, fun q2 => hf (Or.inr q2), fun q2 => ht q q2⟩⟩)
theorem c14 {Φ : Int → nw_S → Prop} {r : Nat} (e : σ 6 0 = r) (hr : r < 31) (h : Φ ((2 ^ r : Nat) : Int) σ) : nw_TI G 14 [.inl 6] σ Φ := by
  refine nw_TI_of (by decide) (Nat.le_of_ble_eq_true rfl) (bk14_0 ?_)
  rw [e, nb_shl hr]
  exact h
theorem l17 {Φ : Int → nw_S → Prop} (hw : nd_wf D) (hC : nc_ru D σ) {x1 : Int} (hr : nw_r x1) (h : Φ (nd_M D x1) σ) : ∀ (k i : Nat) (x2 x3 : Int), i + k = nd_r D → x3 = i → x2 = (nd_md (nd_f D) x1 i : Nat) → nw_V G 17 (nw_pi Φ) 4 [some (.inl 6), some (.inr x1), some (.inr x2), some (.inr x3)] [] σ := by
  have hR := hw.2.2.2.2.1
  have e := hC.1
  intro k
  induction k with
  | zero =>
    intro i x2 x3 hi h3 h2
    subst h3
    subst h2
    refine bk17_4 ⟨by omega, by omega, fun _ => ?_, fun q => by omega⟩
    rw [show i = nd_r D from by omega]
    exact h
  | succ k ih =>
    intro i x2 x3 hi h3 h2
    subst h3
    subst h2
    have ef := hC.2 5 i (by omega) (by omega)
    have ok := (hw.2.2.2.2.2 i (by omega)).1 5 (by omega)
    dsimp only at ok
    have hlt := nd_md_lt (nd_f D) x1 i
    refine bk17_4 ⟨by omega, by omega, fun q => by omega, fun _ => ⟨by omega, ?_⟩⟩
    simp only [Int.toNat_natCast]
    rw [ef]
    refine ⟨ok, hr, fun q => ih (i + 1) _ _ (by omega) (by omega) ?_, fun q => ih (i + 1) _ _ (by omega) (by omega) ?_⟩
    · simp [nd_md, q]
    · rw [nd_or hlt (by omega)]
      simp [nd_md, q]
theorem c17 {Φ : Int → nw_S → Prop} (hw : nd_wf D) (hC : nc_ru D σ) {x1 : Int} (hr : nw_r x1) (h : Φ (nd_M D x1) σ) : nw_TI G 17 [.inl 6, .inr x1] σ Φ :=
  nw_TI_of (by decide) (Nat.le_of_ble_eq_true rfl) (bk17_0 (l17 hw hC hr h (nd_r D) 0 _ _ (by omega) rfl rfl))
theorem l82 {Φ : Int → nw_S → Prop} (hw : nd_wf D) (hC : nc_mo D σ) {x1 : Int} (hr : nw_r x1) (h : Φ (nd_M D x1) σ) : ∀ (k i : Nat) (x2 x3 : Int), i + k = nd_r D → x3 = i → x2 = (nd_md (nd_f D) x1 i : Nat) → nw_V G 82 (nw_pi Φ) 4 [some (.inl 26), some (.inr x1), some (.inr x2), some (.inr x3)] [] σ := by
  have hR := hw.2.2.2.2.1
  have e := hC.2.1
  intro k
  induction k with
  | zero =>
    intro i x2 x3 hi h3 h2
    subst h3
    subst h2
    refine bk82_4 ⟨by omega, by omega, fun _ => ?_, fun q => by omega⟩
    rw [show i = nd_r D from by omega]
    exact h
  | succ k ih =>
    intro i x2 x3 hi h3 h2
    subst h3
    subst h2
    have ef := hC.2.2.2.2 5 i (by omega) (by omega)
    have ok := (hw.2.2.2.2.2 i (by omega)).1 5 (by omega)
    dsimp only at ok
    have hlt := nd_md_lt (nd_f D) x1 i
    have hp2 := nd_pw (r := i) (by omega)
    refine bk82_4 ⟨by omega, by omega, fun q => by omega, fun _ => ⟨by omega, ?_⟩⟩
    simp only [Int.toNat_natCast]
    rw [ef]
    refine ⟨ok, hr, fun q => ih (i + 1) _ _ (by omega) (by omega) ?_, fun q => ih (i + 1) _ _ (by omega) (by omega) ?_⟩
    · rw [nd_or0 (by omega)]
      simp [nd_md, q]
    · rw [nd_or hlt (by omega)]
      simp [nd_md, q]
theorem c82 {Φ : Int → nw_S → Prop} (hw : nd_wf D) (hC : nc_mo D σ) {x1 : Int} (hr : nw_r x1) (h : Φ (nd_M D x1) σ) : nw_TI G 82 [.inl 26, .inr x1] σ Φ :=
  nw_TI_of (by decide) (Nat.le_of_ble_eq_true rfl) (bk82_0 (l82 hw hC hr h (nd_r D) 0 _ _ (by omega) rfl rfl))
end NC1
end
section
section NC2
variable {G : nw_G} {σ : nw_S} {D : nd_D}
theorem nb_r (x : Int32) : nw_r x.toInt := ⟨x.le_toInt, x.toInt_lt⟩
theorem nb_rand (a b : Int) : nw_r (nw_and a b) := nb_r _
theorem nd_sm_le {x : Nat → Nat} : ∀ n : Nat, (∀ c, c < n → x c < 6) → 0 ≤ nd_sm x n ∧ nd_sm x n ≤ 5 * n
  | 0, _ => by simp [nd_sm]
  | n + 1, h => by
    obtain ⟨h1, h2⟩ := nd_sm_le n (fun c hc => h c (by omega))
    have h3 := h n (by omega)
    unfold nd_sm
    omega
theorem nd_ct_le {x : Nat → Nat} {a : Int} : ∀ n : Nat, 0 ≤ nd_ct x a n ∧ nd_ct x a n ≤ n
  | 0 => by simp [nd_ct]
  | n + 1 => by
    obtain ⟨h1, h2⟩ := nd_ct_le (x := x) (a := a) n
    unfold nd_ct
    split <;> omega
theorem c20 {Φ : Int → nw_S → Prop} {x : Nat → Nat} {n : Nat} (hn : n ≤ 5) (hx : ∀ c, c < n → σ 15 c = x c ∧ x c < 6) {x0 x2 : Int} (h0 : nw_r x0) (h2 : x2 = n) (h : Φ (nd_ct x x0 n) σ) : nw_TI G 20 [.inr x0, .inl 15, .inr x2] σ Φ := by
  subst h2
  have key : ∀ (k i : Nat) (x3 x4 : Int), i + k = n → x4 = i → x3 = nd_ct x x0 i → nw_V G 20 (nw_pi Φ) 5 [some (.inr x0), some (.inl 15), some (.inr (n : Int)), some (.inr x3), some (.inr x4)] [] σ := by
    intro k
    induction k with
    | zero =>
      intro i x3 x4 hi h4 h3
      subst h4
      refine bk20_5 ⟨by omega, by omega, fun _ => ?_, fun q => by omega⟩
      rw [h3, show i = n from by omega]
      exact h
    | succ k ih =>
      intro i x3 x4 hi h4 h3
      subst h4
      obtain ⟨e, l⟩ := hx i (by omega)
      refine bk20_5 ⟨by omega, by omega, fun q => by omega, fun _ => ⟨by omega, ?_⟩⟩
      simp only [Int.toNat_natCast]
      rw [e]
      refine ⟨by omega, h0, fun q => ih (i + 1) _ _ (by omega) (by omega) ?_, fun q => ih (i + 1) _ _ (by omega) (by omega) ?_⟩
      · simp [nd_ct, q, h3]
      · simp [nd_ct, q, h3]
  exact nw_TI_of (by decide) (Nat.le_of_ble_eq_true rfl) (bk20_0 (key n 0 _ _ (by omega) rfl rfl))
theorem c21 {Φ : Int → nw_S → Prop} {x : Nat → Nat} {n : Nat} (hn : n ≤ 5) (hx : ∀ c, c < n → σ 15 c = x c ∧ x c < 6) {x1 : Int} (h1 : x1 = n) (h : Φ (nd_sm x n) σ) : nw_TI G 21 [.inl 15, .inr x1] σ Φ := by
  subst h1
  have key : ∀ (k i : Nat) (x2 x3 : Int), i + k = n → x3 = i → x2 = nd_sm x i → nw_V G 21 (nw_pi Φ) 4 [some (.inl 15), some (.inr (n : Int)), some (.inr x2), some (.inr x3)] [] σ := by
    intro k
    induction k with
    | zero =>
      intro i x2 x3 hi h3 h2
      subst h3
      refine bk21_4 ⟨by omega, by omega, fun _ => ?_, fun q => by omega⟩
      rw [h2, show i = n from by omega]
      exact h
    | succ k ih =>
      intro i x2 x3 hi h3 h2
      subst h3
      obtain ⟨e, l⟩ := hx i (by omega)
      refine bk21_4 ⟨by omega, by omega, fun q => by omega, fun _ => ⟨by omega, ih (i + 1) _ _ (by omega) (by omega) ?_⟩⟩
      simp only [Int.toNat_natCast]
      rw [e, h2]
      rfl
  exact nw_TI_of (by decide) (Nat.le_of_ble_eq_true rfl) (bk21_0 (key n 0 _ _ (by omega) rfl rfl))
set_option maxHeartbeats 4000000 in
theorem c19 {Φ : Int → nw_S → Prop} (hw : nd_wf D) (hC : nc_ru D σ) {x : Nat → Nat} (hx : ∀ c, c < nd_n D → σ 15 c = x c ∧ x c < 6) {x1 x3 : Int} {r : Nat} (h1 : x1 = r) (hr : r < nd_r D) (h3 : x3 = nd_n D) (ht : nd_kp (nd_n D) x (fun i => nd_f D i r) = true → Φ 1 σ) (hf : nd_kp (nd_n D) x (fun i => nd_f D i r) = false → Φ 0 σ) : nw_TI G 19 [.inl 6, .inr x1, .inl 15, .inr x3] σ Φ := by
  subst h1
  subst h3
  have e0 : σ 7 r = nd_f D 0 r := hC.2 0 r (by omega) hr
  have e1 : σ 8 r = nd_f D 1 r := hC.2 1 r (by omega) hr
  have e2 : σ 9 r = nd_f D 2 r := hC.2 2 r (by omega) hr
  have e3 : σ 10 r = nd_f D 3 r := hC.2 3 r (by omega) hr
  have hok := hw.2.2.2.2.2 r hr
  dsimp only [nd_ok] at hok
  obtain ⟨k1, k2, k3, k4, k5, k6, k7, -, -⟩ := hok
  have r1 := k1 1 (by omega)
  have r2 := k1 2 (by omega)
  have r3 := k1 3 (by omega)
  have hn := hw.1
  have hR := hw.2.2.2.2.1
  have hsm := nd_sm_le (x := x) (nd_n D) (fun c hc => (hx c hc).2)
  have hct := nd_ct_le (x := x) (a := nd_f D 1 r) (nd_n D)
  have ha : nd_f D 0 r ≤ 5 → σ 15 (nd_f D 1 r).toNat = x (nd_f D 1 r).toNat ∧ x (nd_f D 1 r).toNat < 6 ∧ 0 ≤ nd_f D 1 r ∧ nd_f D 1 r < 5 := fun q => by
    have := k3 q
    have h := hx (nd_f D 1 r).toNat (by omega)
    exact ⟨h.1, h.2, by omega, by omega⟩
  have hb : 1 ≤ nd_f D 0 r → nd_f D 0 r ≤ 5 → σ 15 (nd_f D 2 r).toNat = x (nd_f D 2 r).toNat ∧ x (nd_f D 2 r).toNat < 6 ∧ 0 ≤ nd_f D 2 r ∧ nd_f D 2 r < 5 := fun q q' => by
    have := k4 q q'
    have h := hx (nd_f D 2 r).toNat (by omega)
    exact ⟨h.1, h.2, by omega, by omega⟩
  refine nw_TI_of (by decide) (Nat.le_of_ble_eq_true rfl) (bk19_0 ?_)
  simp only [Int.toNat_natCast, e0, e1, e2, e3]
  refine ⟨by omega, k1 0 (by omega), fun q => ?_, fun q => ?_, fun q => ?_, fun q => ?_, fun q => ?_, fun q => ?_, fun q => ?_, fun q => ?_, fun q => ?_⟩
  · have q8 : nd_f D 0 r = 8 := by omega
    refine c21 hn hx rfl ⟨by omega, r1, fun q2 => hf ?_, fun q2 => ⟨r2, fun q3 => hf ?_, fun q3 => ht ?_⟩⟩
    · simp [nd_kp, q8]; omega
    · simp [nd_kp, q8]; omega
    · simp [nd_kp, q8]; omega
  · obtain ⟨a1, a2, a3, a4⟩ := ha (by omega)
    rw [a1]
    refine ⟨by omega, nb_rand _ _, fun q2 => hf ?_, fun q2 => ht ?_⟩
    · simp [nd_kp, q, q2]
    · simp [nd_kp, q, q2]
  · obtain ⟨a1, a2, a3, a4⟩ := ha (by omega)
    obtain ⟨b1, b2, b3, b4⟩ := hb (by omega) (by omega)
    rw [a1, b1]
    refine ⟨by omega, by omega, by omega, by omega, fun q2 => hf ?_, fun q2 => ht ?_⟩
    · simp [nd_kp, q]; omega
    · simp [nd_kp, q]; omega
  · obtain ⟨a1, a2, a3, a4⟩ := ha (by omega)
    obtain ⟨b1, b2, b3, b4⟩ := hb (by omega) (by omega)
    rw [a1, b1]
    refine ⟨by omega, by omega, by omega, by omega, fun q2 => hf ?_, fun q2 => ht ?_⟩
    · simp [nd_kp, q]; omega
    · simp [nd_kp, q]; omega
  · obtain ⟨a1, a2, a3, a4⟩ := ha (by omega)
    obtain ⟨b1, b2, b3, b4⟩ := hb (by omega) (by omega)
    have := k6 q
    rw [a1, b1]
    refine ⟨by omega, by omega, by omega, by omega, fun q2 => hf ?_, fun q2 => ht ?_⟩
    · simp [nd_kp, q]; omega
    · simp [nd_kp, q]; omega
  · obtain ⟨a1, a2, a3, a4⟩ := ha (by omega)
    obtain ⟨b1, b2, b3, b4⟩ := hb (by omega) (by omega)
    rw [a1, b1]
    refine ⟨by omega, by omega, by omega, ?_, r3, fun q2 => hf ?_, fun q2 => ht ?_⟩
    · split <;> omega
    · simp [nd_kp, q]
      split at q2 <;> omega
    · simp [nd_kp, q]
      split at q2 <;> omega
  · obtain ⟨a1, a2, a3, a4⟩ := ha (by omega)
    obtain ⟨b1, b2, b3, b4⟩ := hb (by omega) (by omega)
    have := k7 q
    rw [a1, b1]
    refine ⟨by omega, by omega, by omega, by omega, fun q2 => ht ?_, fun q2 => ⟨by omega, by omega, by omega, fun q3 => hf ?_, fun q3 => ht ?_⟩⟩
    · simp [nd_kp, q]; omega
    · simp [nd_kp, q]; omega
    · simp [nd_kp, q]; omega
  · refine c20 hn hx r1 rfl ⟨by omega, r3, fun q2 => hf ?_, fun q2 => ht ?_⟩
    · simp [nd_kp, q]; omega
    · simp [nd_kp, q]; omega
  · refine c20 hn hx r1 rfl ⟨by omega, r3, fun q2 => hf ?_, fun q2 => ht ?_⟩
    · simp [nd_kp, q]; omega
    · simp [nd_kp, q]; omega
set_option maxHeartbeats 4000000 in
theorem c79 {Φ : Int → nw_S → Prop} (hw : nd_wf D) (hC : nc_mo D σ) {x : Nat → Nat} (hx : ∀ c, c < nd_n D → σ 37 c = x c ∧ x c < 6) {x1 : Int} {r : Nat} (h1 : x1 = r) (hr : r < nd_r D) (ht : nd_kp (nd_n D) x (fun i => nd_f D i r) = true → Φ 1 σ) (hf : nd_kp (nd_n D) x (fun i => nd_f D i r) = false → Φ 0 σ) : nw_TI G 79 [.inl 26, .inr x1] σ Φ := by
  subst h1
  have e0 : σ 29 r = nd_f D 0 r := hC.2.2.2.2 0 r (by omega) hr
  have e1 : σ 30 r = nd_f D 1 r := hC.2.2.2.2 1 r (by omega) hr
  have e2 : σ 31 r = nd_f D 2 r := hC.2.2.2.2 2 r (by omega) hr
  have e3 : σ 32 r = nd_f D 3 r := hC.2.2.2.2 3 r (by omega) hr
  have en := hC.1
  have hok := hw.2.2.2.2.2 r hr
  dsimp only [nd_ok] at hok
  obtain ⟨k1, k2, k3, k4, k5, k6, k7, -, -⟩ := hok
  have r1 := k1 1 (by omega)
  have r2 := k1 2 (by omega)
  have r3 := k1 3 (by omega)
  have hn := hw.1
  have hR := hw.2.2.2.2.1
  have hsm := nd_sm_le (x := x) (nd_n D) (fun c hc => (hx c hc).2)
  have hct := nd_ct_le (x := x) (a := nd_f D 1 r) (nd_n D)
  have ha : nd_f D 0 r ≤ 5 → σ 37 (nd_f D 1 r).toNat = x (nd_f D 1 r).toNat ∧ x (nd_f D 1 r).toNat < 6 ∧ 0 ≤ nd_f D 1 r ∧ nd_f D 1 r < 5 := fun q => by
    have := k3 q
    have h := hx (nd_f D 1 r).toNat (by omega)
    exact ⟨h.1, h.2, by omega, by omega⟩
  have hb : 1 ≤ nd_f D 0 r → nd_f D 0 r ≤ 5 → σ 37 (nd_f D 2 r).toNat = x (nd_f D 2 r).toNat ∧ x (nd_f D 2 r).toNat < 6 ∧ 0 ≤ nd_f D 2 r ∧ nd_f D 2 r < 5 := fun q q' => by
    have := k4 q q'
    have h := hx (nd_f D 2 r).toNat (by omega)
    exact ⟨h.1, h.2, by omega, by omega⟩
  have key : ∀ (k i : Nat) (x5 x6 x7 : Int), i + k = nd_n D → x7 = i → x5 = nd_ct x (nd_f D 1 r) i → x6 = nd_sm x i → nw_V G 79 (nw_pi Φ) 31 [some (.inl 26), some (.inr (r : Int)), some (.inr (nd_f D 1 r)), some (.inr (nd_f D 2 r)), some (.inr (nd_f D 3 r)), some (.inr x5), some (.inr x6), some (.inr x7)] [] σ := by
    intro k
    induction k with
    | zero =>
      intro i x5 x6 x7 hi h7 h5 h6
      subst h7
      have hin : i = nd_n D := by omega
      subst hin
      subst h5
      subst h6
      refine bk79_31 ⟨by omega, by omega, fun _ => ?_, fun q => by omega⟩
      simp only [Int.toNat_natCast, e0]
      refine ⟨by omega, k1 0 (by omega), fun q => ?_, fun q => ?_, fun q => ?_, fun q => ?_, fun q => ?_, fun q => ?_, fun q => ?_, fun q => ?_, fun q => ?_⟩
      · have q8 : nd_f D 0 r = 8 := by omega
        refine ⟨by omega, r1, fun q2 => hf ?_, fun q2 => ⟨r2, fun q3 => hf ?_, fun q3 => ht ?_⟩⟩
        · simp [nd_kp, q8]; omega
        · simp [nd_kp, q8]; omega
        · simp [nd_kp, q8]; omega
      · obtain ⟨a1, a2, a3, a4⟩ := ha (by omega)
        rw [a1]
        refine ⟨by omega, nb_rand _ _, fun q2 => hf ?_, fun q2 => ht ?_⟩
        · simp [nd_kp, q, q2]
        · simp [nd_kp, q, q2]
      · obtain ⟨a1, a2, a3, a4⟩ := ha (by omega)
        obtain ⟨b1, b2, b3, b4⟩ := hb (by omega) (by omega)
        rw [a1, b1]
        refine ⟨by omega, by omega, by omega, by omega, fun q2 => hf ?_, fun q2 => ht ?_⟩
        · simp [nd_kp, q]; omega
        · simp [nd_kp, q]; omega
      · obtain ⟨a1, a2, a3, a4⟩ := ha (by omega)
        obtain ⟨b1, b2, b3, b4⟩ := hb (by omega) (by omega)
        rw [a1, b1]
        refine ⟨by omega, by omega, by omega, by omega, fun q2 => hf ?_, fun q2 => ht ?_⟩
        · simp [nd_kp, q]; omega
        · simp [nd_kp, q]; omega
      · obtain ⟨a1, a2, a3, a4⟩ := ha (by omega)
        obtain ⟨b1, b2, b3, b4⟩ := hb (by omega) (by omega)
        have := k6 q
        rw [a1, b1]
        refine ⟨by omega, by omega, by omega, by omega, fun q2 => hf ?_, fun q2 => ht ?_⟩
        · simp [nd_kp, q]; omega
        · simp [nd_kp, q]; omega
      · obtain ⟨a1, a2, a3, a4⟩ := ha (by omega)
        obtain ⟨b1, b2, b3, b4⟩ := hb (by omega) (by omega)
        rw [a1, b1]
        refine ⟨by omega, by omega, by omega, r3, fun q2 => hf ?_, fun q2 => ⟨by omega, fun q3 => hf ?_, fun q3 => ht ?_⟩⟩
        · simp [nd_kp, q]; omega
        · simp [nd_kp, q]; omega
        · simp [nd_kp, q]; omega
      · obtain ⟨a1, a2, a3, a4⟩ := ha (by omega)
        obtain ⟨b1, b2, b3, b4⟩ := hb (by omega) (by omega)
        have := k7 q
        rw [a1, b1]
        refine ⟨by omega, by omega, by omega, by omega, fun q2 => ht ?_, fun q2 => ⟨by omega, by omega, by omega, fun q3 => hf ?_, fun q3 => ht ?_⟩⟩
        · simp [nd_kp, q]; omega
        · simp [nd_kp, q]; omega
        · simp [nd_kp, q]; omega
      · refine ⟨by omega, r3, fun q2 => hf ?_, fun q2 => ht ?_⟩
        · simp [nd_kp, q]; omega
        · simp [nd_kp, q]; omega
      · refine ⟨by omega, r3, fun q2 => hf ?_, fun q2 => ht ?_⟩
        · simp [nd_kp, q]; omega
        · simp [nd_kp, q]; omega
    | succ k ih =>
      intro i x5 x6 x7 hi h7 h5 h6
      subst h7
      obtain ⟨e, l⟩ := hx i (by omega)
      refine bk79_31 ⟨by omega, by omega, fun q => by omega, fun _ => ⟨by omega, ?_⟩⟩
      simp only [Int.toNat_natCast]
      rw [e]
      refine ⟨by omega, r1, fun q => ih (i + 1) _ _ _ (by omega) (by omega) ?_ ?_, fun q => ih (i + 1) _ _ _ (by omega) (by omega) ?_ ?_⟩
      · simp [nd_ct, q, h5]
      · rw [h6]; rfl
      · simp [nd_ct, q, h5]
      · rw [h6]; rfl
  refine nw_TI_of (by decide) (Nat.le_of_ble_eq_true rfl) (bk79_0 ?_)
  simp only [Int.toNat_natCast, e1, e2, e3]
  exact ⟨by omega, key (nd_n D) 0 _ _ _ (by omega) rfl rfl rfl⟩
end NC2
end
section
section NC3
variable {G : nw_G} {σ : nw_S} {D : nd_D}
theorem nu_ne {τ : nw_S} {k j a : Nat} {v : Int} (h : a ≠ k) : nw_up τ k j v a = τ a := by
  funext b
  simp [nw_up, h]
theorem nu_at {τ : nw_S} {k j : Nat} {v : Int} : nw_up τ k j v k j = v := by simp [nw_up]
theorem nu_nj {τ : nw_S} {k j b : Nat} {v : Int} (h : b ≠ j) : nw_up τ k j v k b = τ k b := by simp [nw_up, h]
theorem nc_mo.to {u : nw_S} (h : nc_mo D σ) (e : ∀ k, 26 ≤ k → k < 35 → k ≠ 26 → u k = σ k) (e0 : u 26 0 = σ 26 0) (e3 : u 26 3 = σ 26 3) : nc_mo D u := by
  obtain ⟨h1, h2, h3, h4, h5⟩ := h
  refine ⟨by rw [e0]; exact h1, by rw [e3]; exact h2, fun c hc => ?_, fun i hi => ?_, fun i r hi hr => ?_⟩
  · rw [e 27 (by omega) (by omega) (by omega)]; exact h3 c hc
  · rw [e 28 (by omega) (by omega) (by omega)]; exact h4 i hi
  · rw [e (29 + i) (by omega) (by omega) (by omega)]; exact h5 i r hi hr
theorem c66 {Φ : Int → nw_S → Prop} {x0 x1 x2 : Int} (h0 : nw_r x0) (h1 : nw_r x1) (h2 : nw_r x2) (ht : x1 ≤ x0 → x0 ≤ x2 → Φ 1 σ) (hf : x0 < x1 ∨ x2 < x0 → Φ 0 σ) : nw_TI G 66 [.inr x0, .inr x1, .inr x2] σ Φ :=
  nw_TI_of (by decide) (Nat.le_of_ble_eq_true rfl) (bk66_0 ⟨h0, h1, fun q => hf (Or.inl q), fun q => ⟨h2, fun q2 => hf (Or.inr q2), fun q2 => ht q q2⟩⟩)
theorem c67 {Φ : Int → nw_S → Prop} (hw : nd_wf D) (hC : nc_mo D σ) {x1 : Int} (h1 : nw_r x1) (ht : ∀ c : Nat, x1 = c → c < nd_n D → Φ 1 σ) (hf : (∀ c : Nat, x1 = c → ¬ c < nd_n D) → Φ 0 σ) : nw_TI G 67 [.inl 26, .inr x1] σ Φ := by
  have hn := hw.1
  have e := hC.1
  refine nw_TI_of (by decide) (Nat.le_of_ble_eq_true rfl) (bk67_0 (c66 h1 (by decide) (by omega) (fun a b => ?_) (fun a => ?_)))
  · exact ⟨Or.inr rfl, ht x1.toNat (by omega) (by omega)⟩
  · exact ⟨Or.inl rfl, hf (fun c hc => by omega)⟩
theorem c69 {Φ : Int → nw_S → Prop} (hw : nd_wf D) (hC : nc_mo D σ) {x1 : Int} (h1 : nw_r x1) (ht : ∀ c : Nat, x1 = c → c < nd_r D → Φ 1 σ) (hf : (∀ c : Nat, x1 = c → ¬ c < nd_r D) → Φ 0 σ) : nw_TI G 69 [.inl 26, .inr x1] σ Φ := by
  have hn := hw.2.2.2.2.1
  have e := hC.2.1
  refine nw_TI_of (by decide) (Nat.le_of_ble_eq_true rfl) (bk69_0 (c66 h1 (by decide) (by omega) (fun a b => ?_) (fun a => ?_)))
  · exact ⟨Or.inr rfl, ht x1.toNat (by omega) (by omega)⟩
  · exact ⟨Or.inl rfl, hf (fun c hc => by omega)⟩
theorem c68 {Φ : Int → nw_S → Prop} (hw : nd_wf D) (hC : nc_mo D σ) {x1 x2 : Int} (h1 : nw_r x1) (h2 : nw_r x2) (ht : ∀ c k : Nat, x1 = c → x2 = k → c < nd_n D → k < nd_m D c → Φ 1 σ) (hf : (∀ c k : Nat, x1 = c → x2 = k → c < nd_n D → ¬ k < nd_m D c) → Φ 0 σ) : nw_TI G 68 [.inl 26, .inr x1, .inr x2] σ Φ := by
  have hn := hw.1
  refine nw_TI_of (by decide) (Nat.le_of_ble_eq_true rfl) (bk68_0 (c67 hw hC h1 (fun c hc hcn => ?_) (fun a => ?_)))
  · subst hc
    have hm := hw.2.1 _ hcn
    have em := hC.2.2.1 _ hcn
    simp only [Int.toNat_natCast]
    rw [em]
    refine ⟨by decide, fun q => absurd q (by decide), fun _ => ⟨by omega, c66 h2 (by decide) (by omega) (fun q q2 => ?_) (fun q => ?_)⟩⟩
    · exact ⟨by decide, fun q3 => absurd q3 (by decide), fun _ => ht c x2.toNat rfl (by omega) hcn (by omega)⟩
    · refine ⟨by decide, fun _ => hf (fun c' k hc hk hcn2 => ?_), fun q3 => absurd rfl q3⟩
      have : c = c' := by omega
      subst this
      omega
  · exact ⟨by decide, fun _ => hf (fun c k hc hk hcn => absurd hcn (a c hc)), fun q => absurd rfl q⟩
theorem c77 {Φ : Int → nw_S → Prop} (hw : nd_wf D) (hC : nc_mo D σ) (h : Φ (nd_P D) σ) : nw_TI G 77 [.inl 26] σ Φ := by
  have hn := hw.1
  have e := hC.1
  have key : ∀ (k i : Nat) (x1 x2 : Int), i + k = nd_n D → x2 = i → x1 = (nd_pl (nd_m D) i : Nat) → nw_V G 77 (nw_pi Φ) 4 [some (.inl 26), some (.inr x1), some (.inr x2)] [] σ := by
    intro k
    induction k with
    | zero =>
      intro i x1 x2 hi h2 h1
      subst h2
      refine bk77_4 ⟨by omega, by omega, fun _ => ?_, fun q => by omega⟩
      rw [h1, show i = nd_n D from by omega]
      exact h
    | succ k ih =>
      intro i x1 x2 hi h2 h1
      subst h2
      have em := hC.2.2.1 i (by omega)
      refine bk77_4 ⟨by omega, by omega, fun q => by omega, fun _ => ⟨by omega, ih (i + 1) _ _ (by omega) (by omega) ?_⟩⟩
      simp only [Int.toNat_natCast]
      rw [em, h1]
      show _ = ((nd_pl (nd_m D) i * nd_m D i : Nat) : Int)
      push_cast
      rfl
  exact nw_TI_of (by decide) (Nat.le_of_ble_eq_true rfl) (bk77_0 (key (nd_n D) 0 _ _ (by omega) rfl rfl))
theorem nd_sp_last (m : Nat → Nat) (n : Nat) : nd_sp m (n + 1) n = 1 := by simp [nd_sp]
theorem nd_sp_step (m : Nat → Nat) : ∀ n c : Nat, c + 1 < n → nd_sp m n c = nd_sp m n (c + 1) * m (c + 1)
  | 0, c, h => by omega
  | n + 1, c, h => by
    unfold nd_sp
    rw [if_pos (by omega)]
    by_cases q : c + 1 < n
    · rw [if_pos q, nd_sp_step m n c q, Nat.mul_right_comm]
    · have : n = c + 1 := by omega
      subst this
      rw [if_neg (by omega), nd_sp_last]
theorem c78 {Φ : nw_S → Prop} (hw : nd_wf D) (hC : nc_mo D σ) {x1 : Int} {p : Nat} (h1 : x1 = p) (hp : p < 7776) (h : ∀ u : nw_S, (∀ k, k ≠ 37 → u k = σ k) → (∀ c, c < nd_n D → u 37 c = nd_x D p c) → Φ u) : nw_TV G 78 [.inl 26, .inr x1] σ Φ := by
  subst h1
  have hn := hw.1
  have e := hC.1
  have key : ∀ (i : Nat) (τ : nw_S) (x2 x3 : Int), x3 = (i : Int) - 1 → i ≤ nd_n D → (1 ≤ i → x2 = (p / nd_sp (nd_m D) (nd_n D) (i - 1) : Nat)) → (∀ k, k ≠ 37 → τ k = σ k) → (∀ c, i ≤ c → c < nd_n D → τ 37 c = nd_x D p c) → nw_V G 78 (nw_pv Φ) 9 [some (.inl 26), some (.inr (p : Int)), some (.inr x2), some (.inr x3)] [] τ := by
    intro i
    induction i with
    | zero =>
      intro τ x2 x3 h3 hi h2 hk hx
      refine bk78_9 ⟨by omega, fun _ => h τ hk (fun c hc => hx c (by omega) hc), fun q => by omega⟩
    | succ i ih =>
      intro τ x2 x3 h3 hi h2 hk hx
      have h3 : x3 = (i : Int) := by omega
      subst h3
      have em := hC.2.2.1 i (by omega)
      have hm := hw.2.1 i (by omega)
      have h2 := h2 (by omega)
      rw [show i + 1 - 1 = i from by omega] at h2
      have hle := Nat.div_le_self p (nd_sp (nd_m D) (nd_n D) i)
      refine bk78_9 ⟨by omega, fun q => by omega, fun _ => ?_⟩
      simp only [Int.toNat_natCast]
      rw [hk 27 (by decide), em, h2]
      refine ⟨by omega, ?_, ih _ _ _ (by omega) (by omega) (fun q => ?_) (fun k q => ?_) (fun c q q2 => ?_)⟩
      · generalize p / nd_sp (nd_m D) (nd_n D) i = w at hle
        omega
      · obtain ⟨j, rfl⟩ : ∃ j, i = j + 1 := ⟨i - 1, by omega⟩
        rw [show j + 1 - 1 = j from by omega, nd_sp_step _ _ j (by omega), ← Nat.div_div_eq_div_mul]
        norm_cast
      · rw [nu_ne q]; exact hk k q
      · by_cases hc : c = i
        · subst hc
          rw [nu_at]
          unfold nd_x nd_dg
          norm_cast
        · rw [nu_nj hc]
          exact hx c (by omega) q2
  refine nw_TV_of (by decide) (Nat.le_of_ble_eq_true rfl) (bk78_0 (key (nd_n D) σ _ _ (by rw [e]) (Nat.le_refl _) (fun q => ?_) (fun _ _ => rfl) (fun c q q2 => by omega)))
  obtain ⟨j, hj⟩ : ∃ j, nd_n D = j + 1 := ⟨nd_n D - 1, by omega⟩
  rw [hj, show j + 1 - 1 = j from by omega, nd_sp_last, Nat.div_one]
theorem c80 {Φ : Int → nw_S → Prop} (hw : nd_wf D) (hC : nc_mo D σ) {x : Nat → Nat} (hx : ∀ c, c < nd_n D → σ 37 c = x c ∧ x c < 6) (h : Φ (nd_bs (nd_n D) x (nd_f D) (nd_r D) : Nat) σ) : nw_TI G 80 [.inl 26] σ Φ := by
  have hR := hw.2.2.2.2.1
  have e := hC.2.1
  have key : ∀ (k i : Nat) (x1 x2 : Int), i + k = nd_r D → x2 = i → x1 = (nd_bs (nd_n D) x (nd_f D) i : Nat) → nw_V G 80 (nw_pi Φ) 4 [some (.inl 26), some (.inr x1), some (.inr x2)] [] σ := by
    intro k
    induction k with
    | zero =>
      intro i x1 x2 hi h2 h1
      subst h2
      refine bk80_4 ⟨by omega, by omega, fun _ => ?_, fun q => by omega⟩
      rw [h1, show i = nd_r D from by omega]
      exact h
    | succ k ih =>
      intro i x1 x2 hi h2 h1
      subst h2
      subst h1
      have hlt := nd_bs_lt (nd_n D) x (nd_f D) i
      have hp2 := nd_pw (r := i) (by omega)
      refine bk80_4 ⟨by omega, by omega, fun q => by omega, fun _ => c79 hw hC hx rfl (by omega) (fun q => ?_) (fun q => ?_)⟩
      · refine ⟨by decide, fun q2 => absurd q2 (by decide), fun _ => ih (i + 1) _ _ (by omega) (by omega) ?_⟩
        rw [nd_or0 (by omega)]
        simp [nd_bs, q]
      · refine ⟨by decide, fun _ => ih (i + 1) _ _ (by omega) (by omega) ?_, fun q2 => absurd rfl q2⟩
        rw [nd_or hlt (by omega)]
        simp [nd_bs, q]
  exact nw_TI_of (by decide) (Nat.le_of_ble_eq_true rfl) (bk80_0 (key (nd_r D) 0 _ _ (by omega) rfl rfl))
def nm_fr (D : nd_D) (u : nw_S) : Prop := u 26 11 = 1 ∧ ∀ p, p < nd_P D → u 35 p = nd_B D p
def nm_st (D : nd_D) (u : nw_S) : Prop := nc_mo D u ∧ (u 26 11 = 0 ∨ nm_fr D u)
theorem c81 {Φ : nw_S → Prop} (hw : nd_wf D) (hC : nm_st D σ) (h : ∀ u : nw_S, nc_mo D u → nm_fr D u → (∀ k, k < 26 → u k = σ k) → (∀ j, j ≠ 11 → u 26 j = σ 26 j) → Φ u) : nw_TV G 81 [.inl 26] σ Φ := by
  obtain ⟨hM, hF⟩ := hC
  have hP := nd_P_le hw
  have key : ∀ (k i : Nat) (τ : nw_S) (x2 : Int), i + k = nd_P D → x2 = i → nc_mo D τ → τ 26 11 = 1 → (∀ p, p < i → τ 35 p = nd_B D p) → (∀ k, k < 26 → τ k = σ k) → (∀ j, j ≠ 11 → τ 26 j = σ 26 j) → nw_V G 81 (nw_pv Φ) 19 [some (.inl 26), some (.inr (nd_P D : Int)), some (.inr x2)] [] τ := by
    intro k
    induction k with
    | zero =>
      intro i τ x2 hi h2 hM h11 hB hk hj
      subst h2
      refine bk81_19 ⟨by omega, by omega, fun _ => h τ hM ⟨h11, fun p hp => hB p (by omega)⟩ hk hj, fun q => by omega⟩
    | succ k ih =>
      intro i τ x2 hi h2 hM h11 hB hk hj
      subst h2
      refine bk81_19 ⟨by omega, by omega, fun q => by omega, fun _ => c78 hw hM rfl (by omega) (fun u hu hx => ?_)⟩
      have hM1 : nc_mo D u := hM.to (fun k _ _ _ => hu k (by omega)) (by rw [hu 26 (by decide)]) (by rw [hu 26 (by decide)])
      refine c80 hw hM1 (x := nd_x D i) (fun c hc => ⟨hx c hc, (nd_x_lt hw hc).2⟩) ⟨by omega, ?_⟩
      simp only [Int.toNat_natCast]
      refine ih (i + 1) _ _ (by omega) (by omega) ?_ ?_ ?_ ?_ ?_
      · exact hM1.to (fun k _ _ _ => nu_ne (by omega)) (by rw [nu_ne (by decide)]) (by rw [nu_ne (by decide)])
      · rw [nu_ne (by decide), hu 26 (by decide)]; exact h11
      · intro p hp
        by_cases q : p = i
        · subst q; rw [nu_at]; rfl
        · rw [nu_nj q, hu 35 (by decide)]; exact hB p (by omega)
      · intro k q
        rw [nu_ne (by omega), hu k (by omega)]; exact hk k q
      · intro j q
        rw [nu_ne (by decide), hu 26 (by decide)]; exact hj j q
  refine nw_TV_of (by decide) (Nat.le_of_ble_eq_true rfl) (bk81_0 ⟨?_, fun q => ?_, fun q => ?_⟩)
  · rcases hF with q | q
    · rw [q]; decide
    · rw [q.1]; decide
  · rcases hF with q2 | q2
    · exact absurd q2 q
    · exact h σ hM q2 (fun _ _ => rfl) (fun _ _ => rfl)
  · have hM1 : nc_mo D (nw_up σ 26 11 1) := hM.to (fun k _ _ q => nu_ne q) (nu_nj (by decide)) (nu_nj (by decide))
    exact c77 hw hM1 (key (nd_P D) 0 _ _ (by omega) rfl hM1 nu_at (fun p hp => by omega) (fun k q => nu_ne (by omega)) (fun j q => nu_nj q))
theorem c83 {Φ : Int → nw_S → Prop} (hw : nd_wf D) (hC : nc_mo D σ) {x1 : Int} {s : Nat} (h1 : x1 = s) (hs : s < 4096) (h : Φ (nd_C D s) σ) : nw_TI G 83 [.inl 26, .inr x1] σ Φ := by
  subst h1
  have hR := hw.2.2.2.2.1
  have e := hC.2.1
  have key : ∀ (k i : Nat) (x2 x3 : Int), i + k = nd_r D → x3 = i → x2 = nd_co (nd_f D) s i → nw_V G 83 (nw_pi Φ) 4 [some (.inl 26), some (.inr (s : Int)), some (.inr x2), some (.inr x3)] [] σ := by
    intro k
    induction k with
    | zero =>
      intro i x2 x3 hi h3 h2
      subst h3
      refine bk83_4 ⟨by omega, by omega, fun _ => ?_, fun q => by omega⟩
      rw [h2, show i = nd_r D from by omega]
      exact h
    | succ k ih =>
      intro i x2 x3 hi h3 h2
      subst h3
      have ew : σ 33 i = nd_f D 4 i := hC.2.2.2.2 4 i (by omega) (by omega)
      refine bk83_4 ⟨by omega, by omega, fun q => by omega, fun _ => ⟨nb_rand _ _, ?_⟩⟩
      simp only [Int.toNat_natCast]
      rw [nb_bit (by omega) (by omega), ew]
      refine ⟨fun q => ih (i + 1) _ _ (by omega) (by omega) ?_, fun q => ⟨by omega, ih (i + 1) _ _ (by omega) (by omega) ?_⟩⟩
      · have : s.testBit i = false := by
          cases hb : s.testBit i with
          | false => rfl
          | true => rw [hb] at q; exact absurd rfl q
        simp [nd_co, this, h2]
      · have : s.testBit i = true := by
          cases hb : s.testBit i with
          | true => rfl
          | false => rw [hb] at q; exact absurd q (by decide)
        simp [nd_co, this, h2]
  exact nw_TI_of (by decide) (Nat.le_of_ble_eq_true rfl) (bk83_0 (key (nd_r D) 0 _ _ (by omega) rfl rfl))
theorem c84 {Φ : Int → nw_S → Prop} (hw : nd_wf D) (hC : nc_mo D σ) {x1 x2 : Int} {p c : Nat} (h1 : x1 = p) (h2 : x2 = c) (hp : p < 7776) (hc : c < nd_n D) (h : ∀ u : nw_S, (∀ k, k ≠ 37 → u k = σ k) → Φ (nd_x D p c) u) : nw_TI G 84 [.inl 26, .inr x1, .inr x2] σ Φ := by
  subst h2
  have hn := hw.1
  refine nw_TI_of (by decide) (Nat.le_of_ble_eq_true rfl) (bk84_0 (c78 hw hC h1 hp (fun u hu hx => ⟨by omega, ?_⟩)))
  simp only [Int.toNat_natCast]
  rw [hx c hc]
  exact h u hu
theorem c85 {Φ : Int → nw_S → Prop} (hw : nd_wf D) (hC : nc_mo D σ) {x : Nat → Nat} (hx : ∀ c, c < nd_n D → σ 37 c = x c ∧ x c < 6) {x1 x2 : Int} {b s : Nat} (h1 : x1 = b) (h2 : x2 = s) (hb : b < 4096) (hs : s < 4096) (h : Φ (nd_ws (nd_w D) x (nd_n D) - nd_C D (b &&& s)) σ) : nw_TI G 85 [.inl 26, .inr x1, .inr x2] σ Φ := by
  subst h1
  subst h2
  have hn := hw.1
  have e := hC.1
  have key : ∀ (k i : Nat) (x3 x4 : Int), i + k = nd_n D → x4 = i → x3 = nd_ws (nd_w D) x i → nw_V G 85 (nw_pi Φ) 5 [some (.inl 26), some (.inr (b : Int)), some (.inr (s : Int)), some (.inr x3), some (.inr x4)] [] σ := by
    intro k
    induction k with
    | zero =>
      intro i x3 x4 hi h4 h3
      subst h4
      refine bk85_5 ⟨by omega, by omega, fun _ => c83 hw hC (s := b &&& s) (nb_and (by omega) (by omega)) (Nat.lt_of_le_of_lt Nat.and_le_left hb) ?_, fun q => by omega⟩
      rw [h3, show i = nd_n D from by omega]
      exact h
    | succ k ih =>
      intro i x3 x4 hi h4 h3
      subst h4
      obtain ⟨e1, l1⟩ := hx i (by omega)
      refine bk85_5 ⟨by omega, by omega, fun q => by omega, fun _ => ?_⟩
      simp only [Int.toNat_natCast]
      rw [e1]
      have ei : (6 * (i : Int) + (x i : Int)).toNat = 6 * i + x i := by omega
      have ew := hC.2.2.2.1 (6 * i + x i) (by omega)
      refine ⟨by omega, by omega, ih (i + 1) _ _ (by omega) (by omega) ?_⟩
      rw [ei, ew, h3]
      rfl
  exact nw_TI_of (by decide) (Nat.le_of_ble_eq_true rfl) (bk85_0 (key (nd_n D) 0 _ _ (by omega) rfl rfl))
theorem c86 {Φ : Int → nw_S → Prop} (hw : nd_wf D) (hC : nc_mo D σ) (hF : nm_fr D σ) {x1 x2 : Int} {p s : Nat} (h1 : x1 = p) (h2 : x2 = s) (hp : p < nd_P D) (hs : s < 4096) (h : ∀ u : nw_S, (∀ k, k ≠ 37 → u k = σ k) → Φ (nd_sc D s p) u) : nw_TI G 86 [.inl 26, .inr x1, .inr x2] σ Φ := by
  subst h1
  have hP := nd_P_le hw
  refine nw_TI_of (by decide) (Nat.le_of_ble_eq_true rfl) (bk86_0 (c78 hw hC rfl (by omega) (fun u hu hx => ⟨by omega, ?_⟩)))
  have hM1 : nc_mo D u := hC.to (fun k _ _ _ => hu k (by omega)) (by rw [hu 26 (by decide)]) (by rw [hu 26 (by decide)])
  simp only [Int.toNat_natCast]
  rw [hu 35 (by decide), hF.2 p hp]
  exact c85 hw hM1 (x := nd_x D p) (fun c hc => ⟨hx c hc, (nd_x_lt hw hc).2⟩) rfl h2 (nd_B_lt hw p).2 hs (h u hu)
end NC3
end
section
section NC4
variable {G : nw_G} {σ : nw_S} {D : nd_D}
/-! the best of the plans: seen, greatest, first, alike -/
abbrev nd_T : Type := Int × Int × Int × Int
def nd_see (t : nd_T) (p x : Int) : nd_T := if t.1 = 0 ∨ t.2.1 < x then (t.1 + 1, x, p, 1) else if x = t.2.1 then (t.1 + 1, t.2.1, t.2.2.1, t.2.2.2 + 1) else (t.1 + 1, t.2.1, t.2.2.1, t.2.2.2)
def nd_tp (S : Nat → Bool) (sc : Nat → Int) : Nat → nd_T
  | 0 => (0, 0, 0, 0)
  | i + 1 => if S i then nd_see (nd_tp S sc i) i (sc i) else nd_tp S sc i
/-- the plans that keep the set h; how 0: all of them, 1: that take k for c, 2: that don't -/
def nd_Se (D : nd_D) (h c k how : Nat) (p : Nat) : Bool := decide (nd_B D p &&& h = 0) && (decide (how = 0) || (decide (nd_x D p c = k) == decide (how = 1)))
def nd_tq (D : nd_D) (h s c k how : Nat) : nd_T := nd_tp (nd_Se D h c k how) (nd_sc D s) (nd_P D)
def nd_tw (D : nd_D) : nd_T := nd_tq D (nd_M D 1) (nd_M D 2) 0 0 0
theorem nd_tp_in {S : Nat → Bool} {sc : Nat → Int} (hs : ∀ p, -17000 ≤ sc p ∧ sc p ≤ 5000) : ∀ i : Nat, (0 ≤ (nd_tp S sc i).1 ∧ (nd_tp S sc i).1 ≤ i) ∧ (-17000 ≤ (nd_tp S sc i).2.1 ∧ (nd_tp S sc i).2.1 ≤ 5000) ∧ (0 ≤ (nd_tp S sc i).2.2.1 ∧ ((nd_tp S sc i).1 ≠ 0 → (nd_tp S sc i).2.2.1 < i) ∧ (nd_tp S sc i).2.2.1 ≤ i) ∧ (0 ≤ (nd_tp S sc i).2.2.2 ∧ (nd_tp S sc i).2.2.2 ≤ i)
  | 0 => by simp [nd_tp]
  | i + 1 => by
    obtain ⟨⟨a1, a2⟩, ⟨b1, b2⟩, ⟨c1, c2, c3⟩, ⟨d1, d2⟩⟩ := nd_tp_in (S := S) hs i
    have h := hs i
    unfold nd_tp
    split
    · unfold nd_see
      generalize nd_tp S sc i = t at *
      split
      · dsimp only
        refine ⟨⟨by omega, by omega⟩, ⟨by omega, by omega⟩, ⟨by omega, by omega, by omega⟩, ⟨by omega, by omega⟩⟩
      · rename_i q
        have q1 : t.1 ≠ 0 := fun z => q (Or.inl z)
        have := c2 q1
        split
        · dsimp only
          refine ⟨⟨by omega, by omega⟩, ⟨by omega, by omega⟩, ⟨by omega, by omega, by omega⟩, ⟨by omega, by omega⟩⟩
        · dsimp only
          refine ⟨⟨by omega, by omega⟩, ⟨by omega, by omega⟩, ⟨by omega, by omega, by omega⟩, ⟨by omega, by omega⟩⟩
    · generalize nd_tp S sc i = t at *
      refine ⟨⟨by omega, by omega⟩, ⟨by omega, by omega⟩, ⟨by omega, fun q => by have := c2 q; omega, by omega⟩, ⟨by omega, by omega⟩⟩
def nd_cq (S : Nat → Bool) (sc : Nat → Int) (g : Int) : Nat → Int
  | 0 => 0
  | i + 1 => nd_cq S sc g i + (if S i = true ∧ sc i = g then 1 else 0)
theorem nd_tp_alike {S : Nat → Bool} {sc : Nat → Int} (hs : ∀ p, -17000 ≤ sc p ∧ sc p ≤ 5000) : ∀ i : Nat, ((nd_tp S sc i).1 = 0 → (nd_tp S sc i).2.2.2 = 0 ∧ ∀ g, nd_cq S sc g i = 0) ∧ ((nd_tp S sc i).1 ≠ 0 → (nd_tp S sc i).2.2.2 = nd_cq S sc (nd_tp S sc i).2.1 i ∧ ∀ g, (nd_tp S sc i).2.1 < g → nd_cq S sc g i = 0)
  | 0 => by simp [nd_tp, nd_cq]
  | i + 1 => by
    obtain ⟨h0, h1⟩ := nd_tp_alike (S := S) hs i
    have hp := (nd_tp_in (S := S) hs i).1.1
    unfold nd_tp
    by_cases hS : S i = true
    · rw [if_pos hS]
      unfold nd_see
      generalize nd_tp S sc i = t at *
      split
      · rename_i q
        dsimp only
        refine ⟨fun z => by omega, fun _ => ⟨?_, fun g hg => ?_⟩⟩
        · unfold nd_cq
          rw [if_pos ⟨hS, rfl⟩]
          rcases q with q | q
          · rw [(h0 q).2]; rfl
          · by_cases z : t.1 = 0
            · rw [(h0 z).2]; rfl
            · rw [(h1 z).2 _ q]; rfl
        · unfold nd_cq
          rw [if_neg (fun z => by omega)]
          rcases q with q | q
          · rw [(h0 q).2]; rfl
          · by_cases z : t.1 = 0
            · rw [(h0 z).2]; rfl
            · rw [(h1 z).2 _ (by omega)]; rfl
      · rename_i q
        have q1 : t.1 ≠ 0 := fun z => q (Or.inl z)
        have q2 : ¬ t.2.1 < sc i := fun z => q (Or.inr z)
        obtain ⟨e1, e2⟩ := h1 q1
        split
        · rename_i q3
          dsimp only
          refine ⟨fun z => by omega, fun _ => ⟨?_, fun g hg => ?_⟩⟩
          · unfold nd_cq
            rw [if_pos ⟨hS, q3⟩, e1]
          · unfold nd_cq
            rw [if_neg (fun z => by omega), e2 g hg]; rfl
        · rename_i q3
          dsimp only
          refine ⟨fun z => by omega, fun _ => ⟨?_, fun g hg => ?_⟩⟩
          · unfold nd_cq
            rw [if_neg (fun z => q3 z.2), e1, Int.add_zero]
          · unfold nd_cq
            rw [if_neg (fun z => by omega), e2 g hg]; rfl
    · rw [if_neg hS]
      generalize nd_tp S sc i = t at *
      refine ⟨fun z => ⟨(h0 z).1, fun g => ?_⟩, fun z => ⟨?_, fun g hg => ?_⟩⟩
      · unfold nd_cq; rw [if_neg (fun z => hS z.1), (h0 z).2]; rfl
      · unfold nd_cq; rw [if_neg (fun z => hS z.1), Int.add_zero]; exact (h1 z).1
      · unfold nd_cq; rw [if_neg (fun z => hS z.1), (h1 z).2 g hg]; rfl
theorem nd_tq_in (hw : nd_wf D) (h s c k how : Nat) : (0 ≤ (nd_tq D h s c k how).1 ∧ (nd_tq D h s c k how).1 ≤ 7776) ∧ (-17000 ≤ (nd_tq D h s c k how).2.1 ∧ (nd_tq D h s c k how).2.1 ≤ 5000) ∧ (0 ≤ (nd_tq D h s c k how).2.2.1 ∧ ((nd_tq D h s c k how).1 ≠ 0 → (nd_tq D h s c k how).2.2.1 < nd_P D) ∧ (nd_tq D h s c k how).2.2.1 ≤ 7776) ∧ (0 ≤ (nd_tq D h s c k how).2.2.2 ∧ (nd_tq D h s c k how).2.2.2 ≤ 7776) := by
  have hP := nd_P_le hw
  obtain ⟨⟨a1, a2⟩, ⟨b1, b2⟩, ⟨c1, c2, c3⟩, ⟨d1, d2⟩⟩ := nd_tp_in (S := nd_Se D h c k how) (nd_sc_le hw s) (nd_P D)
  exact ⟨⟨a1, by unfold nd_tq; omega⟩, ⟨b1, b2⟩, ⟨c1, c2, by unfold nd_tq; omega⟩, ⟨d1, by unfold nd_tq; omega⟩⟩
def nc_sc (D : nd_D) (σ : nw_S) : Prop := (∀ p, p < nd_P D → σ 5 p = nd_U D p) ∧ (∀ s, s < 2 ^ nd_r D → σ 13 s = nd_C D s) ∧ ∀ p, p < nd_P D → σ 14 p = nd_B D p
def nc_al (D : nd_D) (σ : nw_S) : Prop := nc_ch D σ ∧ nc_ru D σ ∧ nc_sc D σ
/-- what is read of the class: the cells 1 to 14 -/
theorem nc_al.to {u : nw_S} (h : nc_al D σ) (e : ∀ k, 1 ≤ k → k < 15 → u k = σ k) : nc_al D u := by
  obtain ⟨⟨h1, h2, h3, h4, h5⟩, ⟨h6, h7⟩, h8, h9, h10⟩ := h
  have e1 := e 1 (by omega) (by omega)
  have e6 := e 6 (by omega) (by omega)
  refine ⟨⟨by rw [e1]; exact h1, by rw [e1]; exact h2, fun c hc => ?_, fun c hc => ?_, fun c hc => ?_⟩, ⟨by rw [e6]; exact h6, fun i r hi hr => ?_⟩, fun p hp => ?_, fun s hs => ?_, fun p hp => ?_⟩
  · rw [e 2 (by omega) (by omega)]; exact h3 c hc
  · rw [e 3 (by omega) (by omega)]; exact h4 c hc
  · rw [e 4 (by omega) (by omega)]; exact h5 c hc
  · rw [e (7 + i) (by omega) (by omega)]; exact h7 i r hi hr
  · rw [e 5 (by omega) (by omega)]; exact h8 p hp
  · rw [e 13 (by omega) (by omega)]; exact h9 s hs
  · rw [e 14 (by omega) (by omega)]; exact h10 p hp
def nc_tp (k : Nat) (u : nw_S) (t : nd_T) : Prop := u k 0 = t.1 ∧ u k 1 = t.2.1 ∧ u k 2 = t.2.2.1 ∧ u k 3 = t.2.2.2
theorem nc_tp.to {k : Nat} {u : nw_S} {t : nd_T} (h : nc_tp k σ t) (e : u k = σ k) : nc_tp k u t := by
  unfold nc_tp
  rw [e]
  exact h
theorem c56 {Φ : Int → nw_S → Prop} (hw : nd_wf D) (hC : nc_al D σ) {x1 x2 : Int} {p s : Nat} (h1 : x1 = p) (h2 : x2 = s) (hp : p < nd_P D) (hs : s < 4096) (h : Φ (nd_sc D s p) σ) : nw_TI G 56 [.inl 0, .inr x1, .inr x2] σ Φ := by
  subst h1
  subst h2
  obtain ⟨-, -, e5, e13, e14⟩ := hC
  have hP := nd_P_le hw
  have hB := nd_B_lt hw p
  refine nw_TI_of (by decide) (Nat.le_of_ble_eq_true rfl) (bk56_0 ?_)
  simp only [Int.toNat_natCast]
  have hle : nd_B D p &&& s ≤ nd_B D p := Nat.and_le_left
  rw [e14 p hp, nb_and (by omega) (by omega)]
  simp only [Int.toNat_natCast]
  rw [e5 p hp, e13 _ (by omega)]
  exact ⟨by omega, by omega, h⟩
theorem c23_16 {Φ : nw_S → Prop} (h : ∀ u : nw_S, (∀ j, j ≠ 16 → u j = σ j) → nc_tp 16 u (0, 0, 0, 0) → Φ u) : nw_TV G 23 [.inl 16] σ Φ :=
  nw_TV_of (by decide) (Nat.le_of_ble_eq_true rfl) (bk23_0_16 (h _ (fun j q => by rw [nu_ne q, nu_ne q, nu_ne q, nu_ne q]) ⟨by simp [nw_up], by simp [nw_up], by simp [nw_up], by simp [nw_up]⟩))
theorem c24_16 {Φ : nw_S → Prop} {t : nd_T} {x1 x2 : Int} (ht : nc_tp 16 σ t) (r0 : nw_r t.1) (r1 : nw_r t.2.1) (r2 : nw_r x2) (h : ∀ u : nw_S, (∀ j, j ≠ 16 → u j = σ j) → nc_tp 16 u (nd_see t x1 x2) → Φ u) : nw_TV G 24 [.inl 16, .inr x1, .inr x2] σ Φ := by
  obtain ⟨t0, t1, t2, t3⟩ := ht
  refine nw_TV_of (by decide) (Nat.le_of_ble_eq_true rfl) (bk24_0_16 ?_)
  rw [t0, t1, t3]
  refine ⟨r0, fun q => ?_, fun q => ⟨r2, r1, fun q2 => ⟨fun q3 => ?_, fun q3 => ?_⟩, fun q2 => ?_⟩⟩
  · refine h _ (fun j q => by rw [nu_ne q, nu_ne q, nu_ne q, nu_ne q]) ?_
    unfold nd_see
    rw [if_pos (Or.inl q)]
    exact ⟨by simp [nw_up], by simp [nw_up], by simp [nw_up], by simp [nw_up]⟩
  · refine h _ (fun j q => by rw [nu_ne q]) ?_
    unfold nd_see
    rw [if_neg (fun z => by omega), if_neg q3]
    exact ⟨by simp [nw_up], by simp [nw_up, t1], by simp [nw_up, t2], by simp [nw_up, t3]⟩
  · refine h _ (fun j q => by rw [nu_ne q, nu_ne q]) ?_
    unfold nd_see
    rw [if_neg (fun z => by omega), if_pos q3]
    exact ⟨by simp [nw_up], by simp [nw_up, t1], by simp [nw_up, t2], by simp [nw_up]⟩
  · refine h _ (fun j q => by rw [nu_ne q, nu_ne q, nu_ne q, nu_ne q]) ?_
    unfold nd_see
    rw [if_pos (Or.inr q2)]
    exact ⟨by simp [nw_up], by simp [nw_up], by simp [nw_up], by simp [nw_up]⟩
theorem c23_17 {Φ : nw_S → Prop} (h : ∀ u : nw_S, (∀ j, j ≠ 17 → u j = σ j) → nc_tp 17 u (0, 0, 0, 0) → Φ u) : nw_TV G 23 [.inl 17] σ Φ :=
  nw_TV_of (by decide) (Nat.le_of_ble_eq_true rfl) (bk23_0_17 (h _ (fun j q => by rw [nu_ne q, nu_ne q, nu_ne q, nu_ne q]) ⟨by simp [nw_up], by simp [nw_up], by simp [nw_up], by simp [nw_up]⟩))
theorem c24_17 {Φ : nw_S → Prop} {t : nd_T} {x1 x2 : Int} (ht : nc_tp 17 σ t) (r0 : nw_r t.1) (r1 : nw_r t.2.1) (r2 : nw_r x2) (h : ∀ u : nw_S, (∀ j, j ≠ 17 → u j = σ j) → nc_tp 17 u (nd_see t x1 x2) → Φ u) : nw_TV G 24 [.inl 17, .inr x1, .inr x2] σ Φ := by
  obtain ⟨t0, t1, t2, t3⟩ := ht
  refine nw_TV_of (by decide) (Nat.le_of_ble_eq_true rfl) (bk24_0_17 ?_)
  rw [t0, t1, t3]
  refine ⟨r0, fun q => ?_, fun q => ⟨r2, r1, fun q2 => ⟨fun q3 => ?_, fun q3 => ?_⟩, fun q2 => ?_⟩⟩
  · refine h _ (fun j q => by rw [nu_ne q, nu_ne q, nu_ne q, nu_ne q]) ?_
    unfold nd_see
    rw [if_pos (Or.inl q)]
    exact ⟨by simp [nw_up], by simp [nw_up], by simp [nw_up], by simp [nw_up]⟩
  · refine h _ (fun j q => by rw [nu_ne q]) ?_
    unfold nd_see
    rw [if_neg (fun z => by omega), if_neg q3]
    exact ⟨by simp [nw_up], by simp [nw_up, t1], by simp [nw_up, t2], by simp [nw_up, t3]⟩
  · refine h _ (fun j q => by rw [nu_ne q, nu_ne q]) ?_
    unfold nd_see
    rw [if_neg (fun z => by omega), if_pos q3]
    exact ⟨by simp [nw_up], by simp [nw_up, t1], by simp [nw_up, t2], by simp [nw_up]⟩
  · refine h _ (fun j q => by rw [nu_ne q, nu_ne q, nu_ne q, nu_ne q]) ?_
    unfold nd_see
    rw [if_pos (Or.inr q2)]
    exact ⟨by simp [nw_up], by simp [nw_up], by simp [nw_up], by simp [nw_up]⟩
theorem c23_18 {Φ : nw_S → Prop} (h : ∀ u : nw_S, (∀ j, j ≠ 18 → u j = σ j) → nc_tp 18 u (0, 0, 0, 0) → Φ u) : nw_TV G 23 [.inl 18] σ Φ :=
  nw_TV_of (by decide) (Nat.le_of_ble_eq_true rfl) (bk23_0_18 (h _ (fun j q => by rw [nu_ne q, nu_ne q, nu_ne q, nu_ne q]) ⟨by simp [nw_up], by simp [nw_up], by simp [nw_up], by simp [nw_up]⟩))
theorem c24_18 {Φ : nw_S → Prop} {t : nd_T} {x1 x2 : Int} (ht : nc_tp 18 σ t) (r0 : nw_r t.1) (r1 : nw_r t.2.1) (r2 : nw_r x2) (h : ∀ u : nw_S, (∀ j, j ≠ 18 → u j = σ j) → nc_tp 18 u (nd_see t x1 x2) → Φ u) : nw_TV G 24 [.inl 18, .inr x1, .inr x2] σ Φ := by
  obtain ⟨t0, t1, t2, t3⟩ := ht
  refine nw_TV_of (by decide) (Nat.le_of_ble_eq_true rfl) (bk24_0_18 ?_)
  rw [t0, t1, t3]
  refine ⟨r0, fun q => ?_, fun q => ⟨r2, r1, fun q2 => ⟨fun q3 => ?_, fun q3 => ?_⟩, fun q2 => ?_⟩⟩
  · refine h _ (fun j q => by rw [nu_ne q, nu_ne q, nu_ne q, nu_ne q]) ?_
    unfold nd_see
    rw [if_pos (Or.inl q)]
    exact ⟨by simp [nw_up], by simp [nw_up], by simp [nw_up], by simp [nw_up]⟩
  · refine h _ (fun j q => by rw [nu_ne q]) ?_
    unfold nd_see
    rw [if_neg (fun z => by omega), if_neg q3]
    exact ⟨by simp [nw_up], by simp [nw_up, t1], by simp [nw_up, t2], by simp [nw_up, t3]⟩
  · refine h _ (fun j q => by rw [nu_ne q, nu_ne q]) ?_
    unfold nd_see
    rw [if_neg (fun z => by omega), if_pos q3]
    exact ⟨by simp [nw_up], by simp [nw_up, t1], by simp [nw_up, t2], by simp [nw_up]⟩
  · refine h _ (fun j q => by rw [nu_ne q, nu_ne q, nu_ne q, nu_ne q]) ?_
    unfold nd_see
    rw [if_pos (Or.inr q2)]
    exact ⟨by simp [nw_up], by simp [nw_up], by simp [nw_up], by simp [nw_up]⟩
theorem c57a {Φ : nw_S → Prop} (hw : nd_wf D) (hC : nc_al D σ) {x2 x3 : Int} {hd s : Nat} (h2 : x2 = hd) (h3 : x3 = s) (hh : hd < 4096) (hs : s < 4096) (h : ∀ u : nw_S, (∀ j, j ≠ 16 → u j = σ j) → nc_tp 16 u (nd_tq D hd s 0 0 0) → Φ u) : nw_TV G 57 [.inl 0, .inl 16, .inr x2, .inr x3] σ Φ := by
  subst h2
  subst h3
  have hP := nd_P_le hw
  have key : ∀ (k i : Nat) (τ : nw_S) (x4 : Int), i + k = nd_P D → x4 = i → (∀ j, j ≠ 16 → τ j = σ j) → nc_tp 16 τ (nd_tp (nd_Se D hd 0 0 0) (nd_sc D s) i) → nw_V G 57 (nw_pv Φ) 7 [some (.inl 0), some (.inl 16), some (.inr (hd : Int)), some (.inr (s : Int)), some (.inr x4)] [] τ := by
    intro k
    induction k with
    | zero =>
      intro i τ x4 hi h4 hj ht
      subst h4
      have e : τ 1 1 = nd_P D := by rw [hj 1 (by decide)]; exact hC.1.2.1
      refine bk57_7a ⟨by omega, by omega, fun _ => h τ hj ?_, fun q => by omega⟩
      rw [show i = nd_P D from by omega] at ht
      exact ht
    | succ k ih =>
      intro i τ x4 hi h4 hj ht
      subst h4
      have hT : nc_al D τ := hC.to (fun k _ _ => hj k (by omega))
      have e : τ 1 1 = nd_P D := hT.1.2.1
      have eB := hT.2.2.2.2 i (by omega)
      have hB := nd_B_lt hw i
      have hsc := nd_sc_le hw s i
      have htp := nd_tp_in (S := nd_Se D hd 0 0 0) (nd_sc_le hw s) i
      refine bk57_7a ⟨by omega, by omega, fun q => by omega, fun _ => ⟨by omega, nb_rand _ _, ?_⟩⟩
      simp only [Int.toNat_natCast]
      rw [eB, nb_and (by omega) (by omega)]
      refine ⟨fun q => ih (i + 1) _ _ (by omega) (by omega) hj ?_, fun q => c56 hw hT rfl rfl (by omega) hs (c24_16 ht (by omega) (by omega) (by omega) (fun u hu hu2 => ih (i + 1) _ _ (by omega) (by omega) (fun j qj => by rw [hu j qj]; exact hj j qj) ?_))⟩
      · have : nd_Se D hd 0 0 0 i = false := by simp [nd_Se]; omega
        simp [nd_tp, this]
        exact ht
      · have : nd_Se D hd 0 0 0 i = true := by simp [nd_Se]; omega
        simp [nd_tp, this]
        exact hu2
  exact nw_TV_of (by decide) (Nat.le_of_ble_eq_true rfl) (bk57_0a (c23_16 (fun u hu ht => key (nd_P D) 0 u _ (by omega) rfl hu ht)))
theorem c57b {Φ : nw_S → Prop} (hw : nd_wf D) (hC : nc_al D σ) {x2 x3 : Int} {hd s : Nat} (h2 : x2 = hd) (h3 : x3 = s) (hh : hd < 4096) (hs : s < 4096) (h : ∀ u : nw_S, (∀ j, j ≠ 18 → u j = σ j) → nc_tp 18 u (nd_tq D hd s 0 0 0) → Φ u) : nw_TV G 57 [.inl 0, .inl 18, .inr x2, .inr x3] σ Φ := by
  subst h2
  subst h3
  have hP := nd_P_le hw
  have key : ∀ (k i : Nat) (τ : nw_S) (x4 : Int), i + k = nd_P D → x4 = i → (∀ j, j ≠ 18 → τ j = σ j) → nc_tp 18 τ (nd_tp (nd_Se D hd 0 0 0) (nd_sc D s) i) → nw_V G 57 (nw_pv Φ) 7 [some (.inl 0), some (.inl 18), some (.inr (hd : Int)), some (.inr (s : Int)), some (.inr x4)] [] τ := by
    intro k
    induction k with
    | zero =>
      intro i τ x4 hi h4 hj ht
      subst h4
      have e : τ 1 1 = nd_P D := by rw [hj 1 (by decide)]; exact hC.1.2.1
      refine bk57_7b ⟨by omega, by omega, fun _ => h τ hj ?_, fun q => by omega⟩
      rw [show i = nd_P D from by omega] at ht
      exact ht
    | succ k ih =>
      intro i τ x4 hi h4 hj ht
      subst h4
      have hT : nc_al D τ := hC.to (fun k _ _ => hj k (by omega))
      have e : τ 1 1 = nd_P D := hT.1.2.1
      have eB := hT.2.2.2.2 i (by omega)
      have hB := nd_B_lt hw i
      have hsc := nd_sc_le hw s i
      have htp := nd_tp_in (S := nd_Se D hd 0 0 0) (nd_sc_le hw s) i
      refine bk57_7b ⟨by omega, by omega, fun q => by omega, fun _ => ⟨by omega, nb_rand _ _, ?_⟩⟩
      simp only [Int.toNat_natCast]
      rw [eB, nb_and (by omega) (by omega)]
      refine ⟨fun q => ih (i + 1) _ _ (by omega) (by omega) hj ?_, fun q => c56 hw hT rfl rfl (by omega) hs (c24_18 ht (by omega) (by omega) (by omega) (fun u hu hu2 => ih (i + 1) _ _ (by omega) (by omega) (fun j qj => by rw [hu j qj]; exact hj j qj) ?_))⟩
      · have : nd_Se D hd 0 0 0 i = false := by simp [nd_Se]; omega
        simp [nd_tp, this]
        exact ht
      · have : nd_Se D hd 0 0 0 i = true := by simp [nd_Se]; omega
        simp [nd_tp, this]
        exact hu2
  exact nw_TV_of (by decide) (Nat.le_of_ble_eq_true rfl) (bk57_0b (c23_18 (fun u hu ht => key (nd_P D) 0 u _ (by omega) rfl hu ht)))
def nc_wh (D : nd_D) (σ : nw_S) : Prop := σ 0 5 = 1 ∨ (σ 0 5 = 0 ∧ nc_tp 16 σ (nd_tw D))
theorem c58 {Φ : nw_S → Prop} (hw : nd_wf D) (hC : nc_al D σ) (hW : nc_wh D σ) (h : ∀ u : nw_S, (∀ j, j ≠ 0 → j ≠ 16 → u j = σ j) → (∀ j, j ≠ 5 → u 0 j = σ 0 j) → u 0 5 = 0 → nc_tp 16 u (nd_tw D) → Φ u) : nw_TV G 58 [.inl 0] σ Φ := by
  refine nw_TV_of (by decide) (Nat.le_of_ble_eq_true rfl) (bk58_0 ⟨?_, fun q => ?_, fun q => ?_⟩)
  · rcases hW with e | e
    · rw [e]; decide
    · rw [e.1]; decide
  · rcases hW with e | e
    · rw [e] at q; exact absurd q (by decide)
    · exact h σ (fun _ _ _ => rfl) (fun _ _ => rfl) e.1 e.2
  · refine c17 hw hC.2.1 (by decide) (c17 hw hC.2.1 (by decide) (c57a hw hC rfl rfl (nd_M_lt hw 1).2 (nd_M_lt hw 2).2 (fun u hu ht => h _ (fun j q0 q16 => ?_) (fun j qj => ?_) nu_at (ht.to (nu_ne (by decide))))))
    · rw [nu_ne q0]; exact hu j q16
    · rw [nu_nj qj, hu 0 (by decide)]
set_option maxHeartbeats 1000000 in
theorem c59 {Φ : nw_S → Prop} (hw : nd_wf D) (hC : nc_al D σ) {x1 x2 : Int} {c k : Nat} (h1 : x1 = c) (h2 : x2 = k) (hc : c < nd_n D) (hk : k < nd_m D c) (h : ∀ u : nw_S, (∀ j, j ≠ 17 → j ≠ 18 → u j = σ j) → nc_tp 17 u (nd_tq D (nd_M D 1) (nd_M D 2) c k 1) → nc_tp 18 u (nd_tq D (nd_M D 1) (nd_M D 2) c k 2) → Φ u) : nw_TV G 59 [.inl 0, .inr x1, .inr x2] σ Φ := by
  subst h1
  subst h2
  have hP := nd_P_le hw
  have hh := (nd_M_lt hw 1).2
  have hs := (nd_M_lt hw 2).2
  have hm := hw.2.1 c hc
  have key : ∀ (q i : Nat) (τ : nw_S) (x5 : Int), i + q = nd_P D → x5 = i → (∀ j, j ≠ 17 → j ≠ 18 → τ j = σ j) → nc_tp 17 τ (nd_tp (nd_Se D (nd_M D 1) c k 1) (nd_sc D (nd_M D 2)) i) → nc_tp 18 τ (nd_tp (nd_Se D (nd_M D 1) c k 2) (nd_sc D (nd_M D 2)) i) → nw_V G 59 (nw_pv Φ) 36 [some (.inl 0), some (.inr (c : Int)), some (.inr (k : Int)), some (.inr (nd_M D 1 : Int)), some (.inr (nd_M D 2 : Int)), some (.inr x5), none] [] τ := by
    intro q
    induction q with
    | zero =>
      intro i τ x5 hi h5 hj ht1 ht2
      subst h5
      have e : τ 1 1 = nd_P D := by rw [hj 1 (by decide) (by decide)]; exact hC.1.2.1
      have hi : i = nd_P D := by omega
      subst hi
      exact bk59_36 ⟨by omega, by omega, fun _ => h τ hj ht1 ht2, fun q => by omega⟩
    | succ q ih =>
      intro i τ x5 hi h5 hj ht1 ht2
      subst h5
      have hT : nc_al D τ := hC.to (fun k _ _ => hj k (by omega) (by omega))
      have e : τ 1 1 = nd_P D := hT.1.2.1
      have eB := hT.2.2.2.2 i (by omega)
      have hB := nd_B_lt hw i
      have hsc := nd_sc_le hw (nd_M D 2) i
      have hx := nd_x_lt hw (p := i) hc
      have htp1 := nd_tp_in (S := nd_Se D (nd_M D 1) c k 1) (nd_sc_le hw (nd_M D 2)) i
      have htp2 := nd_tp_in (S := nd_Se D (nd_M D 1) c k 2) (nd_sc_le hw (nd_M D 2)) i
      refine bk59_36 ⟨by omega, by omega, fun q => by omega, fun _ => ⟨by omega, nb_rand _ _, ?_⟩⟩
      simp only [Int.toNat_natCast]
      rw [eB, nb_and (by omega) (by omega)]
      refine ⟨fun q => ih (i + 1) _ _ (by omega) (by omega) hj ?_ ?_, fun q => c5 hw hT.1 rfl rfl (by omega) hc ⟨by omega, by omega, fun q2 => c56 hw hT rfl rfl (by omega) hs (c24_18 ht2 (by omega) (by omega) (by omega) (fun u hu hu2 => ih (i + 1) _ _ (by omega) (by omega) (fun j a b => by rw [hu j b]; exact hj j a b) ?_ ?_)), fun q2 => c56 hw hT rfl rfl (by omega) hs (c24_17 ht1 (by omega) (by omega) (by omega) (fun u hu hu2 => ih (i + 1) _ _ (by omega) (by omega) (fun j a b => by rw [hu j a]; exact hj j a b) ?_ ?_))⟩⟩
      · have : nd_Se D (nd_M D 1) c k 1 i = false := by simp [nd_Se]; intro z; omega
        simp [nd_tp, this]
        exact ht1
      · have : nd_Se D (nd_M D 1) c k 2 i = false := by simp [nd_Se]; intro z; omega
        simp [nd_tp, this]
        exact ht2
      · have : nd_Se D (nd_M D 1) c k 1 i = false := by simp [nd_Se]; omega
        simp [nd_tp, this]
        exact ht1.to (hu 17 (by decide))
      · have : nd_Se D (nd_M D 1) c k 2 i = true := by simp [nd_Se]; omega
        simp [nd_tp, this]
        exact hu2
      · have : nd_Se D (nd_M D 1) c k 1 i = true := by simp [nd_Se]; omega
        simp [nd_tp, this]
        exact hu2
      · have : nd_Se D (nd_M D 1) c k 2 i = false := by simp [nd_Se]; omega
        simp [nd_tp, this]
        exact ht2.to (hu 18 (by decide))
  refine nw_TV_of (by decide) (Nat.le_of_ble_eq_true rfl) (bk59_0 (c17 hw hC.2.1 (by decide) (c17 hw hC.2.1 (by decide) (c23_17 (fun u hu ht => c23_18 (fun u2 hu2 ht2 => key (nd_P D) 0 u2 _ (by omega) rfl (fun j a b => by rw [hu2 j b]; exact hu j a) (ht.to (hu2 17 (by decide))) ht2))))))
end NC4
end
section
section NC5
variable {G : nw_G} {σ : nw_S} {D : nd_D}
def nd_bp (t : nd_T) : Int := if t.1 = 0 then -1 else t.2.2.1
set_option maxHeartbeats 2000000 in
theorem c87 {Φ : Int → nw_S → Prop} (hw : nd_wf D) (hC : nm_st D σ) {x1 x2 x3 x4 x5 : Int} {hd s c k how : Nat} (h1 : x1 = hd) (h2 : x2 = s) (h3 : x3 = c) (h4 : x4 = k) (h5 : x5 = how) (hh : hd < 4096) (hs : s < 4096) (hhow : how ≤ 2) (hc : how ≠ 0 → c < nd_n D) (hk : k < 6) (h : ∀ u : nw_S, nc_mo D u → nm_fr D u → (∀ k, k < 26 → u k = σ k) → ((nd_tq D hd s c k how).1 ≠ 0 → u 26 14 = (nd_tq D hd s c k how).2.1) → Φ (nd_bp (nd_tq D hd s c k how)) u) : nw_TI G 87 [.inl 26, .inr x1, .inr x2, .inr x3, .inr x4, .inr x5] σ Φ := by
  subst h1
  subst h2
  subst h3
  subst h4
  subst h5
  have hP := nd_P_le hw
  have key : ∀ (q i : Nat) (τ : nw_S) (x6 x8 : Int), i + q = nd_P D → x8 = i → nc_mo D τ → nm_fr D τ → (∀ k, k < 26 → τ k = σ k) → x6 = nd_bp (nd_tp (nd_Se D hd c k how) (nd_sc D s) i) → ((nd_tp (nd_Se D hd c k how) (nd_sc D s) i).1 ≠ 0 → τ 26 14 = (nd_tp (nd_Se D hd c k how) (nd_sc D s) i).2.1) → nw_V G 87 (nw_pi Φ) 16 [some (.inl 26), some (.inr (hd : Int)), some (.inr (s : Int)), some (.inr (c : Int)), some (.inr (k : Int)), some (.inr (how : Int)), some (.inr x6), some (.inr (nd_P D : Int)), some (.inr x8), none, none] [] τ := by
    intro q
    induction q with
    | zero =>
      intro i τ x6 x8 hi h8 hM hF hj h6 hg
      subst h8
      have hi : i = nd_P D := by omega
      subst hi
      subst h6
      exact bk87_16 ⟨by omega, by omega, fun _ => h τ hM hF hj hg, fun q => by omega⟩
    | succ q ih =>
      intro i τ x6 x8 hi h8 hM hF hj h6 hg
      subst h8
      subst h6
      have hB := nd_B_lt hw i
      have eB := hF.2 i (by omega)
      have hsc := nd_sc_le hw s i
      have htp := nd_tp_in (S := nd_Se D hd c k how) (nd_sc_le hw s) i
      -- a plan that doesn't count
      have skip : ∀ u : nw_S, (∀ k, k ≠ 37 → u k = τ k) → nd_Se D hd c k how i = false → nw_V G 87 (nw_pi Φ) 16 [some (.inl 26), some (.inr (hd : Int)), some (.inr (s : Int)), some (.inr (c : Int)), some (.inr (k : Int)), some (.inr (how : Int)), some (.inr (nd_bp (nd_tp (nd_Se D hd c k how) (nd_sc D s) i))), some (.inr (nd_P D : Int)), some (.inr ((i : Int) + 1)), none, none] [] u := by
        intro u hu hS
        have e26 := hu 26 (by decide)
        refine ih (i + 1) u _ _ (by omega) (by omega) (hM.to (fun k _ _ _ => hu k (by omega)) (by rw [e26]) (by rw [e26])) ⟨by rw [e26]; exact hF.1, by rw [hu 35 (by decide)]; exact hF.2⟩ (fun k q => by rw [hu k (by omega)]; exact hj k q) ?_ ?_
        · simp [nd_tp, hS]
        · simp [nd_tp, hS]
          rw [e26]
          exact hg
      -- one that does
      have step : ∀ u : nw_S, (∀ k, k ≠ 37 → u k = τ k) → nd_Se D hd c k how i = true → (nw_r (nd_bp (nd_tp (nd_Se D hd c k how) (nd_sc D s) i))) ∧ ((nd_bp (nd_tp (nd_Se D hd c k how) (nd_sc D s) i) = (-1) → nw_V G 87 (nw_pi Φ) 16 [some (.inl 26), some (.inr (hd : Int)), some (.inr (s : Int)), some (.inr (c : Int)), some (.inr (k : Int)), some (.inr (how : Int)), some (.inr (i : Int)), some (.inr (nd_P D : Int)), some (.inr ((i : Int) + 1)), none, none] [] (nw_up u 26 14 (nd_sc D s i))) ∧ (nd_bp (nd_tp (nd_Se D hd c k how) (nd_sc D s) i) ≠ (-1) → (nw_r (nd_sc D s i)) ∧ ((nw_r (u 26 14)) ∧ ((nd_sc D s i ≤ (u 26 14) → nw_V G 87 (nw_pi Φ) 16 [some (.inl 26), some (.inr (hd : Int)), some (.inr (s : Int)), some (.inr (c : Int)), some (.inr (k : Int)), some (.inr (how : Int)), some (.inr (nd_bp (nd_tp (nd_Se D hd c k how) (nd_sc D s) i))), some (.inr (nd_P D : Int)), some (.inr ((i : Int) + 1)), none, none] [] u) ∧ ((u 26 14) < nd_sc D s i → nw_V G 87 (nw_pi Φ) 16 [some (.inl 26), some (.inr (hd : Int)), some (.inr (s : Int)), some (.inr (c : Int)), some (.inr (k : Int)), some (.inr (how : Int)), some (.inr (i : Int)), some (.inr (nd_P D : Int)), some (.inr ((i : Int) + 1)), none, none] [] (nw_up u 26 14 (nd_sc D s i))))))) := by
        intro u hu hS
        have e26 := hu 26 (by decide)
        have hMu : nc_mo D u := hM.to (fun k _ _ _ => hu k (by omega)) (by rw [e26]) (by rw [e26])
        have hFu : nm_fr D u := ⟨by rw [e26]; exact hF.1, by rw [hu 35 (by decide)]; exact hF.2⟩
        have hju : ∀ k, k < 26 → u k = σ k := fun k q => by rw [hu k (by omega)]; exact hj k q
        have hM2 : nc_mo D (nw_up u 26 14 (nd_sc D s i)) := hMu.to (fun k _ _ z => nu_ne z) (nu_nj (by decide)) (nu_nj (by decide))
        have hF2 : nm_fr D (nw_up u 26 14 (nd_sc D s i)) := ⟨by rw [nu_nj (by decide)]; exact hFu.1, by rw [nu_ne (by decide)]; exact hFu.2⟩
        have hj2 : ∀ k, k < 26 → nw_up u 26 14 (nd_sc D s i) k = σ k := fun k q => by rw [nu_ne (by omega)]; exact hju k q
        have hnext : nd_tp (nd_Se D hd c k how) (nd_sc D s) (i + 1) = nd_see (nd_tp (nd_Se D hd c k how) (nd_sc D s) i) i (nd_sc D s i) := by simp [nd_tp, hS]
        have ih' := ih (i + 1)
        rw [hnext] at ih'
        rw [e26]
        generalize nd_tp (nd_Se D hd c k how) (nd_sc D s) i = t at *
        have hbp : nd_bp t = -1 ↔ t.1 = 0 := by
          unfold nd_bp
          split
          · simp [*]
          · constructor
            · intro z; omega
            · intro z; contradiction
        have hbr : nw_r (nd_bp t) := by
          unfold nd_bp
          split <;> omega
        refine ⟨hbr, fun q1 => ?_, fun q1 => ⟨by omega, ?_, fun q2 => ?_, fun q2 => ?_⟩⟩
        · have q1 := hbp.mp q1
          have hsee : nd_see t i (nd_sc D s i) = (t.1 + 1, nd_sc D s i, (i : Int), 1) := by unfold nd_see; rw [if_pos (Or.inl q1)]
          rw [hsee] at ih'
          refine ih' _ _ _ (by omega) (by omega) hM2 hF2 hj2 ?_ (fun _ => nu_at)
          unfold nd_bp
          rw [if_neg (by dsimp only; omega)]
        · rw [hg (fun z => q1 (hbp.mpr z))]; omega
        · have q0 : t.1 ≠ 0 := fun z => q1 (hbp.mpr z)
          rw [hg q0] at q2
          have hb2 : nd_bp (nd_see t i (nd_sc D s i)) = nd_bp t ∧ (nd_see t i (nd_sc D s i)).2.1 = t.2.1 := by
            unfold nd_see
            rw [if_neg (fun z => by omega)]
            split
            · refine ⟨?_, rfl⟩
              unfold nd_bp
              rw [if_neg (by dsimp only; omega), if_neg q0]
            · refine ⟨?_, rfl⟩
              unfold nd_bp
              rw [if_neg (by dsimp only; omega), if_neg q0]
          refine ih' _ _ _ (by omega) (by omega) hMu hFu hju hb2.1.symm (fun _ => ?_)
          rw [hb2.2, e26, hg q0]
        · have q0 : t.1 ≠ 0 := fun z => q1 (hbp.mpr z)
          rw [hg q0] at q2
          have hsee : nd_see t i (nd_sc D s i) = (t.1 + 1, nd_sc D s i, (i : Int), 1) := by unfold nd_see; rw [if_pos (Or.inr q2)]
          rw [hsee] at ih'
          refine ih' _ _ _ (by omega) (by omega) hM2 hF2 hj2 ?_ (fun _ => nu_at)
          unfold nd_bp
          rw [if_neg (by dsimp only; omega)]
      refine bk87_16 ⟨by omega, by omega, fun q => by omega, fun _ => ⟨by omega, nb_rand _ _, ?_⟩⟩
      simp only [Int.toNat_natCast]
      rw [eB, nb_and (by omega) (by omega)]
      refine ⟨fun q => skip τ (fun _ _ => rfl) (by simp [nd_Se]; intro z; omega), fun q => ⟨by omega, fun q5 => ?_, fun q5 => ?_⟩⟩
      · exact c86 hw hM hF rfl rfl (by omega) hs (fun u hu => step u hu (by simp [nd_Se]; omega))
      · refine c84 hw hM rfl rfl (by omega) (hc (by omega)) (fun u hu => ?_)
        have hx := nd_x_lt hw (p := i) (hc (by omega))
        have e26 := hu 26 (by decide)
        have hMu : nc_mo D u := hM.to (fun k _ _ _ => hu k (by omega)) (by rw [e26]) (by rw [e26])
        have hFu : nm_fr D u := ⟨by rw [e26]; exact hF.1, by rw [hu 35 (by decide)]; exact hF.2⟩
        refine ⟨by omega, by omega, fun q6 => ⟨fun q7 => ?_, fun q7 => skip u hu (by simp [nd_Se]; omega)⟩, fun q6 => ⟨fun q7 => skip u hu (by simp [nd_Se]; omega), fun q7 => ?_⟩⟩
        · exact c86 hw hMu hFu rfl rfl (by omega) hs (fun u2 hu2 => step u2 (fun k z => by rw [hu2 k z]; exact hu k z) (by simp [nd_Se]; omega))
        · exact c86 hw hMu hFu rfl rfl (by omega) hs (fun u2 hu2 => step u2 (fun k z => by rw [hu2 k z]; exact hu k z) (by simp [nd_Se]; omega))
  exact nw_TI_of (by decide) (Nat.le_of_ble_eq_true rfl) (bk87_0 (c81 hw hC (fun u hM hF hj hg => c77 hw hM (key (nd_P D) 0 u _ _ (by omega) rfl hM hF hj rfl (fun z => absurd rfl z)))))
theorem c88 {Φ : Int → nw_S → Prop} (hw : nd_wf D) (hC : nm_st D σ) (h : ∀ u : nw_S, nc_mo D u → nm_fr D u → (∀ k, k < 26 → u k = σ k) → ((nd_tw D).1 ≠ 0 → u 26 14 = (nd_tw D).2.1) → Φ (nd_bp (nd_tw D)) u) : nw_TI G 88 [.inl 26] σ Φ :=
  nw_TI_of (by decide) (Nat.le_of_ble_eq_true rfl) (bk88_0 (c82 hw hC.1 (by decide) (c82 hw hC.1 (by decide) (c87 hw hC rfl rfl (c := 0) rfl (k := 0) rfl (how := 0) rfl (nd_M_lt hw 1).2 (nd_M_lt hw 2).2 (by decide) (fun z => absurd rfl z) (by decide) h))))
/-- how many stand; how many of them with a score -/
theorem c96 {Φ : Int → nw_S → Prop} (hw : nd_wf D) (hC : nm_st D σ) {x1 x2 : Int} (h1 : x1 = 0 ∨ x1 = 1) (h2 : nw_r x2) (h : ∀ u : nw_S, nc_mo D u → nm_fr D u → (∀ k, k < 26 → u k = σ k) → Φ (if x1 = 0 then (nd_tw D).1 else nd_cq (nd_Se D (nd_M D 1) 0 0 0) (nd_sc D (nd_M D 2)) x2 (nd_P D)) u) : nw_TI G 96 [.inl 26, .inr x1, .inr x2] σ Φ := by
  have hP := nd_P_le hw
  have hh := (nd_M_lt hw 1).2
  have hs := (nd_M_lt hw 2).2
  have key : ∀ (q i : Nat) (τ : nw_S) (x5 x7 : Int), i + q = nd_P D → x7 = i → nc_mo D τ → nm_fr D τ → (∀ k, k < 26 → τ k = σ k) → x5 = (if x1 = 0 then (nd_tp (nd_Se D (nd_M D 1) 0 0 0) (nd_sc D (nd_M D 2)) i).1 else nd_cq (nd_Se D (nd_M D 1) 0 0 0) (nd_sc D (nd_M D 2)) x2 i) → nw_V G 96 (nw_pi Φ) 29 [some (.inl 26), some (.inr x1), some (.inr x2), some (.inr (nd_M D 1 : Int)), some (.inr (nd_M D 2 : Int)), some (.inr x5), some (.inr (nd_P D : Int)), some (.inr x7)] [] τ := by
    intro q
    induction q with
    | zero =>
      intro i τ x5 x7 hi h7 hM hF hj h5
      subst h7
      have hi : i = nd_P D := by omega
      subst hi
      subst h5
      exact bk96_29 ⟨by omega, by omega, fun _ => h τ hM hF hj, fun q => by omega⟩
    | succ q ih =>
      intro i τ x5 x7 hi h7 hM hF hj h5
      subst h7
      have hB := nd_B_lt hw i
      have eB := hF.2 i (by omega)
      have hsc := nd_sc_le hw (nd_M D 2) i
      have hse : ∀ t : nd_T, (nd_see t i (nd_sc D (nd_M D 2) i)).1 = t.1 + 1 := by
        intro t
        unfold nd_see
        split
        · rfl
        · split <;> rfl
      refine bk96_29 ⟨by omega, by omega, fun q => by omega, fun _ => ⟨by omega, nb_rand _ _, ?_⟩⟩
      simp only [Int.toNat_natCast]
      rw [eB, nb_and (by omega) (by omega)]
      refine ⟨fun q => ih (i + 1) _ _ _ (by omega) (by omega) hM hF hj ?_, fun q => ⟨by omega, fun q5 => ih (i + 1) _ _ _ (by omega) (by omega) hM hF hj ?_, fun q5 => c86 hw hM hF rfl rfl (by omega) hs (fun u hu => ?_)⟩⟩
      · have hS : nd_Se D (nd_M D 1) 0 0 0 i = false := by simp [nd_Se]; omega
        simp [nd_tp, nd_cq, hS, h5]
      · have hS : nd_Se D (nd_M D 1) 0 0 0 i = true := by simp [nd_Se]; omega
        simp [nd_tp, hS, h5, q5, hse]
      · have hS : nd_Se D (nd_M D 1) 0 0 0 i = true := by simp [nd_Se]; omega
        have e26 := hu 26 (by decide)
        have hMu : nc_mo D u := hM.to (fun k _ _ _ => hu k (by omega)) (by rw [e26]) (by rw [e26])
        have hFu : nm_fr D u := ⟨by rw [e26]; exact hF.1, by rw [hu 35 (by decide)]; exact hF.2⟩
        have hju : ∀ k, k < 26 → u k = σ k := fun k q => by rw [hu k (by omega)]; exact hj k q
        refine ⟨by omega, h2, fun q6 => ih (i + 1) _ _ _ (by omega) (by omega) hMu hFu hju ?_, fun q6 => ih (i + 1) _ _ _ (by omega) (by omega) hMu hFu hju ?_⟩
        · simp [nd_cq, hS, h5, q5, q6]
        · simp [nd_cq, hS, h5, q5, q6]
  refine nw_TI_of (by decide) (Nat.le_of_ble_eq_true rfl) (bk96_0 (c81 hw hC (fun u hM hF hj hg => c82 hw hM (by decide) (c82 hw hM (by decide) (c77 hw hM (key (nd_P D) 0 u _ _ (by omega) rfl hM hF hj ?_))))))
  simp [nd_tp, nd_cq]
end NC5
end
section
section NC6
variable {G : nw_G} {σ : nw_S} {D : nd_D}
/-! sets of rules -/
def nd_kt (D : nd_D) (p : Nat) : Nat := nd_M D 1 &&& (4095 ^^^ nd_B D p)
/-- some plan keeps all of s -/
def nd_can (D : nd_D) (s : Nat) : Prop := ∃ p, p < nd_P D ∧ s &&& nd_kt D p = s
def nd_cl (D : nd_D) (s : Nat) : Prop := s &&& nd_M D 1 = s ∧ ¬ nd_can D s ∧ ∀ r, r < 12 → s.testBit r = true → nd_can D (s ^^^ 2 ^ r)
def nd_rx (D : nd_D) (s : Nat) : Prop := s &&& nd_M D 1 = s ∧ nd_can D (nd_M D 1 &&& (4095 ^^^ s)) ∧ ∀ r, r < 12 → s.testBit r = true → ¬ nd_can D ((nd_M D 1 &&& (4095 ^^^ s)) ||| 2 ^ r)
def nd_bc (s : Nat) : Nat → Int
  | 0 => 0
  | r + 1 => nd_bc s r + (if s.testBit r then 1 else 0)
def nd_lt (key : Nat → Int) (a b : Nat) : Prop := key a < key b ∨ (key a = key b ∧ a < b)
noncomputable def nd_cv (V : Nat → Prop) : Nat → Int
  | 0 => 0
  | N + 1 => nd_cv V N + @ite Int (V N) (Classical.propDecidable _) 1 0
/-- a listing at cell k holds the sets below N that V says, in their order -/
def nc_L (V : Nat → Prop) (key : Nat → Int) (N k : Nat) (σ : nw_S) : Prop := ∃ n : Nat, σ k 0 = n ∧ n ≤ 924 ∧ (n : Int) = nd_cv V N ∧ (∀ i, i < n → ∃ s : Nat, σ (k + 1) i = s ∧ s < N ∧ V s ∧ σ (k + 2) i = key s) ∧ (∀ i j, i < j → j < n → nd_lt key (σ (k + 1) i).toNat (σ (k + 1) j).toNat) ∧ ∀ s, s < N → V s → ∃ i, i < n ∧ σ (k + 1) i = s
def nc_po (D : nd_D) (σ : nw_S) : Prop := ∀ s, s < 2 ^ nd_r D → (σ 19 s = 1 ∧ nd_can D s) ∨ (σ 19 s = 0 ∧ ¬ nd_can D s)
def nc_li (D : nd_D) (σ : nw_S) : Prop := nc_po D σ ∧ nc_L (nd_cl D) (fun s => nd_bc s 12) (2 ^ nd_r D) 20 σ ∧ nc_L (nd_rx D) (nd_C D) (2 ^ nd_r D) 23 σ
def nc_ls (D : nd_D) (σ : nw_S) : Prop := σ 0 11 = 1 ∨ (σ 0 11 = 0 ∧ nc_li D σ)
def nc_st (D : nd_D) (σ : nw_S) : Prop := nc_al D σ ∧ nc_wh D σ ∧ nc_ls D σ
theorem nc_L.to {V : Nat → Prop} {key : Nat → Int} {N k : Nat} {u : nw_S} (h : nc_L V key N k σ) (e0 : u k = σ k) (e1 : u (k + 1) = σ (k + 1)) (e2 : u (k + 2) = σ (k + 2)) : nc_L V key N k u := by
  unfold nc_L
  rw [e0, e1, e2]
  exact h
theorem nc_li.to {u : nw_S} (h : nc_li D σ) (e : ∀ k, 19 ≤ k → k < 26 → u k = σ k) : nc_li D u := by
  obtain ⟨h1, h2, h3⟩ := h
  refine ⟨fun s hs => ?_, h2.to (e _ (by omega) (by omega)) (e _ (by omega) (by omega)) (e _ (by omega) (by omega)), h3.to (e _ (by omega) (by omega)) (e _ (by omega) (by omega)) (e _ (by omega) (by omega))⟩
  rw [e 19 (by omega) (by omega)]
  exact h1 s hs
theorem nc_ls.to {u : nw_S} (h : nc_ls D σ) (e0 : u 0 11 = σ 0 11) (e : ∀ k, 19 ≤ k → k < 26 → u k = σ k) : nc_ls D u := by
  rcases h with h | h
  · exact Or.inl (by rw [e0]; exact h)
  · exact Or.inr ⟨by rw [e0]; exact h.1, h.2.to e⟩
/-! the answers -/
noncomputable def nd_it (P : Prop) (a b : Int) : Int := @ite Int P (Classical.propDecidable P) a b
theorem nd_it_t {P : Prop} {a b : Int} (h : P) : nd_it P a b = a := if_pos h
theorem nd_it_f {P : Prop} {a b : Int} (h : ¬ P) : nd_it P a b = b := if_neg h
def nd_isC (D : nd_D) (a : Int) : Prop := 0 ≤ a ∧ a < nd_n D
def nd_isK (D : nd_D) (a k : Int) : Prop := nd_isC D a ∧ 0 ≤ k ∧ k < nd_m D a.toNat
def nd_isR (D : nd_D) (a : Int) : Prop := 0 ≤ a ∧ a < nd_r D
def nd_tc (D : nd_D) (a k : Int) (how : Nat) : nd_T := nd_tq D (nd_M D 1) (nd_M D 2) a.toNat k.toNat how
noncomputable def nq_best (D : nd_D) : Int := nd_it ((nd_tw D).1 = 0) (-1000004) (nd_tw D).2.1
noncomputable def nq_pick (D : nd_D) (a : Int) : Int := nd_it (nd_isC D a) (nd_it ((nd_tw D).1 = 0) (-1000004) (nd_x D (nd_tw D).2.2.1.toNat a.toNat)) (-1000001)
def nd_fx (D : nd_D) (a : Int) : Prop := ∃ q : Nat, (nd_tw D).2.2.1 < q ∧ q < nd_P D ∧ nd_Se D (nd_M D 1) 0 0 0 q = true ∧ nd_sc D (nd_M D 2) q = (nd_tw D).2.1 ∧ nd_x D q a.toNat ≠ nd_x D (nd_tw D).2.2.1.toNat a.toNat
noncomputable def nq_fixed (D : nd_D) (a : Int) : Int := nd_it (nd_isC D a) (nd_it ((nd_tw D).1 = 0) (-1000004) (nd_it (nd_fx D a) (-1) (nd_x D (nd_tw D).2.2.1.toNat a.toNat))) (-1000001)
noncomputable def nq_force (D : nd_D) (a k : Int) (how : Nat) : Int := nd_it (nd_isK D a k) (nd_it ((nd_tc D a k how).1 = 0) (-1000004) (nd_tc D a k how).2.1) (-1000001)
noncomputable def nq_forced (D : nd_D) (a k o : Int) : Int := nd_it (nd_isK D a k ∧ nd_isC D o) (nd_it ((nd_tc D a k 1).1 = 0) (-1000004) (nd_x D (nd_tc D a k 1).2.2.1.toNat o.toNat)) (-1000001)
/-- by how much the best of t must grow to be the best of both -/
noncomputable def nd_lack (t o : nd_T) : Int := nd_it (o.1 = 0) 0 (nd_it (t.2.2.1 < o.2.2.1) (if o.2.1 - t.2.1 < 0 then 0 else o.2.1 - t.2.1) (if o.2.1 - t.2.1 + 1 < 0 then 0 else o.2.1 - t.2.1 + 1))
noncomputable def nq_raise (D : nd_D) (a k : Int) (i j : Nat) : Int := nd_it (nd_isK D a k) (nd_it ((nd_tc D a k i).1 = 0) (-1000004) (nd_lack (nd_tc D a k i) (nd_tc D a k j))) (-1000001)
def nd_off (D : nd_D) (r : Nat) : Nat := 4095 ^^^ 2 ^ r
noncomputable def nq_price (D : nd_D) (a : Int) : Int := nd_it (nd_isR D a) (nd_it ((nd_tw D).1 = 0) (-1000004) ((nd_tq D (nd_M D 1 &&& nd_off D a.toNat) (nd_M D 2 &&& nd_off D a.toNat) 0 0 0).2.1 - (nd_tw D).2.1)) (-1000001)
/-! the class's answers -/
theorem nc_st.whole (hC : nc_st D σ) {u : nw_S} (e : ∀ j, j ≠ 0 → j ≠ 16 → u j = σ j) (e0 : ∀ j, j ≠ 5 → u 0 j = σ 0 j) (e5 : u 0 5 = 0) (ht : nc_tp 16 u (nd_tw D)) : nc_st D u := ⟨hC.1.to (fun k _ _ => e k (by omega) (by omega)), Or.inr ⟨e5, ht⟩, hC.2.2.to (e0 11 (by decide)) (fun k _ _ => e k (by omega) (by omega))⟩
theorem nc_st.parts (hC : nc_st D σ) {u : nw_S} (e : ∀ j, j ≠ 15 → j ≠ 17 → j ≠ 18 → j < 26 → u j = σ j) : nc_st D u := by
  refine ⟨hC.1.to (fun k _ _ => e k (by omega) (by omega) (by omega) (by omega)), ?_, hC.2.2.to (by rw [e 0 (by omega) (by omega) (by omega) (by omega)]) (fun k _ _ => e k (by omega) (by omega) (by omega) (by omega))⟩
  rcases hC.2.1 with h | h
  · exact Or.inl (by rw [e 0 (by omega) (by omega) (by omega) (by omega)]; exact h)
  · exact Or.inr ⟨by rw [e 0 (by omega) (by omega) (by omega) (by omega)]; exact h.1, h.2.to (e 16 (by omega) (by omega) (by omega) (by omega))⟩
theorem c1' {Φ : Int → nw_S → Prop} (hw : nd_wf D) (hC : nc_ch D σ) {x1 : Int} (hr : nw_r x1) (ht : nd_isC D x1 → Φ 1 σ) (hf : ¬ nd_isC D x1 → Φ 0 σ) : nw_TI G 1 [.inl 1, .inr x1] σ Φ := by
  have e := hC.1
  have hn := hw.1
  exact c1 hr (by omega) (fun a b => ht ⟨a, by omega⟩) (fun a => hf (fun z => by have := z.1; have := z.2; omega))
theorem c2' {Φ : Int → nw_S → Prop} (hw : nd_wf D) (hC : nc_ch D σ) {x1 x2 : Int} (h1 : nw_r x1) (h2 : nw_r x2) (ht : nd_isK D x1 x2 → Φ 1 σ) (hf : ¬ nd_isK D x1 x2 → Φ 0 σ) : nw_TI G 2 [.inl 1, .inr x1, .inr x2] σ Φ := by
  refine c2 hw hC h1 h2 (fun c k hc hk a b => ht ?_) (fun q => hf (fun z => ?_))
  · subst hc
    subst hk
    refine ⟨⟨by omega, by omega⟩, by omega, ?_⟩
    rw [Int.toNat_natCast]
    omega
  · obtain ⟨⟨z1, z2⟩, z3, z4⟩ := z
    exact q x1.toNat x2.toNat (by omega) (by omega) (by omega) (by omega)
theorem c34 {Φ : Int → nw_S → Prop} (hw : nd_wf D) (hC : nc_st D σ) (h : ∀ u : nw_S, nc_st D u → (∀ k, 26 ≤ k → u k = σ k) → Φ (nq_best D) u) : nw_TI G 34 [.inl 0] σ Φ := by
  refine nw_TI_of (by decide) (Nat.le_of_ble_eq_true rfl) (bk34_0 (c58 hw hC.1 hC.2.1 (fun u e e0 e5 ht => ?_)))
  have hb := nd_tq_in hw (nd_M D 1) (nd_M D 2) 0 0 0
  have hu := hC.whole e e0 e5 ht
  have hf : ∀ k, 26 ≤ k → u k = σ k := fun k q => e k (by omega) (by omega)
  obtain ⟨t0, t1, -, -⟩ := ht
  rw [t0, t1]
  refine ⟨by unfold nd_tw; omega, fun q => ?_, fun q => ?_⟩
  · have := h u hu hf
    rw [nq_best, nd_it_f q] at this
    exact this
  · have := h u hu hf
    rw [nq_best, nd_it_t q] at this
    exact this
theorem c35 {Φ : Int → nw_S → Prop} (hw : nd_wf D) (hC : nc_st D σ) {x1 : Int} (h1 : nw_r x1) (h : ∀ u : nw_S, nc_st D u → (∀ k, 26 ≤ k → u k = σ k) → Φ (nq_pick D x1) u) : nw_TI G 35 [.inl 0, .inr x1] σ Φ := by
  have hP := nd_P_le hw
  have hb := nd_tq_in hw (nd_M D 1) (nd_M D 2) 0 0 0
  refine nw_TI_of (by decide) (Nat.le_of_ble_eq_true rfl) (bk35_0 (c1' hw hC.1.1 h1 (fun z => ?_) (fun z => ?_)))
  · have h := fun u => h u
    rw [nq_pick, nd_it_t z] at h
    refine ⟨by decide, fun _ => c58 hw hC.1 hC.2.1 (fun u e e0 e5 ht => ?_), fun q => absurd q (by decide)⟩
    have hu := hC.whole e e0 e5 ht
    have hf : ∀ k, 26 ≤ k → u k = σ k := fun k q => e k (by omega) (by omega)
    obtain ⟨t0, t1, t2, -⟩ := ht
    rw [t0, t2]
    obtain ⟨z1, z2⟩ := z
    refine ⟨by unfold nd_tw; omega, fun q => ?_, fun q => ?_⟩
    · rw [nd_it_f q] at h
      have hlt := hb.2.2.1.2.1 q
      exact c5 hw hu.1.1 (p := (nd_tw D).2.2.1.toNat) (c := x1.toNat) (by unfold nd_tw; omega) (by omega) (by unfold nd_tw; omega) (by omega) (h u hu hf)
    · rw [nd_it_t q] at h
      exact h u hu hf
  · rw [nq_pick, nd_it_f z] at h
    exact ⟨by decide, fun q => absurd rfl q, fun _ => h σ hC (fun _ _ => rfl)⟩
theorem c36 {Φ : Int → nw_S → Prop} (hw : nd_wf D) (hC : nc_st D σ) {x1 : Int} (h1 : nw_r x1) (h : ∀ u : nw_S, nc_st D u → (∀ k, 26 ≤ k → u k = σ k) → Φ (nq_fixed D x1) u) : nw_TI G 36 [.inl 0, .inr x1] σ Φ := by
  have hP := nd_P_le hw
  have hb := nd_tq_in hw (nd_M D 1) (nd_M D 2) 0 0 0
  have hh := (nd_M_lt hw 1).2
  have hs := (nd_M_lt hw 2).2
  refine nw_TI_of (by decide) (Nat.le_of_ble_eq_true rfl) (bk36_0 (c1' hw hC.1.1 h1 (fun z => ?_) (fun z => ?_)))
  · rw [nq_fixed, nd_it_t z] at h
    refine ⟨by decide, fun _ => c58 hw hC.1 hC.2.1 (fun u e e0 e5 ht => ?_), fun q => absurd q (by decide)⟩
    have hu := hC.whole e e0 e5 ht
    have hf : ∀ k, 26 ≤ k → u k = σ k := fun k q => e k (by omega) (by omega)
    obtain ⟨t0, t1, t2, -⟩ := ht
    rw [t0]
    obtain ⟨z1, z2⟩ := z
    refine ⟨by unfold nd_tw; omega, fun q => ?_, fun q => ?_⟩
    · rw [nd_it_f q] at h
      have hlt := hb.2.2.1.2.1 q
      have hlt : (nd_tw D).2.2.1 < nd_P D := hlt
      have hge : 0 ≤ (nd_tw D).2.2.1 := hb.2.2.1.1
      have hgr : -17000 ≤ (nd_tw D).2.1 ∧ (nd_tw D).2.1 ≤ 5000 := hb.2.1
      have hxf := nd_x_lt hw (p := (nd_tw D).2.2.1.toNat) (c := x1.toNat) (by omega)
      have key : ∀ (w i : Nat) (x5 : Int), i + w = nd_P D → x5 = i → (nd_tw D).2.2.1 < i → (¬ ∃ q : Nat, (nd_tw D).2.2.1 < q ∧ q < i ∧ nd_Se D (nd_M D 1) 0 0 0 q = true ∧ nd_sc D (nd_M D 2) q = (nd_tw D).2.1 ∧ nd_x D q x1.toNat ≠ nd_x D (nd_tw D).2.2.1.toNat x1.toNat) → nw_V G 36 (nw_pi Φ) 77 [some (.inl 0), some (.inr x1), some (.inr (nd_M D 1 : Int)), some (.inr (nd_M D 2 : Int)), some (.inr (nd_x D (nd_tw D).2.2.1.toNat x1.toNat : Int)), some (.inr x5)] [] u := by
        intro w
        induction w with
        | zero =>
          intro i x5 hi h5 hfi hno
          subst h5
          have hi : i = nd_P D := by omega
          subst hi
          have e : u 1 1 = nd_P D := hu.1.1.2.1
          rw [nd_it_f (show ¬ nd_fx D x1 from hno)] at h
          exact bk36_77 ⟨by omega, by omega, fun _ => h u hu hf, fun q => by omega⟩
        | succ w ih =>
          intro i x5 hi h5 hfi hno
          subst h5
          have e : u 1 1 = nd_P D := hu.1.1.2.1
          have eB := hu.1.2.2.2.2 i (by omega)
          have hB := nd_B_lt hw i
          have hsc := nd_sc_le hw (nd_M D 2) i
          have hx := nd_x_lt hw (p := i) (c := x1.toNat) (by omega)
          have more : (nd_Se D (nd_M D 1) 0 0 0 i = true → nd_sc D (nd_M D 2) i = (nd_tw D).2.1 → nd_x D i x1.toNat = nd_x D (nd_tw D).2.2.1.toNat x1.toNat) → ¬ ∃ q : Nat, (nd_tw D).2.2.1 < q ∧ q < i + 1 ∧ nd_Se D (nd_M D 1) 0 0 0 q = true ∧ nd_sc D (nd_M D 2) q = (nd_tw D).2.1 ∧ nd_x D q x1.toNat ≠ nd_x D (nd_tw D).2.2.1.toNat x1.toNat := by
            rintro hm ⟨q, a1, a2, a3, a4, a5⟩
            by_cases hq : q = i
            · subst hq
              exact a5 (hm a3 a4)
            · exact hno ⟨q, a1, by omega, a3, a4, a5⟩
          refine bk36_77 ⟨by omega, by omega, fun q => by omega, fun _ => ⟨by omega, nb_rand _ _, ?_⟩⟩
          simp only [Int.toNat_natCast]
          rw [eB, nb_and (by omega) (by omega)]
          refine ⟨fun q => ih (i + 1) _ (by omega) (by omega) (by omega) (more (fun a => ?_)), fun q => c56 hw hu.1 rfl rfl (by omega) hs ⟨by omega, by rw [t1]; omega, fun q2 => ih (i + 1) _ (by omega) (by omega) (by omega) (more (fun _ a => ?_)), fun q2 => c5 hw hu.1.1 rfl (c := x1.toNat) (by omega) (by omega) (by omega) ⟨by omega, by omega, fun q3 => ih (i + 1) _ (by omega) (by omega) (by omega) (more (fun _ _ => by omega)), fun q3 => ?_⟩⟩⟩
          · simp [nd_Se] at a
            omega
          · rw [t1] at q2
            exact absurd a q2
          · rw [t1] at q2
            rw [nd_it_t (show nd_fx D x1 from ⟨i, hfi, by omega, by simp [nd_Se]; omega, q2, fun z => q3 (by rw [z])⟩)] at h
            exact h u hu hf
      have e5 := hu.1.1
      refine c17 hw hu.1.2.1 (by decide) (c17 hw hu.1.2.1 (by decide) (c5 hw hu.1.1 (p := (nd_tw D).2.2.1.toNat) (c := x1.toNat) (by omega) (by omega) (by omega) (by omega) ?_))
      rw [t2]
      exact key (nd_P D - ((nd_tw D).2.2.1.toNat + 1)) ((nd_tw D).2.2.1.toNat + 1) _ (by omega) (by omega) (by omega) (fun ⟨q, a1, a2, _⟩ => by omega)
    · rw [nd_it_t q] at h
      exact h u hu hf
  · rw [nq_fixed, nd_it_f z] at h
    exact ⟨by decide, fun q => absurd rfl q, fun _ => h σ hC (fun _ _ => rfl)⟩
end NC6
end
section
section NC7
variable {G : nw_G} {σ : nw_S} {D : nd_D}
theorem nd_tc_in (hw : nd_wf D) (a k : Int) (how : Nat) : (0 ≤ (nd_tc D a k how).1 ∧ (nd_tc D a k how).1 ≤ 7776) ∧ (-17000 ≤ (nd_tc D a k how).2.1 ∧ (nd_tc D a k how).2.1 ≤ 5000) ∧ (0 ≤ (nd_tc D a k how).2.2.1 ∧ ((nd_tc D a k how).1 ≠ 0 → (nd_tc D a k how).2.2.1 < nd_P D) ∧ (nd_tc D a k how).2.2.1 ≤ 7776) ∧ (0 ≤ (nd_tc D a k how).2.2.2 ∧ (nd_tc D a k how).2.2.2 ≤ 7776) := nd_tq_in hw _ _ _ _ _
theorem c59' {Φ : nw_S → Prop} (hw : nd_wf D) (hC : nc_st D σ) {x1 x2 : Int} (z : nd_isK D x1 x2) (h : ∀ u : nw_S, nc_st D u → (∀ k, 26 ≤ k → u k = σ k) → nc_tp 17 u (nd_tc D x1 x2 1) → nc_tp 18 u (nd_tc D x1 x2 2) → Φ u) : nw_TV G 59 [.inl 0, .inr x1, .inr x2] σ Φ := by
  obtain ⟨⟨z1, z2⟩, z3, z4⟩ := z
  exact c59 hw hC.1 (c := x1.toNat) (k := x2.toNat) (by omega) (by omega) (by omega) (by omega) (fun u e t1 t2 => h u (hC.parts (fun j _ a b _ => e j a b)) (fun k q => e k (by omega) (by omega)) t1 t2)
theorem c37 {Φ : Int → nw_S → Prop} (hw : nd_wf D) (hC : nc_st D σ) {x1 x2 : Int} (h1 : nw_r x1) (h2 : nw_r x2) (h : ∀ u : nw_S, nc_st D u → (∀ k, 26 ≤ k → u k = σ k) → Φ (nq_force D x1 x2 1) u) : nw_TI G 37 [.inl 0, .inr x1, .inr x2] σ Φ := by
  refine nw_TI_of (by decide) (Nat.le_of_ble_eq_true rfl) (bk37_0 (c2' hw hC.1.1 h1 h2 (fun z => ?_) (fun z => ?_)))
  · rw [nq_force, nd_it_t z] at h
    refine ⟨by decide, fun _ => c59' hw hC z (fun u hu hf t1 t2 => ?_), fun q => absurd q (by decide)⟩
    have hb := nd_tc_in hw x1 x2 1
    obtain ⟨s0, s1, -, -⟩ := t1
    rw [s0, s1]
    refine ⟨by omega, fun q => ?_, fun q => ?_⟩
    · rw [nd_it_f q] at h; exact h u hu hf
    · rw [nd_it_t q] at h; exact h u hu hf
  · rw [nq_force, nd_it_f z] at h
    exact ⟨by decide, fun q => absurd rfl q, fun _ => h σ hC (fun _ _ => rfl)⟩
theorem c39 {Φ : Int → nw_S → Prop} (hw : nd_wf D) (hC : nc_st D σ) {x1 x2 : Int} (h1 : nw_r x1) (h2 : nw_r x2) (h : ∀ u : nw_S, nc_st D u → (∀ k, 26 ≤ k → u k = σ k) → Φ (nq_force D x1 x2 2) u) : nw_TI G 39 [.inl 0, .inr x1, .inr x2] σ Φ := by
  refine nw_TI_of (by decide) (Nat.le_of_ble_eq_true rfl) (bk39_0 (c2' hw hC.1.1 h1 h2 (fun z => ?_) (fun z => ?_)))
  · rw [nq_force, nd_it_t z] at h
    refine ⟨by decide, fun _ => c59' hw hC z (fun u hu hf t1 t2 => ?_), fun q => absurd q (by decide)⟩
    have hb := nd_tc_in hw x1 x2 2
    obtain ⟨s0, s1, -, -⟩ := t2
    rw [s0, s1]
    refine ⟨by omega, fun q => ?_, fun q => ?_⟩
    · rw [nd_it_f q] at h; exact h u hu hf
    · rw [nd_it_t q] at h; exact h u hu hf
  · rw [nq_force, nd_it_f z] at h
    exact ⟨by decide, fun q => absurd rfl q, fun _ => h σ hC (fun _ _ => rfl)⟩
theorem c38 {Φ : Int → nw_S → Prop} (hw : nd_wf D) (hC : nc_st D σ) {x1 x2 x3 : Int} (h1 : nw_r x1) (h2 : nw_r x2) (h3 : nw_r x3) (h : ∀ u : nw_S, nc_st D u → (∀ k, 26 ≤ k → u k = σ k) → Φ (nq_forced D x1 x2 x3) u) : nw_TI G 38 [.inl 0, .inr x1, .inr x2, .inr x3] σ Φ := by
  have hP := nd_P_le hw
  refine nw_TI_of (by decide) (Nat.le_of_ble_eq_true rfl) (bk38_0 (c2' hw hC.1.1 h1 h2 (fun z => ?_) (fun z => ?_)))
  · refine ⟨by decide, fun q => absurd q (by decide), fun _ => c1' hw hC.1.1 h3 (fun z3 => ?_) (fun z3 => ?_)⟩
    · rw [nq_forced, nd_it_t ⟨z, z3⟩] at h
      refine ⟨by decide, fun _ => c59' hw hC z (fun u hu hf t1 t2 => ?_), fun q => absurd q (by decide)⟩
      have hb := nd_tc_in hw x1 x2 1
      obtain ⟨s0, s1, s2, -⟩ := t1
      rw [s0, s2]
      obtain ⟨z31, z32⟩ := z3
      refine ⟨by omega, fun q => ?_, fun q => ?_⟩
      · rw [nd_it_f q] at h
        have hlt := hb.2.2.1.2.1 q
        exact c5 hw hu.1.1 (p := (nd_tc D x1 x2 1).2.2.1.toNat) (c := x3.toNat) (by omega) (by omega) (by omega) (by omega) (h u hu hf)
      · rw [nd_it_t q] at h; exact h u hu hf
    · rw [nq_forced, nd_it_f (fun y => z3 y.2)] at h
      exact ⟨by decide, fun q => absurd rfl q, fun _ => h σ hC (fun _ _ => rfl)⟩
  · rw [nq_forced, nd_it_f (fun y => z y.1)] at h
    exact ⟨by decide, fun _ => h σ hC (fun _ _ => rfl), fun q => absurd rfl q⟩
theorem c25a {Φ : Int → nw_S → Prop} {t o : nd_T} (ht : nc_tp 17 σ t) (ho : nc_tp 18 σ o) (r0 : 0 ≤ o.1 ∧ o.1 ≤ 7776) (rt : -17000 ≤ t.2.1 ∧ t.2.1 ≤ 5000) (ro : -17000 ≤ o.2.1 ∧ o.2.1 ≤ 5000) (rt2 : 0 ≤ t.2.2.1 ∧ t.2.2.1 ≤ 7776) (ro2 : 0 ≤ o.2.2.1 ∧ o.2.2.1 ≤ 7776) (h : Φ (nd_lack t o) σ) : nw_TI G 25 [.inl 17, .inl 18] σ Φ := by
  obtain ⟨t0, t1, t2, t3⟩ := ht
  obtain ⟨o0, o1, o2, o3⟩ := ho
  refine nw_TI_of (by decide) (Nat.le_of_ble_eq_true rfl) (bk25_0a ?_)
  rw [t1, t2, o0, o1, o2]
  refine ⟨by omega, fun q => ⟨by omega, by omega, fun q2 => ⟨by omega, ?_⟩, fun q2 => ⟨by omega, ?_⟩⟩, fun q => ?_⟩
  · rw [nd_lack, nd_it_f q, nd_it_f (by omega)] at h; exact h
  · rw [nd_lack, nd_it_f q, nd_it_t q2] at h; rw [Int.add_zero]; exact h
  · rw [nd_lack, nd_it_t q] at h; exact h
theorem c25b {Φ : Int → nw_S → Prop} {t o : nd_T} (ht : nc_tp 18 σ t) (ho : nc_tp 17 σ o) (r0 : 0 ≤ o.1 ∧ o.1 ≤ 7776) (rt : -17000 ≤ t.2.1 ∧ t.2.1 ≤ 5000) (ro : -17000 ≤ o.2.1 ∧ o.2.1 ≤ 5000) (rt2 : 0 ≤ t.2.2.1 ∧ t.2.2.1 ≤ 7776) (ro2 : 0 ≤ o.2.2.1 ∧ o.2.2.1 ≤ 7776) (h : Φ (nd_lack t o) σ) : nw_TI G 25 [.inl 18, .inl 17] σ Φ := by
  obtain ⟨t0, t1, t2, t3⟩ := ht
  obtain ⟨o0, o1, o2, o3⟩ := ho
  refine nw_TI_of (by decide) (Nat.le_of_ble_eq_true rfl) (bk25_0b ?_)
  rw [t1, t2, o0, o1, o2]
  refine ⟨by omega, fun q => ⟨by omega, by omega, fun q2 => ⟨by omega, ?_⟩, fun q2 => ⟨by omega, ?_⟩⟩, fun q => ?_⟩
  · rw [nd_lack, nd_it_f q, nd_it_f (by omega)] at h; exact h
  · rw [nd_lack, nd_it_f q, nd_it_t q2] at h; rw [Int.add_zero]; exact h
  · rw [nd_lack, nd_it_t q] at h; exact h
theorem c40 {Φ : Int → nw_S → Prop} (hw : nd_wf D) (hC : nc_st D σ) {x1 x2 : Int} (h1 : nw_r x1) (h2 : nw_r x2) (h : ∀ u : nw_S, nc_st D u → (∀ k, 26 ≤ k → u k = σ k) → Φ (nq_raise D x1 x2 1 2) u) : nw_TI G 40 [.inl 0, .inr x1, .inr x2] σ Φ := by
  refine nw_TI_of (by decide) (Nat.le_of_ble_eq_true rfl) (bk40_0 (c2' hw hC.1.1 h1 h2 (fun z => ?_) (fun z => ?_)))
  · rw [nq_raise, nd_it_t z] at h
    refine ⟨by decide, fun _ => c59' hw hC z (fun u hu hf t1 t2 => ?_), fun q => absurd q (by decide)⟩
    have hb := nd_tc_in hw x1 x2 1
    have hb2 := nd_tc_in hw x1 x2 2
    rw [t1.1]
    refine ⟨by omega, fun q => c25a t1 t2 hb2.1 hb.2.1 hb2.2.1 ⟨hb.2.2.1.1, hb.2.2.1.2.2⟩ ⟨hb2.2.2.1.1, hb2.2.2.1.2.2⟩ ?_, fun q => ?_⟩
    · rw [nd_it_f q] at h; exact h u hu hf
    · rw [nd_it_t q] at h; exact h u hu hf
  · rw [nq_raise, nd_it_f z] at h
    exact ⟨by decide, fun q => absurd rfl q, fun _ => h σ hC (fun _ _ => rfl)⟩
theorem c41 {Φ : Int → nw_S → Prop} (hw : nd_wf D) (hC : nc_st D σ) {x1 x2 : Int} (h1 : nw_r x1) (h2 : nw_r x2) (h : ∀ u : nw_S, nc_st D u → (∀ k, 26 ≤ k → u k = σ k) → Φ (nq_raise D x1 x2 2 1) u) : nw_TI G 41 [.inl 0, .inr x1, .inr x2] σ Φ := by
  refine nw_TI_of (by decide) (Nat.le_of_ble_eq_true rfl) (bk41_0 (c2' hw hC.1.1 h1 h2 (fun z => ?_) (fun z => ?_)))
  · rw [nq_raise, nd_it_t z] at h
    refine ⟨by decide, fun _ => c59' hw hC z (fun u hu hf t1 t2 => ?_), fun q => absurd q (by decide)⟩
    have hb := nd_tc_in hw x1 x2 2
    have hb2 := nd_tc_in hw x1 x2 1
    rw [t2.1]
    refine ⟨by omega, fun q => c25b t2 t1 hb2.1 hb.2.1 hb2.2.1 ⟨hb.2.2.1.1, hb.2.2.1.2.2⟩ ⟨hb2.2.2.1.1, hb2.2.2.1.2.2⟩ ?_, fun q => ?_⟩
    · rw [nd_it_f q] at h; exact h u hu hf
    · rw [nd_it_t q] at h; exact h u hu hf
  · rw [nq_raise, nd_it_f z] at h
    exact ⟨by decide, fun q => absurd rfl q, fun _ => h σ hC (fun _ _ => rfl)⟩
theorem c13' {Φ : Int → nw_S → Prop} (hw : nd_wf D) (hC : nc_ru D σ) {x1 : Int} (hr : nw_r x1) (ht : nd_isR D x1 → Φ 1 σ) (hf : ¬ nd_isR D x1 → Φ 0 σ) : nw_TI G 13 [.inl 6, .inr x1] σ Φ := by
  have e := hC.1
  have hn := hw.2.2.2.2.1
  exact c13 hr (by omega) (fun a b => ht ⟨a, by omega⟩) (fun a => hf (fun z => by have := z.1; have := z.2; omega))
theorem nd_bit {r : Nat} (h : r < 12) : 2 ^ r < 4096 := Nat.pow_lt_pow_right (by decide) (show r < 12 from h)
theorem c47 {Φ : Int → nw_S → Prop} (hw : nd_wf D) (hC : nc_st D σ) {x1 : Int} (h1 : nw_r x1) (h : ∀ u : nw_S, nc_st D u → (∀ k, 26 ≤ k → u k = σ k) → Φ (nq_price D x1) u) : nw_TI G 47 [.inl 0, .inr x1] σ Φ := by
  have hR := hw.2.2.2.2.1
  have hb := nd_tq_in hw (nd_M D 1) (nd_M D 2) 0 0 0
  refine nw_TI_of (by decide) (Nat.le_of_ble_eq_true rfl) (bk47_0 (c13' hw hC.1.2.1 h1 (fun z => ?_) (fun z => ?_)))
  · rw [nq_price, nd_it_t z] at h
    obtain ⟨z1, z2⟩ := z
    refine ⟨by decide, fun _ => c58 hw hC.1 hC.2.1 (fun u e e0 e5 ht => ?_), fun q => absurd q (by decide)⟩
    have hu := hC.whole e e0 e5 ht
    have hf : ∀ k, 26 ≤ k → u k = σ k := fun k q => e k (by omega) (by omega)
    obtain ⟨t0, t1, t2, t3⟩ := ht
    rw [t0]
    refine ⟨by unfold nd_tw; omega, fun q => c17 hw hu.1.2.1 (by decide) (c17 hw hu.1.2.1 (by decide) ?_), fun q => ?_⟩
    · rw [nd_it_f q] at h
      obtain ⟨r, hr⟩ : ∃ r : Nat, x1 = r := ⟨x1.toNat, by omega⟩
      subst hr
      have hr12 : r < 12 := by omega
      have h2r := nd_bit hr12
      have hM1 := (nd_M_lt hw 1).2
      have hM2 := (nd_M_lt hw 2).2
      rw [nb_shl (by omega), nb_dif hM1 h2r, nb_dif hM2 h2r]
      refine c57b hw hu.1 rfl rfl (Nat.lt_of_le_of_lt Nat.and_le_left hM1) (Nat.lt_of_le_of_lt Nat.and_le_left hM2) (fun u2 e2 ht2 => ?_)
      rw [ht2.2.1, e2 16 (by decide), t1]
      rw [Int.toNat_natCast] at h
      exact h u2 (hu.parts (fun j _ _ q _ => e2 j q)) (fun k q => by rw [e2 k (by omega)]; exact hf k q)
    · rw [nd_it_t q] at h; exact h u hu hf
  · rw [nq_price, nd_it_f z] at h
    exact ⟨by decide, fun q => absurd rfl q, fun _ => h σ hC (fun _ _ => rfl)⟩
end NC7
end
section
section NC8
variable {G : nw_G} {σ : nw_S} {D : nd_D}
theorem nd_tp_first {S : Nat → Bool} {sc : Nat → Int} : ∀ i : Nat, (nd_tp S sc i).1 ≠ 0 → ∃ p : Nat, (nd_tp S sc i).2.2.1 = p ∧ p < i ∧ S p = true
  | 0, h => absurd rfl h
  | i + 1, h => by
    have ih := nd_tp_first (S := S) (sc := sc) i
    unfold nd_tp at h ⊢
    by_cases hS : S i = true
    · rw [if_pos hS] at h ⊢
      generalize nd_tp S sc i = t at *
      unfold nd_see at h ⊢
      split
      · exact ⟨i, rfl, by omega, hS⟩
      · rename_i q
        have q1 : t.1 ≠ 0 := fun z => q (Or.inl z)
        obtain ⟨p, a, b, c⟩ := ih q1
        split
        · exact ⟨p, a, by omega, c⟩
        · exact ⟨p, a, by omega, c⟩
    · rw [if_neg hS] at h ⊢
      obtain ⟨p, a, b, c⟩ := ih h
      exact ⟨p, a, by omega, c⟩
theorem nd_tp_pos {S : Nat → Bool} {sc : Nat → Int} (hs : ∀ p, -17000 ≤ sc p ∧ sc p ≤ 5000) : ∀ (i p : Nat), p < i → S p = true → (nd_tp S sc i).1 ≠ 0
  | 0, p, h, _ => by omega
  | i + 1, p, h, hp => by
    have h0 := (nd_tp_in (S := S) hs i).1.1
    unfold nd_tp
    by_cases hS : S i = true
    · rw [if_pos hS]
      generalize nd_tp S sc i = t at *
      have : (nd_see t i (sc i)).1 = t.1 + 1 := by
        unfold nd_see
        split
        · rfl
        · split <;> rfl
      omega
    · rw [if_neg hS]
      have : p ≠ i := fun z => hS (z ▸ hp)
      exact nd_tp_pos hs i p (by omega) hp
theorem nd_bp_iff {t : nd_T} (h : 0 ≤ t.2.2.1) : nd_bp t = -1 ↔ t.1 = 0 := by
  unfold nd_bp
  split
  · simp [*]
  · constructor
    · intro z; omega
    · intro z; contradiction
theorem nd_bp_ne {t : nd_T} (h : t.1 ≠ 0) : nd_bp t = t.2.2.1 := if_neg h
theorem nd_bp_r {t : nd_T} (h : 0 ≤ t.2.2.1 ∧ t.2.2.1 ≤ 7776) : nw_r (nd_bp t) := by
  unfold nd_bp
  split <;> omega
theorem c67' {Φ : Int → nw_S → Prop} (hw : nd_wf D) (hC : nc_mo D σ) {x1 : Int} (h1 : nw_r x1) (ht : nd_isC D x1 → Φ 1 σ) (hf : ¬ nd_isC D x1 → Φ 0 σ) : nw_TI G 67 [.inl 26, .inr x1] σ Φ :=
  c67 hw hC h1 (fun c hc a => ht ⟨by omega, by omega⟩) (fun q => hf (fun z => q x1.toNat (by have := z.1; omega) (by have := z.1; have := z.2; omega)))
theorem c69' {Φ : Int → nw_S → Prop} (hw : nd_wf D) (hC : nc_mo D σ) {x1 : Int} (h1 : nw_r x1) (ht : nd_isR D x1 → Φ 1 σ) (hf : ¬ nd_isR D x1 → Φ 0 σ) : nw_TI G 69 [.inl 26, .inr x1] σ Φ :=
  c69 hw hC h1 (fun c hc a => ht ⟨by omega, by omega⟩) (fun q => hf (fun z => q x1.toNat (by have := z.1; omega) (by have := z.1; have := z.2; omega)))
theorem c68' {Φ : Int → nw_S → Prop} (hw : nd_wf D) (hC : nc_mo D σ) {x1 x2 : Int} (h1 : nw_r x1) (h2 : nw_r x2) (ht : nd_isK D x1 x2 → Φ 1 σ) (hf : ¬ nd_isK D x1 x2 → Φ 0 σ) : nw_TI G 68 [.inl 26, .inr x1, .inr x2] σ Φ := by
  refine c68 hw hC h1 h2 (fun c k hc hk a b => ht ?_) (fun q => hf (fun z => ?_))
  · subst hc
    subst hk
    refine ⟨⟨by omega, by omega⟩, by omega, ?_⟩
    rw [Int.toNat_natCast]
    omega
  · obtain ⟨⟨z1, z2⟩, z3, z4⟩ := z
    exact q x1.toNat x2.toNat (by omega) (by omega) (by omega) (by omega)
theorem c87' {Φ : Int → nw_S → Prop} (hw : nd_wf D) (hC : nm_st D σ) {x1 x2 x3 x4 x5 : Int} {how : Nat} (h1 : x1 = nd_M D 1) (h2 : x2 = nd_M D 2) (z : nd_isK D x3 x4) (h5 : x5 = how) (hhow : how ≤ 2) (h : ∀ u : nw_S, nm_st D u → (∀ k, k < 26 → u k = σ k) → ((nd_tc D x3 x4 how).1 ≠ 0 → u 26 14 = (nd_tc D x3 x4 how).2.1) → Φ (nd_bp (nd_tc D x3 x4 how)) u) : nw_TI G 87 [.inl 26, .inr x1, .inr x2, .inr x3, .inr x4, .inr x5] σ Φ := by
  obtain ⟨⟨z1, z2⟩, z3, z4⟩ := z
  have hm := hw.2.1 x3.toNat (by omega)
  exact c87 hw hC h1 h2 (c := x3.toNat) (k := x4.toNat) (by omega) (by omega) h5 (nd_M_lt hw 1).2 (nd_M_lt hw 2).2 hhow (fun _ => by omega) (by omega) (fun u a b c d => h u ⟨a, Or.inr b⟩ c d)
theorem m98 {Φ : Int → nw_S → Prop} (hw : nd_wf D) (hC : nm_st D σ) (h : ∀ u : nw_S, nm_st D u → (∀ k, k < 26 → u k = σ k) → Φ (nq_best D) u) : nw_TI G 98 [.inl 26] σ Φ := by
  have hb := nd_tq_in hw (nd_M D 1) (nd_M D 2) 0 0 0
  refine nw_TI_of (by decide) (Nat.le_of_ble_eq_true rfl) (bk98_0 (c88 hw hC (fun u hM hF hj hg => ?_)))
  have hi := nd_bp_iff (t := nd_tw D) hb.2.2.1.1
  refine ⟨nd_bp_r ⟨hb.2.2.1.1, hb.2.2.1.2.2⟩, fun q => ?_, fun q => ?_⟩
  · have q0 : (nd_tw D).1 ≠ 0 := fun z => q (hi.mpr z)
    rw [hg q0]
    rw [nq_best, nd_it_f q0] at h
    exact h u ⟨hM, Or.inr hF⟩ hj
  · rw [nq_best, nd_it_t (hi.mp q)] at h
    exact h u ⟨hM, Or.inr hF⟩ hj
theorem nm_st.x (hC : nm_st D σ) {u : nw_S} (e : ∀ k, k ≠ 37 → u k = σ k) : nm_st D u := by
  have e26 := e 26 (by decide)
  refine ⟨hC.1.to (fun k _ _ _ => e k (by omega)) (by rw [e26]) (by rw [e26]), ?_⟩
  rcases hC.2 with q | q
  · exact Or.inl (by rw [e26]; exact q)
  · exact Or.inr ⟨by rw [e26]; exact q.1, by rw [e 35 (by decide)]; exact q.2⟩
theorem m99 {Φ : Int → nw_S → Prop} (hw : nd_wf D) (hC : nm_st D σ) {x1 : Int} (h1 : nw_r x1) (h : ∀ u : nw_S, nm_st D u → (∀ k, k < 26 → u k = σ k) → Φ (nq_pick D x1) u) : nw_TI G 99 [.inl 26, .inr x1] σ Φ := by
  have hP := nd_P_le hw
  have hb := nd_tq_in hw (nd_M D 1) (nd_M D 2) 0 0 0
  have hi := nd_bp_iff (t := nd_tw D) hb.2.2.1.1
  refine nw_TI_of (by decide) (Nat.le_of_ble_eq_true rfl) (bk99_0 (c67' hw hC.1 h1 (fun z => ?_) (fun z => ?_)))
  · rw [nq_pick, nd_it_t z] at h
    obtain ⟨z1, z2⟩ := z
    refine ⟨by decide, fun _ => c88 hw hC (fun u hM hF hj hg => ⟨nd_bp_r ⟨hb.2.2.1.1, hb.2.2.1.2.2⟩, fun q => ?_, fun q => ?_⟩), fun q => absurd q (by decide)⟩
    · have q0 : (nd_tw D).1 ≠ 0 := fun z => q (hi.mpr z)
      rw [nd_it_f q0] at h
      rw [nd_bp_ne q0]
      have hlt := hb.2.2.1.2.1 q0
      have hlt : (nd_tw D).2.2.1 < nd_P D := hlt
      have hge : 0 ≤ (nd_tw D).2.2.1 := hb.2.2.1.1
      exact c84 hw hM (p := (nd_tw D).2.2.1.toNat) (c := x1.toNat) (by omega) (by omega) (by omega) (by omega) (fun u2 hu2 => h u2 (nm_st.x ⟨hM, Or.inr hF⟩ hu2) (fun k q => by rw [hu2 k (by omega)]; exact hj k q))
    · rw [nd_it_t (hi.mp q)] at h
      exact h u ⟨hM, Or.inr hF⟩ hj
  · rw [nq_pick, nd_it_f z] at h
    exact ⟨by decide, fun q => absurd rfl q, fun _ => h σ hC (fun _ _ => rfl)⟩
theorem m101 {Φ : Int → nw_S → Prop} (hw : nd_wf D) (hC : nm_st D σ) {x1 x2 : Int} (h1 : nw_r x1) (h2 : nw_r x2) (h : ∀ u : nw_S, nm_st D u → (∀ k, k < 26 → u k = σ k) → Φ (nq_force D x1 x2 1) u) : nw_TI G 101 [.inl 26, .inr x1, .inr x2] σ Φ := by
  have hb := nd_tc_in hw x1 x2 1
  have hi := nd_bp_iff (t := nd_tc D x1 x2 1) hb.2.2.1.1
  refine nw_TI_of (by decide) (Nat.le_of_ble_eq_true rfl) (bk101_0 (c68' hw hC.1 h1 h2 (fun z => ?_) (fun z => ?_)))
  · rw [nq_force, nd_it_t z] at h
    refine ⟨by decide, fun _ => c82 hw hC.1 (by decide) (c82 hw hC.1 (by decide) (c87' hw hC rfl rfl z (how := 1) rfl (by decide) (fun u hu hj hg => ⟨nd_bp_r ⟨hb.2.2.1.1, hb.2.2.1.2.2⟩, fun q => ?_, fun q => ?_⟩))), fun q => absurd q (by decide)⟩
    · have q0 : (nd_tc D x1 x2 1).1 ≠ 0 := fun z => q (hi.mpr z)
      rw [nd_it_f q0] at h
      rw [hg q0]
      exact h u hu hj
    · rw [nd_it_t (hi.mp q)] at h
      exact h u hu hj
  · rw [nq_force, nd_it_f z] at h
    exact ⟨by decide, fun q => absurd rfl q, fun _ => h σ hC (fun _ _ => rfl)⟩
theorem m103 {Φ : Int → nw_S → Prop} (hw : nd_wf D) (hC : nm_st D σ) {x1 x2 : Int} (h1 : nw_r x1) (h2 : nw_r x2) (h : ∀ u : nw_S, nm_st D u → (∀ k, k < 26 → u k = σ k) → Φ (nq_force D x1 x2 2) u) : nw_TI G 103 [.inl 26, .inr x1, .inr x2] σ Φ := by
  have hb := nd_tc_in hw x1 x2 2
  have hi := nd_bp_iff (t := nd_tc D x1 x2 2) hb.2.2.1.1
  refine nw_TI_of (by decide) (Nat.le_of_ble_eq_true rfl) (bk103_0 (c68' hw hC.1 h1 h2 (fun z => ?_) (fun z => ?_)))
  · rw [nq_force, nd_it_t z] at h
    refine ⟨by decide, fun _ => c82 hw hC.1 (by decide) (c82 hw hC.1 (by decide) (c87' hw hC rfl rfl z (how := 2) rfl (by decide) (fun u hu hj hg => ⟨nd_bp_r ⟨hb.2.2.1.1, hb.2.2.1.2.2⟩, fun q => ?_, fun q => ?_⟩))), fun q => absurd q (by decide)⟩
    · have q0 : (nd_tc D x1 x2 2).1 ≠ 0 := fun z => q (hi.mpr z)
      rw [nd_it_f q0] at h
      rw [hg q0]
      exact h u hu hj
    · rw [nd_it_t (hi.mp q)] at h
      exact h u hu hj
  · rw [nq_force, nd_it_f z] at h
    exact ⟨by decide, fun q => absurd rfl q, fun _ => h σ hC (fun _ _ => rfl)⟩
theorem m102 {Φ : Int → nw_S → Prop} (hw : nd_wf D) (hC : nm_st D σ) {x1 x2 x3 : Int} (h1 : nw_r x1) (h2 : nw_r x2) (h3 : nw_r x3) (h : ∀ u : nw_S, nm_st D u → (∀ k, k < 26 → u k = σ k) → Φ (nq_forced D x1 x2 x3) u) : nw_TI G 102 [.inl 26, .inr x1, .inr x2, .inr x3] σ Φ := by
  have hP := nd_P_le hw
  have hb := nd_tc_in hw x1 x2 1
  have hi := nd_bp_iff (t := nd_tc D x1 x2 1) hb.2.2.1.1
  refine nw_TI_of (by decide) (Nat.le_of_ble_eq_true rfl) (bk102_0 (c68' hw hC.1 h1 h2 (fun z => ?_) (fun z => ?_)))
  · refine ⟨by decide, fun q => absurd q (by decide), fun _ => c67' hw hC.1 h3 (fun z3 => ?_) (fun z3 => ?_)⟩
    · rw [nq_forced, nd_it_t ⟨z, z3⟩] at h
      refine ⟨by decide, fun _ => c82 hw hC.1 (by decide) (c82 hw hC.1 (by decide) (c87' hw hC rfl rfl z (how := 1) rfl (by decide) (fun u hu hj hg => ⟨nd_bp_r ⟨hb.2.2.1.1, hb.2.2.1.2.2⟩, fun q => ?_, fun q => ?_⟩))), fun q => absurd q (by decide)⟩
      · have q0 : (nd_tc D x1 x2 1).1 ≠ 0 := fun z => q (hi.mpr z)
        rw [nd_it_f q0] at h
        rw [nd_bp_ne q0]
        have hlt := hb.2.2.1.2.1 q0
        obtain ⟨z31, z32⟩ := z3
        exact c84 hw hu.1 (p := (nd_tc D x1 x2 1).2.2.1.toNat) (c := x3.toNat) (by omega) (by omega) (by omega) (by omega) (fun u2 hu2 => h u2 (hu.x hu2) (fun k q => by rw [hu2 k (by omega)]; exact hj k q))
      · rw [nd_it_t (hi.mp q)] at h
        exact h u hu hj
    · rw [nq_forced, nd_it_f (fun y => z3 y.2)] at h
      exact ⟨by decide, fun q => absurd rfl q, fun _ => h σ hC (fun _ _ => rfl)⟩
  · rw [nq_forced, nd_it_f (fun y => z y.1)] at h
    exact ⟨by decide, fun _ => h σ hC (fun _ _ => rfl), fun q => absurd rfl q⟩
/-- a plan with the candidate isn't one without it -/
theorem nd_tc_ne {a k : Int} (h1 : (nd_tc D a k 1).1 ≠ 0) (h2 : (nd_tc D a k 2).1 ≠ 0) : (nd_tc D a k 1).2.2.1 ≠ (nd_tc D a k 2).2.2.1 := by
  obtain ⟨p, e1, -, s1⟩ := nd_tp_first _ h1
  obtain ⟨q, e2, -, s2⟩ := nd_tp_first _ h2
  intro e
  have : p = q := by
    have e1 : (nd_tc D a k 1).2.2.1 = p := e1
    have e2 : (nd_tc D a k 2).2.2.1 = q := e2
    omega
  subst this
  simp [nd_Se] at s1 s2
  exact s2.2 s1.2
theorem m104 {Φ : Int → nw_S → Prop} (hw : nd_wf D) (hC : nm_st D σ) {x1 x2 : Int} (h1 : nw_r x1) (h2 : nw_r x2) (h : ∀ u : nw_S, nm_st D u → (∀ k, k < 26 → u k = σ k) → Φ (nq_raise D x1 x2 1 2) u) : nw_TI G 104 [.inl 26, .inr x1, .inr x2] σ Φ := by
  have hb := nd_tc_in hw x1 x2 1
  have hi := nd_bp_iff (t := nd_tc D x1 x2 1) hb.2.2.1.1
  have hb2 := nd_tc_in hw x1 x2 2
  have hi2 := nd_bp_iff (t := nd_tc D x1 x2 2) hb2.2.2.1.1
  refine nw_TI_of (by decide) (Nat.le_of_ble_eq_true rfl) (bk104_0 (c68' hw hC.1 h1 h2 (fun z => ?_) (fun z => ?_)))
  · rw [nq_raise, nd_it_t z] at h
    refine ⟨by decide, fun _ => c82 hw hC.1 (by decide) (c82 hw hC.1 (by decide) (c87' hw hC rfl rfl z (how := 1) rfl (by decide) (fun u hu hj hg => c82 hw hu.1 (by decide) (c82 hw hu.1 (by decide) (c87' hw hu rfl rfl z (how := 2) rfl (by decide) (fun u2 hu2 hj2 hg2 => ?_)))))), fun q => absurd q (by decide)⟩
    have hj2 : ∀ k, k < 26 → u2 k = σ k := fun k q => by rw [hj2 k q]; exact hj k q
    refine ⟨nd_bp_r ⟨hb.2.2.1.1, hb.2.2.1.2.2⟩, fun q => ⟨nd_bp_r ⟨hb2.2.2.1.1, hb2.2.2.1.2.2⟩, fun q2 => ?_, fun q2 => ?_⟩, fun q => ?_⟩
    · have q0 : (nd_tc D x1 x2 1).1 ≠ 0 := fun z => q (hi.mpr z)
      have q1 : (nd_tc D x1 x2 2).1 ≠ 0 := fun z => q2 (hi2.mpr z)
      rw [nd_it_f q0, nd_lack, nd_it_f q1] at h
      rw [hg q0, hg2 q1, nd_bp_ne q0, nd_bp_ne q1]
      have hne := nd_tc_ne q0 q1
      generalize nd_tc D x1 x2 1 = t at *
      generalize nd_tc D x1 x2 2 = o at *
      have key : ∀ (w : Nat) (x7 L : Int), L = nd_it (t.2.2.1 < o.2.2.1) (if o.2.1 - t.2.1 < 0 then 0 else o.2.1 - t.2.1) (if o.2.1 - t.2.1 + 1 < 0 then 0 else o.2.1 - t.2.1 + 1) → 0 ≤ x7 → x7 + w = L → nw_V G 104 (nw_pi Φ) 80 [some (.inl 26), some (.inr x1), some (.inr x2), some (.inr t.2.2.1), some (.inr t.2.1), some (.inr o.2.2.1), some (.inr o.2.1), some (.inr x7)] [] u2 := by
        intro w
        induction w with
        | zero =>
          intro x7 L hL h7 hw2
          have hΦ := h u2 hu2 hj2
          rw [← hL] at hΦ
          have hx : x7 = L := by omega
          subst hx
          by_cases hlt : t.2.2.1 < o.2.2.1
          · rw [nd_it_t hlt] at hL
            split at hL
            · exact bk104_80 ⟨by omega, by omega, fun a => by omega, fun a => ⟨fun b => hΦ, fun b => ⟨by omega, by omega, fun c => hΦ, fun c => by omega⟩⟩⟩
            · exact bk104_80 ⟨by omega, by omega, fun a => by omega, fun a => ⟨fun b => hΦ, fun b => ⟨by omega, by omega, fun c => hΦ, fun c => by omega⟩⟩⟩
          · rw [nd_it_f hlt] at hL
            split at hL
            · exact bk104_80 ⟨by omega, by omega, fun a => by omega, fun a => ⟨fun b => hΦ, fun b => ⟨by omega, by omega, fun c => hΦ, fun c => by omega⟩⟩⟩
            · exact bk104_80 ⟨by omega, by omega, fun a => by omega, fun a => ⟨fun b => hΦ, fun b => ⟨by omega, by omega, fun c => hΦ, fun c => by omega⟩⟩⟩
        | succ w ih =>
          intro x7 L hL h7 hw2
          have nx := ih (x7 + 1) L hL (by omega) (by omega)
          by_cases hlt : t.2.2.1 < o.2.2.1
          · rw [nd_it_t hlt] at hL
            split at hL
            · exact bk104_80 ⟨by omega, by omega, fun a => nx, fun a => ⟨fun b => by omega, fun b => ⟨by omega, by omega, fun c => by omega, fun c => nx⟩⟩⟩
            · exact bk104_80 ⟨by omega, by omega, fun a => nx, fun a => ⟨fun b => by omega, fun b => ⟨by omega, by omega, fun c => by omega, fun c => nx⟩⟩⟩
          · rw [nd_it_f hlt] at hL
            split at hL
            · exact bk104_80 ⟨by omega, by omega, fun a => nx, fun a => ⟨fun b => by omega, fun b => ⟨by omega, by omega, fun c => by omega, fun c => nx⟩⟩⟩
            · exact bk104_80 ⟨by omega, by omega, fun a => nx, fun a => ⟨fun b => by omega, fun b => ⟨by omega, by omega, fun c => by omega, fun c => nx⟩⟩⟩
      have hL0 : 0 ≤ nd_it (t.2.2.1 < o.2.2.1) (if o.2.1 - t.2.1 < 0 then 0 else o.2.1 - t.2.1) (if o.2.1 - t.2.1 + 1 < 0 then 0 else o.2.1 - t.2.1 + 1) := by
        by_cases hlt : t.2.2.1 < o.2.2.1
        · rw [nd_it_t hlt]; split <;> omega
        · rw [nd_it_f hlt]; split <;> omega
      exact key (Int.toNat _) 0 _ rfl (by omega) (by rw [Int.toNat_of_nonneg hL0, Int.zero_add])
    · have q0 : (nd_tc D x1 x2 1).1 ≠ 0 := fun z => q (hi.mpr z)
      rw [nd_it_f q0, nd_lack, nd_it_t (hi2.mp q2)] at h
      exact h u2 hu2 hj2
    · rw [nd_it_t (hi.mp q)] at h
      exact h u2 hu2 hj2
  · rw [nq_raise, nd_it_f z] at h
    exact ⟨by decide, fun q => absurd rfl q, fun _ => h σ hC (fun _ _ => rfl)⟩
theorem m105 {Φ : Int → nw_S → Prop} (hw : nd_wf D) (hC : nm_st D σ) {x1 x2 : Int} (h1 : nw_r x1) (h2 : nw_r x2) (h : ∀ u : nw_S, nm_st D u → (∀ k, k < 26 → u k = σ k) → Φ (nq_raise D x1 x2 2 1) u) : nw_TI G 105 [.inl 26, .inr x1, .inr x2] σ Φ := by
  have hb := nd_tc_in hw x1 x2 1
  have hi := nd_bp_iff (t := nd_tc D x1 x2 1) hb.2.2.1.1
  have hb2 := nd_tc_in hw x1 x2 2
  have hi2 := nd_bp_iff (t := nd_tc D x1 x2 2) hb2.2.2.1.1
  refine nw_TI_of (by decide) (Nat.le_of_ble_eq_true rfl) (bk105_0 (c68' hw hC.1 h1 h2 (fun z => ?_) (fun z => ?_)))
  · rw [nq_raise, nd_it_t z] at h
    refine ⟨by decide, fun _ => c82 hw hC.1 (by decide) (c82 hw hC.1 (by decide) (c87' hw hC rfl rfl z (how := 1) rfl (by decide) (fun u hu hj hg => c82 hw hu.1 (by decide) (c82 hw hu.1 (by decide) (c87' hw hu rfl rfl z (how := 2) rfl (by decide) (fun u2 hu2 hj2 hg2 => ?_)))))), fun q => absurd q (by decide)⟩
    have hj2 : ∀ k, k < 26 → u2 k = σ k := fun k q => by rw [hj2 k q]; exact hj k q
    refine ⟨nd_bp_r ⟨hb2.2.2.1.1, hb2.2.2.1.2.2⟩, fun q2 => ⟨nd_bp_r ⟨hb.2.2.1.1, hb.2.2.1.2.2⟩, fun q => ?_, fun q => ?_⟩, fun q2 => ?_⟩
    · have q0 : (nd_tc D x1 x2 1).1 ≠ 0 := fun z => q (hi.mpr z)
      have q1 : (nd_tc D x1 x2 2).1 ≠ 0 := fun z => q2 (hi2.mpr z)
      rw [nd_it_f q1, nd_lack, nd_it_f q0] at h
      rw [hg q0, hg2 q1, nd_bp_ne q0, nd_bp_ne q1]
      have hne := nd_tc_ne q0 q1
      generalize nd_tc D x1 x2 1 = o at *
      generalize nd_tc D x1 x2 2 = t at *
      have key : ∀ (w : Nat) (x7 L : Int), L = nd_it (t.2.2.1 < o.2.2.1) (if o.2.1 - t.2.1 < 0 then 0 else o.2.1 - t.2.1) (if o.2.1 - t.2.1 + 1 < 0 then 0 else o.2.1 - t.2.1 + 1) → 0 ≤ x7 → x7 + w = L → nw_V G 105 (nw_pi Φ) 80 [some (.inl 26), some (.inr x1), some (.inr x2), some (.inr o.2.2.1), some (.inr o.2.1), some (.inr t.2.2.1), some (.inr t.2.1), some (.inr x7)] [] u2 := by
        intro w
        induction w with
        | zero =>
          intro x7 L hL h7 hw2
          have hΦ := h u2 hu2 hj2
          rw [← hL] at hΦ
          have hx : x7 = L := by omega
          subst hx
          by_cases hlt : t.2.2.1 < o.2.2.1
          · rw [nd_it_t hlt] at hL
            split at hL
            · exact bk105_80 ⟨by omega, by omega, fun a => by omega, fun a => ⟨fun b => hΦ, fun b => ⟨by omega, by omega, fun c => hΦ, fun c => by omega⟩⟩⟩
            · exact bk105_80 ⟨by omega, by omega, fun a => by omega, fun a => ⟨fun b => hΦ, fun b => ⟨by omega, by omega, fun c => hΦ, fun c => by omega⟩⟩⟩
          · rw [nd_it_f hlt] at hL
            split at hL
            · exact bk105_80 ⟨by omega, by omega, fun a => by omega, fun a => ⟨fun b => hΦ, fun b => ⟨by omega, by omega, fun c => hΦ, fun c => by omega⟩⟩⟩
            · exact bk105_80 ⟨by omega, by omega, fun a => by omega, fun a => ⟨fun b => hΦ, fun b => ⟨by omega, by omega, fun c => hΦ, fun c => by omega⟩⟩⟩
        | succ w ih =>
          intro x7 L hL h7 hw2
          have nx := ih (x7 + 1) L hL (by omega) (by omega)
          by_cases hlt : t.2.2.1 < o.2.2.1
          · rw [nd_it_t hlt] at hL
            split at hL
            · exact bk105_80 ⟨by omega, by omega, fun a => nx, fun a => ⟨fun b => by omega, fun b => ⟨by omega, by omega, fun c => by omega, fun c => nx⟩⟩⟩
            · exact bk105_80 ⟨by omega, by omega, fun a => nx, fun a => ⟨fun b => by omega, fun b => ⟨by omega, by omega, fun c => by omega, fun c => nx⟩⟩⟩
          · rw [nd_it_f hlt] at hL
            split at hL
            · exact bk105_80 ⟨by omega, by omega, fun a => nx, fun a => ⟨fun b => by omega, fun b => ⟨by omega, by omega, fun c => by omega, fun c => nx⟩⟩⟩
            · exact bk105_80 ⟨by omega, by omega, fun a => nx, fun a => ⟨fun b => by omega, fun b => ⟨by omega, by omega, fun c => by omega, fun c => nx⟩⟩⟩
      have hL0 : 0 ≤ nd_it (t.2.2.1 < o.2.2.1) (if o.2.1 - t.2.1 < 0 then 0 else o.2.1 - t.2.1) (if o.2.1 - t.2.1 + 1 < 0 then 0 else o.2.1 - t.2.1 + 1) := by
        by_cases hlt : t.2.2.1 < o.2.2.1
        · rw [nd_it_t hlt]; split <;> omega
        · rw [nd_it_f hlt]; split <;> omega
      exact key (Int.toNat _) 0 _ rfl (by omega) (by rw [Int.toNat_of_nonneg hL0, Int.zero_add])
    · have q1 : (nd_tc D x1 x2 2).1 ≠ 0 := fun z => q2 (hi2.mpr z)
      rw [nd_it_f q1, nd_lack, nd_it_t (hi.mp q)] at h
      exact h u2 hu2 hj2
    · rw [nd_it_t (hi2.mp q2)] at h
      exact h u2 hu2 hj2
  · rw [nq_raise, nd_it_f z] at h
    exact ⟨by decide, fun q => absurd rfl q, fun _ => h σ hC (fun _ _ => rfl)⟩
end NC8
end
section
section NC9
variable {G : nw_G} {σ : nw_S} {D : nd_D}
theorem m100 {Φ : Int → nw_S → Prop} (hw : nd_wf D) (hC : nm_st D σ) {x1 : Int} (h1 : nw_r x1) (h : ∀ u : nw_S, nm_st D u → (∀ k, k < 26 → u k = σ k) → Φ (nq_fixed D x1) u) : nw_TI G 100 [.inl 26, .inr x1] σ Φ := by
  have hP := nd_P_le hw
  have hb := nd_tq_in hw (nd_M D 1) (nd_M D 2) 0 0 0
  have hi := nd_bp_iff (t := nd_tw D) hb.2.2.1.1
  have hh := (nd_M_lt hw 1).2
  have hs := (nd_M_lt hw 2).2
  refine nw_TI_of (by decide) (Nat.le_of_ble_eq_true rfl) (bk100_0 (c67' hw hC.1 h1 (fun z => ?_) (fun z => ?_)))
  · rw [nq_fixed, nd_it_t z] at h
    obtain ⟨z1, z2⟩ := z
    refine ⟨by decide, fun _ => c88 hw hC (fun u hM hF hj hg => ⟨nd_bp_r ⟨hb.2.2.1.1, hb.2.2.1.2.2⟩, fun q => ?_, fun q => ?_⟩), fun q => absurd q (by decide)⟩
    · have q0 : (nd_tw D).1 ≠ 0 := fun z => q (hi.mpr z)
      rw [nd_it_f q0] at h
      rw [nd_bp_ne q0]
      have hg := hg q0
      have hlt := hb.2.2.1.2.1 q0
      have hlt : (nd_tw D).2.2.1 < nd_P D := hlt
      have hge : 0 ≤ (nd_tw D).2.2.1 := hb.2.2.1.1
      have hgr : -17000 ≤ (nd_tw D).2.1 ∧ (nd_tw D).2.1 ≤ 5000 := hb.2.1
      have hxf := nd_x_lt hw (p := (nd_tw D).2.2.1.toNat) (c := x1.toNat) (by omega)
      have key : ∀ (w i : Nat) (τ : nw_S) (x7 : Int), i + w = nd_P D → x7 = i → (nd_tw D).2.2.1 ≤ i → nm_st D τ → nm_fr D τ → (∀ k, k < 26 → τ k = σ k) → τ 26 14 = (nd_tw D).2.1 → (¬ ∃ q : Nat, (nd_tw D).2.2.1 < q ∧ q < i ∧ nd_Se D (nd_M D 1) 0 0 0 q = true ∧ nd_sc D (nd_M D 2) q = (nd_tw D).2.1 ∧ nd_x D q x1.toNat ≠ nd_x D (nd_tw D).2.2.1.toNat x1.toNat) → nw_V G 100 (nw_pi Φ) 54 [some (.inl 26), some (.inr x1), some (.inr (nd_tw D).2.2.1), some (.inr (nd_M D 1 : Int)), some (.inr (nd_M D 2 : Int)), some (.inr (nd_x D (nd_tw D).2.2.1.toNat x1.toNat : Int)), some (.inr (nd_P D : Int)), some (.inr x7)] [] τ := by
        intro w
        induction w with
        | zero =>
          intro i τ x7 hi h7 hfi hT hF hj hg hno
          subst h7
          have hi : i = nd_P D := by omega
          subst hi
          rw [nd_it_f (show ¬ nd_fx D x1 from hno)] at h
          exact bk100_54 ⟨by omega, by omega, fun _ => h τ hT hj, fun q => by omega⟩
        | succ w ih =>
          intro i τ x7 hi h7 hfi hT hF hj hg hno
          subst h7
          have eB := hF.2 i (by omega)
          have hB := nd_B_lt hw i
          have hsc := nd_sc_le hw (nd_M D 2) i
          have hx := nd_x_lt hw (p := i) (c := x1.toNat) (by omega)
          have more : (nd_Se D (nd_M D 1) 0 0 0 i = true → nd_sc D (nd_M D 2) i = (nd_tw D).2.1 → nd_x D i x1.toNat = nd_x D (nd_tw D).2.2.1.toNat x1.toNat) → ¬ ∃ q : Nat, (nd_tw D).2.2.1 < q ∧ q < i + 1 ∧ nd_Se D (nd_M D 1) 0 0 0 q = true ∧ nd_sc D (nd_M D 2) q = (nd_tw D).2.1 ∧ nd_x D q x1.toNat ≠ nd_x D (nd_tw D).2.2.1.toNat x1.toNat := by
            rintro hm ⟨q, a1, a2, a3, a4, a5⟩
            by_cases hq : q = i
            · subst hq
              exact a5 (hm a3 a4)
            · exact hno ⟨q, a1, by omega, a3, a4, a5⟩
          refine bk100_54 ⟨by omega, by omega, fun q => by omega, fun _ => ⟨by omega, nb_rand _ _, ?_⟩⟩
          simp only [Int.toNat_natCast]
          rw [eB, nb_and (by omega) (by omega)]
          refine ⟨fun q => ih (i + 1) _ _ (by omega) (by omega) (by omega) hT hF hj hg (more (fun a => ?_)), fun q => c86 hw hT.1 hF rfl rfl (by omega) hs (fun u1 hu1 => ?_)⟩
          · simp [nd_Se] at a
            omega
          · have e1 := hu1 26 (by decide)
            have hT1 := hT.x hu1
            have hF1 : nm_fr D u1 := ⟨by rw [e1]; exact hF.1, by rw [hu1 35 (by decide)]; exact hF.2⟩
            have hj1 : ∀ k, k < 26 → u1 k = σ k := fun k q => by rw [hu1 k (by omega)]; exact hj k q
            have hg1 : u1 26 14 = (nd_tw D).2.1 := by rw [e1]; exact hg
            rw [hg1]
            refine ⟨by omega, by omega, fun q2 => ih (i + 1) _ _ (by omega) (by omega) (by omega) hT1 hF1 hj1 hg1 (more (fun _ a => absurd a q2)), fun q2 => c84 hw hT1.1 rfl (c := x1.toNat) (by omega) (by omega) (by omega) (fun u2 hu2 => ?_)⟩
            have e2 := hu2 26 (by decide)
            have hT2 := hT1.x hu2
            have hF2 : nm_fr D u2 := ⟨by rw [e2]; exact hF1.1, by rw [hu2 35 (by decide)]; exact hF1.2⟩
            have hj2 : ∀ k, k < 26 → u2 k = σ k := fun k q => by rw [hu2 k (by omega)]; exact hj1 k q
            have hg2 : u2 26 14 = (nd_tw D).2.1 := by rw [e2]; exact hg1
            refine ⟨by omega, by omega, fun q3 => ih (i + 1) _ _ (by omega) (by omega) (by omega) hT2 hF2 hj2 hg2 (more (fun _ _ => by omega)), fun q3 => ?_⟩
            have hfi' : (nd_tw D).2.2.1 < i := by
              rcases Int.lt_or_le (nd_tw D).2.2.1 i with y | y
              · exact y
              · exfalso
                apply q3
                rw [show (nd_tw D).2.2.1.toNat = i from by omega]
            rw [nd_it_t (show nd_fx D x1 from ⟨i, hfi', by omega, by simp [nd_Se]; omega, q2, fun z => q3 (by rw [z])⟩)] at h
            exact h u2 hT2 hj2
      refine c82 hw hM (by decide) (c82 hw hM (by decide) (c84 hw hM (p := (nd_tw D).2.2.1.toNat) (c := x1.toNat) (by omega) (by omega) (by omega) (by omega) (fun u2 hu2 => ?_)))
      have hT2 := nm_st.x ⟨hM, Or.inr hF⟩ hu2
      have e2 := hu2 26 (by decide)
      exact c77 hw hT2.1 (key (nd_P D - (nd_tw D).2.2.1.toNat) (nd_tw D).2.2.1.toNat u2 _ (by omega) (by omega) (by omega) hT2 ⟨by rw [e2]; exact hF.1, by rw [hu2 35 (by decide)]; exact hF.2⟩ (fun k q => by rw [hu2 k (by omega)]; exact hj k q) (by rw [e2]; exact hg) (fun ⟨q, a1, a2, _⟩ => by omega))
    · rw [nd_it_t (hi.mp q)] at h
      exact h u ⟨hM, Or.inr hF⟩ hj
  · rw [nq_fixed, nd_it_f z] at h
    exact ⟨by decide, fun q => absurd rfl q, fun _ => h σ hC (fun _ _ => rfl)⟩
/-! a rule that is off -/
theorem nd_kp_cg {n : Nat} {x : Nat → Nat} {g g' : Nat → Int} (h : ∀ i, i < 4 → g i = g' i) : nd_kp n x g = nd_kp n x g' := by
  unfold nd_kp
  rw [h 0 (by omega), h 1 (by omega), h 2 (by omega), h 3 (by omega)]
theorem nd_bs_cg {n : Nat} {x : Nat → Nat} {f f' : Nat → Nat → Int} : ∀ R : Nat, (∀ i r, i < 4 → r < R → f i r = f' i r) → nd_bs n x f R = nd_bs n x f' R
  | 0, _ => rfl
  | R + 1, h => by
    unfold nd_bs
    rw [nd_bs_cg R (fun i r a b => h i r a (by omega)), nd_kp_cg (g := fun i => f i R) (g' := fun i => f' i R) (fun i a => h i R a (by omega))]
theorem nd_co_cg {s : Nat} {f f' : Nat → Nat → Int} : ∀ R : Nat, (∀ r, r < R → f 4 r = f' 4 r) → nd_co f s R = nd_co f' s R
  | 0, _ => rfl
  | R + 1, h => by
    unfold nd_co
    rw [nd_co_cg R (fun r b => h r (by omega)), h R (by omega)]
theorem nd_md_bit (f : Nat → Nat → Int) (k : Int) : ∀ (R i : Nat), (nd_md f k R).testBit i = (decide (i < R) && decide (f 5 i = k))
  | 0, i => by simp [nd_md]
  | R + 1, i => by
    have ih := nd_md_bit f k R i
    have hlt := nd_md_lt f k R
    unfold nd_md
    by_cases hk : f 5 R = k
    · rw [if_pos hk, Nat.add_comm]
      rcases Nat.lt_trichotomy i R with q | q | q
      · rw [Nat.testBit_two_pow_add_gt q, ih]
        simp [q, show i < R + 1 by omega]
      · subst q
        rw [Nat.testBit_two_pow_add_eq, Nat.testBit_lt_two_pow hlt]
        simp [hk]
      · rw [Nat.testBit_lt_two_pow (Nat.lt_of_lt_of_le (show 2 ^ R + nd_md f k R < 2 ^ (R + 1) by rw [Nat.pow_succ]; omega) (Nat.pow_le_pow_right (by decide) q))]
        simp [show ¬ i < R + 1 by omega]
    · rw [if_neg hk, Nat.add_zero, ih]
      by_cases q : i = R
      · subst q
        simp [hk]
      · have : (i < R + 1) ↔ (i < R) := by omega
        simp [this]
def nd_o0 (D : nd_D) (r : Nat) : nd_D := (nd_n D, nd_m D, nd_w D, nd_r D, fun i q => if i = 5 ∧ q = r then 0 else nd_f D i q)
theorem nd_o0_f (r i q : Nat) : nd_f (nd_o0 D r) i q = if i = 5 ∧ q = r then 0 else nd_f D i q := rfl
theorem nd_o0_wf (hw : nd_wf D) (r : Nat) : nd_wf (nd_o0 D r) := by
  refine ⟨hw.1, hw.2.1, hw.2.2.1, hw.2.2.2.1, hw.2.2.2.2.1, fun q hq => ?_⟩
  have hok := hw.2.2.2.2.2 q hq
  dsimp only [nd_ok] at hok ⊢
  obtain ⟨k1, k2, k3, k4, k5, k6, k7, k8, k9⟩ := hok
  simp only [nd_o0_f]
  refine ⟨fun i hi => ?_, by simpa using k2, by simpa [show nd_n (nd_o0 D r) = nd_n D from rfl] using k3, by simpa [show nd_n (nd_o0 D r) = nd_n D from rfl] using k4, by simpa using k5, by simpa using k6, by simpa using k7, by simpa using k8, ?_⟩
  · split
    · decide
    · exact k1 i hi
  · split
    · decide
    · exact k9
theorem nd_o0_B (r p : Nat) : nd_B (nd_o0 D r) p = nd_B D p := by
  unfold nd_B
  exact nd_bs_cg (nd_r D) (fun i q hi _ => by rw [nd_o0_f, if_neg (by omega)])
theorem nd_o0_C (r s : Nat) : nd_C (nd_o0 D r) s = nd_C D s := by
  unfold nd_C
  exact nd_co_cg (nd_r D) (fun q _ => by rw [nd_o0_f, if_neg (by omega)])
theorem nd_o0_M {r : Nat} (hw : nd_wf D) (hr : r < nd_r D) {k : Int} (hk : k ≠ 0) : nd_M (nd_o0 D r) k = nd_M D k &&& nd_off D r := by
  apply Nat.eq_of_testBit_eq
  intro i
  unfold nd_M nd_off
  rw [nd_md_bit, Nat.testBit_and, nd_md_bit, Nat.testBit_xor, Nat.testBit_two_pow, show (4095 : Nat) = 2 ^ 12 - 1 from rfl, Nat.testBit_two_pow_sub_one, nd_o0_f]
  have hR := hw.2.2.2.2.1
  show (decide (i < nd_r D) && _) = _
  by_cases q : i = r
  · subst q
    simp [hk.symm, show i < 12 by omega]
  · by_cases q2 : i < nd_r D
    · simp [q, Ne.symm q, show i < 12 by omega]
    · simp [q2]
theorem nd_o0_tq (r h s : Nat) : nd_tq (nd_o0 D r) h s 0 0 0 = nd_tq D h s 0 0 0 := by
  unfold nd_tq
  have e1 : nd_Se (nd_o0 D r) h 0 0 0 = nd_Se D h 0 0 0 := by
    funext p
    unfold nd_Se
    rw [nd_o0_B]
    rfl
  have e2 : nd_sc (nd_o0 D r) s = nd_sc D s := by
    funext p
    unfold nd_sc
    rw [nd_o0_B, nd_o0_C]
    rfl
  rw [e1, e2]
  rfl
theorem m111 {Φ : Int → nw_S → Prop} (hw : nd_wf D) (hC : nm_st D σ) {x1 : Int} (h1 : nw_r x1) (h : ∀ u : nw_S, nm_st D u → (∀ k, k < 26 → u k = σ k) → Φ (nq_price D x1) u) : nw_TI G 111 [.inl 26, .inr x1] σ Φ := by
  have hR := hw.2.2.2.2.1
  have hb := nd_tq_in hw (nd_M D 1) (nd_M D 2) 0 0 0
  have hi := nd_bp_iff (t := nd_tw D) hb.2.2.1.1
  refine nw_TI_of (by decide) (Nat.le_of_ble_eq_true rfl) (bk111_0 (c69' hw hC.1 h1 (fun z => ?_) (fun z => ?_)))
  · rw [nq_price, nd_it_t z] at h
    obtain ⟨z1, z2⟩ := z
    obtain ⟨r, hr⟩ : ∃ r : Nat, x1 = r := ⟨x1.toNat, by omega⟩
    subst hr
    have hrr : r < nd_r D := by omega
    refine ⟨by decide, fun _ => c88 hw hC (fun u hM hF hj hg => ⟨nd_bp_r ⟨hb.2.2.1.1, hb.2.2.1.2.2⟩, fun q => ⟨by omega, ?_⟩, fun q => ?_⟩), fun q => absurd q (by decide)⟩
    · have q0 : (nd_tw D).1 ≠ 0 := fun z => q (hi.mpr z)
      rw [nd_it_f q0] at h
      rw [Int.toNat_natCast] at h ⊢
      have hg := hg q0
      have hw' := nd_o0_wf hw r
      have etw : nd_tw (nd_o0 D r) = nd_tq D (nd_M D 1 &&& nd_off D r) (nd_M D 2 &&& nd_off D r) 0 0 0 := by
        unfold nd_tw
        rw [nd_o0_tq, nd_o0_M hw hrr (by decide), nd_o0_M hw hrr (by decide)]
      -- what stood stands
      have hst : (nd_tw (nd_o0 D r)).1 ≠ 0 := by
        obtain ⟨p, e1, e2, e3⟩ := nd_tp_first _ q0
        rw [etw]
        refine nd_tp_pos (nd_sc_le hw _) _ p e2 ?_
        simp [nd_Se] at e3 ⊢
        rw [← Nat.and_assoc, e3, Nat.zero_and]
      have hM' : nc_mo (nd_o0 D r) (nw_up u 34 r 0) := by
        obtain ⟨a1, a2, a3, a4, a5⟩ := hM
        refine ⟨a1, a2, a3, a4, fun i q hi hq => ?_⟩
        rw [nd_o0_f]
        by_cases y : i = 5 ∧ q = r
        · obtain ⟨y1, y2⟩ := y
          subst y1
          subst y2
          rw [if_pos ⟨rfl, rfl⟩]
          exact nu_at
        · rw [if_neg y]
          rw [← a5 i q hi hq]
          unfold nw_up
          rw [if_neg (by omega)]
      have hF' : nm_fr (nd_o0 D r) (nw_up u 34 r 0) := by
        refine ⟨by rw [nu_ne (by decide)]; exact hF.1, fun p hp => ?_⟩
        rw [nu_ne (by decide), nd_o0_B]
        exact hF.2 p hp
      have hb' := nd_tq_in hw' (nd_M (nd_o0 D r) 1) (nd_M (nd_o0 D r) 2) 0 0 0
      have hi' := nd_bp_iff (t := nd_tw (nd_o0 D r)) hb'.2.2.1.1
      refine c88 hw' ⟨hM', Or.inr hF'⟩ (fun u3 hM3 hF3 hj3 hg3 => ⟨nd_bp_r ⟨hb'.2.2.1.1, hb'.2.2.1.2.2⟩, fun q3 => ?_, fun q3 => absurd (hi'.mp q3) hst⟩)
      rw [hg3 hst, hg, etw]
      refine h _ ⟨?_, Or.inr ?_⟩ (fun k q => ?_)
      · obtain ⟨a1, a2, a3, a4, a5⟩ := hM3
        refine ⟨a1, a2, a3, a4, fun i q hi hq => ?_⟩
        by_cases y : i = 5 ∧ q = r
        · obtain ⟨y1, y2⟩ := y
          subst y1
          subst y2
          rw [nu_at]
          exact hM.2.2.2.2 5 q (by decide) hq
        · have := a5 i q hi hq
          rw [nd_o0_f, if_neg y] at this
          rw [← this]
          unfold nw_up
          rw [if_neg (by omega)]
      · refine ⟨by rw [nu_ne (by decide)]; exact hF3.1, fun p hp => ?_⟩
        have := hF3.2 p hp
        rw [nd_o0_B] at this
        rw [nu_ne (by decide)]
        exact this
      · rw [nu_ne (by omega), hj3 k q, nu_ne (by omega)]
        exact hj k q
    · rw [nd_it_t (hi.mp q)] at h
      exact h u ⟨hM, Or.inr hF⟩ hj
  · rw [nq_price, nd_it_f z] at h
    exact ⟨by decide, fun q => absurd rfl q, fun _ => h σ hC (fun _ _ => rfl)⟩
end NC9
end
section
section NC10
variable {G : nw_G} {σ : nw_S} {D : nd_D}
/-! one choice more -/
def nd_aC (D : nd_D) (k : Nat) : nd_D := (nd_n D + 1, fun c => if c = nd_n D then k else nd_m D c, nd_w D, nd_r D, nd_f D)
theorem nd_aC_m {k c : Nat} (h : c < nd_n D) : nd_m (nd_aC D k) c = nd_m D c := if_neg (by omega)
theorem nd_aC_mn {k : Nat} : nd_m (nd_aC D k) (nd_n D) = k := if_pos rfl
theorem nd_ok_mono {n n' : Nat} {g : Nat → Int} (h : nd_ok n g) (hn : n ≤ n') : nd_ok n' g := by
  obtain ⟨k1, k2, k3, k4, k5, k6, k7, k8, k9⟩ := h
  exact ⟨k1, k2, fun q => ⟨(k3 q).1, by have := (k3 q).2; omega⟩, fun q q2 => ⟨(k4 q q2).1, by have := (k4 q q2).2; omega⟩, k5, k6, k7, k8, k9⟩
theorem nd_aC_wf (hw : nd_wf D) {k : Nat} (hn : nd_n D < 5) (h1 : 1 ≤ k) (h6 : k ≤ 6) : nd_wf (nd_aC D k) := by
  refine ⟨hn, fun c hc => ?_, hw.2.2.1, fun i hi => hw.2.2.2.1 i ?_, hw.2.2.2.2.1, fun r hr => nd_ok_mono (hw.2.2.2.2.2 r hr) (Nat.le_succ _)⟩
  · have hc : c < nd_n D + 1 := hc
    by_cases q : c = nd_n D
    · subst q; rw [nd_aC_mn]; exact ⟨h1, h6⟩
    · rw [nd_aC_m (by omega)]; exact hw.2.1 c (by omega)
  · have hi : 6 * (nd_n D + 1) ≤ i := hi
    omega
theorem nd_pl_cg {m m' : Nat → Nat} : ∀ n : Nat, (∀ c, c < n → m c = m' c) → nd_pl m n = nd_pl m' n
  | 0, _ => rfl
  | n + 1, h => by
    unfold nd_pl
    rw [nd_pl_cg n (fun c hc => h c (by omega)), h n (by omega)]
theorem nd_sp_cg {m m' : Nat → Nat} : ∀ n c : Nat, (∀ c, c < n → m c = m' c) → nd_sp m n c = nd_sp m' n c
  | 0, _, _ => rfl
  | n + 1, c, h => by
    unfold nd_sp
    rw [nd_sp_cg n c (fun c hc => h c (by omega)), h n (by omega)]
theorem nd_aC_P {k : Nat} : nd_P (nd_aC D k) = nd_P D * k := by
  show nd_pl _ (nd_n D) * nd_m (nd_aC D k) (nd_n D) = _
  rw [nd_aC_mn, nd_pl_cg (m := nd_m (nd_aC D k)) (m' := nd_m D) (nd_n D) (fun c hc => nd_aC_m hc)]
  rfl
theorem nd_aC_sp {k c : Nat} (h : c < nd_n D) : nd_sp (nd_m (nd_aC D k)) (nd_n D + 1) c = nd_sp (nd_m D) (nd_n D) c * k := by
  show (if c < nd_n D then nd_sp (nd_m (nd_aC D k)) (nd_n D) c * nd_m (nd_aC D k) (nd_n D) else 1) = _
  rw [if_pos h, nd_aC_mn, nd_sp_cg (m := nd_m (nd_aC D k)) (m' := nd_m D) (nd_n D) c (fun c hc => nd_aC_m hc)]
theorem nd_aC_x {k p c : Nat} (h : c < nd_n D) : nd_x (nd_aC D k) p c = nd_x D (p / k) c := by
  unfold nd_x nd_dg
  show p / nd_sp (nd_m (nd_aC D k)) (nd_n D + 1) c % nd_m (nd_aC D k) c = _
  rw [nd_aC_sp h, nd_aC_m h, Nat.mul_comm, ← Nat.div_div_eq_div_mul]
theorem nd_ws_cg {w : Nat → Int} {x x' : Nat → Nat} : ∀ n : Nat, (∀ c, c < n → x c = x' c) → nd_ws w x n = nd_ws w x' n
  | 0, _ => rfl
  | n + 1, h => by
    unfold nd_ws
    rw [nd_ws_cg n (fun c hc => h c (by omega)), h n (by omega)]
theorem nd_aC_U (hw : nd_wf D) {k p : Nat} : nd_U (nd_aC D k) p = nd_U D (p / k) := by
  show nd_ws (nd_w D) (nd_x (nd_aC D k) p) (nd_n D) + nd_w D (6 * nd_n D + nd_x (nd_aC D k) p (nd_n D)) = _
  rw [hw.2.2.2.1 _ (by omega), Int.add_zero]
  exact nd_ws_cg (nd_n D) (fun c hc => nd_aC_x hc)
/-- Choices.read -/
theorem c6 {Φ : nw_S → Prop} (hw : nd_wf D) (hC : nc_ch D σ) {x1 : Int} {p : Nat} (h1 : x1 = p) (hp : p < 7776) (h : ∀ u : nw_S, (∀ j, j ≠ 15 → u j = σ j) → (∀ c, c < nd_n D → u 15 c = nd_x D p c) → Φ u) : nw_TV G 6 [.inl 1, .inr x1, .inl 15] σ Φ := by
  subst h1
  have hn := hw.1
  have key : ∀ (k i : Nat) (τ : nw_S) (x3 : Int), i + k = nd_n D → x3 = i → (∀ j, j ≠ 15 → τ j = σ j) → (∀ c, c < i → τ 15 c = nd_x D p c) → nw_V G 6 (nw_pv Φ) 2 [some (.inl 1), some (.inr (p : Int)), some (.inl 15), some (.inr x3)] [] τ := by
    intro k
    induction k with
    | zero =>
      intro i τ x3 hi h3 hj hx
      subst h3
      have e : τ 1 0 = nd_n D := by rw [hj 1 (by decide)]; exact hC.1
      exact bk6_2 ⟨by omega, by omega, fun _ => h τ hj (fun c hc => hx c (by omega)), fun q => by omega⟩
    | succ k ih =>
      intro i τ x3 hi h3 hj hx
      subst h3
      have e : τ 1 0 = nd_n D := by rw [hj 1 (by decide)]; exact hC.1
      have hT : nc_ch D τ := by
        obtain ⟨a1, a2, a3, a4, a5⟩ := hC
        exact ⟨by rw [hj 1 (by decide)]; exact a1, by rw [hj 1 (by decide)]; exact a2, by rw [hj 2 (by decide)]; exact a3, by rw [hj 3 (by decide)]; exact a4, by rw [hj 4 (by decide)]; exact a5⟩
      refine bk6_2 ⟨by omega, by omega, fun q => by omega, fun _ => c5 hw hT rfl rfl hp (by omega) ⟨by omega, ?_⟩⟩
      simp only [Int.toNat_natCast]
      refine ih (i + 1) _ _ (by omega) (by omega) (fun j q => by rw [nu_ne q]; exact hj j q) (fun c hc => ?_)
      by_cases q : c = i
      · subst q; rw [nu_at]
      · rw [nu_nj q]; exact hx c (by omega)
  exact nw_TV_of (by decide) (Nat.le_of_ble_eq_true rfl) (bk6_0 (key (nd_n D) 0 σ _ (by omega) rfl (fun _ _ => rfl) (fun c hc => by omega)))
/-- judgeFrom -/
theorem c54 {Φ : nw_S → Prop} (hw : nd_wf D) (hC : nc_ch D σ) (hU : nc_ru D σ) {x1 : Int} {ρ : Nat} (h1 : x1 = ρ) (hρ : ρ ≤ nd_r D) (hpre : ∀ p, p < nd_P D → nw_and (σ 14 p) (((2 ^ ρ : Nat) : Int) - 1) = (nd_bs (nd_n D) (nd_x D p) (nd_f D) ρ : Nat)) (h : ∀ u : nw_S, (∀ j, j ≠ 14 → j ≠ 15 → u j = σ j) → (∀ p, p < nd_P D → u 14 p = nd_B D p) → Φ u) : nw_TV G 54 [.inl 0, .inr x1] σ Φ := by
  subst h1
  have hR := hw.2.2.2.2.1
  have hP := nd_P_le hw
  have keep : ∀ τ : nw_S, (∀ j, j ≠ 14 → j ≠ 15 → τ j = σ j) → nc_ch D τ ∧ nc_ru D τ := by
    intro τ hj
    obtain ⟨a1, a2, a3, a4, a5⟩ := hC
    refine ⟨⟨by rw [hj 1 (by decide) (by decide)]; exact a1, by rw [hj 1 (by decide) (by decide)]; exact a2, by rw [hj 2 (by decide) (by decide)]; exact a3, by rw [hj 3 (by decide) (by decide)]; exact a4, by rw [hj 4 (by decide) (by decide)]; exact a5⟩, by rw [hj 6 (by decide) (by decide)]; exact hU.1, fun i r hi hr => ?_⟩
    rw [hj (7 + i) (by omega) (by omega)]; exact hU.2 i r hi hr
  -- the rules of one plan
  have inner : ∀ (p : Nat) (τ : nw_S), p < nd_P D → (∀ j, j ≠ 14 → j ≠ 15 → τ j = σ j) → (∀ c, c < nd_n D → τ 15 c = nd_x D p c) → nw_V G 54 (nw_pv Φ) 8 [some (.inl 0), some (.inr (ρ : Int)), some (.inr (nw_shl 1 (ρ : Int) - 1)), some (.inr ((p : Int) + 1)), none, none] [] (nw_up τ 14 p (nd_B D p)) → ∀ (k i : Nat) (x4 x5 : Int), i + k = nd_r D → x5 = i → x4 = (nd_bs (nd_n D) (nd_x D p) (nd_f D) i : Nat) → nw_V G 54 (nw_pv Φ) 44 [some (.inl 0), some (.inr (ρ : Int)), some (.inr (nw_shl 1 (ρ : Int) - 1)), some (.inr (p : Int)), some (.inr x4), some (.inr x5)] [] τ := by
    intro p τ hp hj hx hnext k
    obtain ⟨hT, hTu⟩ := keep τ hj
    induction k with
    | zero =>
      intro i x4 x5 hi h5 h4
      subst h5
      have hi : i = nd_r D := by omega
      subst hi
      subst h4
      have e := hTu.1
      refine bk54_44 ⟨by omega, by omega, fun _ => ⟨by omega, ?_⟩, fun q => by omega⟩
      simp only [Int.toNat_natCast]
      exact hnext
    | succ k ih =>
      intro i x4 x5 hi h5 h4
      subst h5
      subst h4
      have e := hTu.1
      have en := hT.1
      have hlt := nd_bs_lt (nd_n D) (nd_x D p) (nd_f D) i
      refine bk54_44 ⟨by omega, by omega, fun q => by omega, fun _ => c19 hw hTu (x := nd_x D p) (fun c hc => ⟨hx c hc, (nd_x_lt hw hc).2⟩) rfl (by omega) en (fun q => ?_) (fun q => ?_)⟩
      · refine ⟨by decide, fun _ => ih (i + 1) _ _ (by omega) (by omega) ?_, fun q2 => absurd q2 (by decide)⟩
        simp [nd_bs, q]
      · refine ⟨by decide, fun q2 => absurd rfl q2, fun _ => ih (i + 1) _ _ (by omega) (by omega) ?_⟩
        rw [nd_or hlt (by omega)]
        simp [nd_bs, q]
  have key : ∀ (k p : Nat) (τ : nw_S) (x3 : Int), p + k = nd_P D → x3 = p → (∀ j, j ≠ 14 → j ≠ 15 → τ j = σ j) → (∀ q, q < p → τ 14 q = nd_B D q) → (∀ q, p ≤ q → q < nd_P D → τ 14 q = σ 14 q) → nw_V G 54 (nw_pv Φ) 8 [some (.inl 0), some (.inr (ρ : Int)), some (.inr (nw_shl 1 (ρ : Int) - 1)), some (.inr x3), none, none] [] τ := by
    intro k
    induction k with
    | zero =>
      intro p τ x3 hp h3 hj hB hB2
      subst h3
      have e := (keep τ hj).1.2.1
      exact bk54_8 ⟨by omega, by omega, fun _ => h τ hj (fun q hq => hB q (by omega)), fun q => by omega⟩
    | succ k ih =>
      intro p τ x3 hp h3 hj hB hB2
      subst h3
      obtain ⟨hT, hTu⟩ := keep τ hj
      have e := hT.2.1
      refine bk54_8 ⟨by omega, by omega, fun q => by omega, fun _ => c6 hw hT rfl (by omega) (fun u hu hx => ⟨by omega, ?_⟩)⟩
      simp only [Int.toNat_natCast]
      have hju : ∀ j, j ≠ 14 → j ≠ 15 → u j = σ j := fun j a b => by rw [hu j b]; exact hj j a b
      refine inner p u (by omega) hju hx (ih (p + 1) _ _ (by omega) (by omega) (fun j a b => by rw [nu_ne a]; exact hju j a b) (fun q hq => ?_) (fun q hq hq2 => ?_)) (nd_r D - ρ) ρ _ _ (by omega) rfl ?_
      · by_cases y : q = p
        · subst y; rw [nu_at]
        · rw [nu_nj y, hu 14 (by decide)]; exact hB q (by omega)
      · rw [nu_nj (by omega), hu 14 (by decide)]; exact hB2 q (by omega) hq2
      · rw [hu 14 (by decide), hB2 p (Nat.le_refl _) (by omega), nb_shl (by omega)]
        exact hpre p (by omega)
  exact nw_TV_of (by decide) (Nat.le_of_ble_eq_true rfl) (bk54_0 (key (nd_P D) 0 σ _ (by omega) rfl (fun _ _ _ => rfl) (fun q hq => by omega) (fun _ _ _ => rfl)))
theorem c50 {Φ : nw_S → Prop} (h : Φ (nw_up (nw_up σ 0 5 1) 0 11 1)) : nw_TV G 50 [.inl 0] σ Φ :=
  nw_TV_of (by decide) (Nat.le_of_ble_eq_true rfl) (bk50_0 h)
/-- Choices.add -/
theorem c3 {Φ : nw_S → Prop} (hw : nd_wf D) (hC : nc_ch D σ) (hS : ∀ p, p < nd_P D → σ 5 p = nd_U D p) {x1 : Int} {k : Nat} (h1 : x1 = k) (hn : nd_n D < 5) (hk1 : 1 ≤ k) (hk6 : k ≤ 6) (h : ∀ u : nw_S, (∀ j, j ≠ 1 → j ≠ 2 → j ≠ 3 → j ≠ 5 → u j = σ j) → nc_ch (nd_aC D k) u → (∀ p, p < nd_P (nd_aC D k) → u 5 p = nd_U (nd_aC D k) p) → Φ u) : nw_TV G 3 [.inl 1, .inr x1] σ Φ := by
  subst h1
  have hw' := nd_aC_wf hw hn hk1 hk6
  have hP := nd_P_le hw
  have hP' := nd_P_le hw'
  rw [nd_aC_P] at hP'
  obtain ⟨a1, a2, a3, a4, a5⟩ := hC
  -- the steps
  have steps : ∀ (w i : Nat) (τ : nw_S) (x2 : Int), i + w = nd_n D → x2 = i → (∀ j, j ≠ 3 → j ≠ 5 → τ j = σ j) → (∀ c, c < i → τ 3 c = (nd_sp (nd_m D) (nd_n D) c * k : Nat)) → (∀ c, i ≤ c → c < nd_n D → τ 3 c = nd_sp (nd_m D) (nd_n D) c) → (∀ p, p < nd_P D * k → τ 5 p = nd_U D (p / k)) → nw_V G 3 (nw_pv Φ) 49 [some (.inl 1), some (.inr (k : Int)), some (.inr x2), none] [] τ := by
    intro w
    induction w with
    | zero =>
      intro i τ x2 hi h2 hj hs1 hs2 hu
      subst h2
      have hi : i = nd_n D := by omega
      subst hi
      have e := hj 1 (by decide) (by decide)
      rw [← e] at a1 a2
      refine bk3_49 ⟨by omega, by omega, fun _ => ⟨by omega, ?_⟩, fun q => by omega⟩
      rw [a1, a2, Int.toNat_natCast]
      refine h _ (fun j b1 b2 b3 b5 => ?_) ⟨?_, ?_, fun c hc => ?_, fun c hc => ?_, fun i hi => ?_⟩ (fun p hp => ?_)
      · rw [nu_ne b1, nu_ne b1, nu_ne b3, nu_ne b2]; exact hj j b3 b5
      · rw [nu_nj (by decide), nu_at]
        show _ = ((nd_n D + 1 : Nat) : Int)
        push_cast
        rfl
      · rw [nu_at, nd_aC_P]
        push_cast
        rfl
      · have hc : c < nd_n D + 1 := hc
        rw [nu_ne (by decide), nu_ne (by decide), nu_ne (by decide)]
        by_cases q : c = nd_n D
        · subst q; rw [nu_at, nd_aC_mn]
        · rw [nu_nj q, hj 2 (by decide) (by decide), nd_aC_m (by omega)]; exact a3 c (by omega)
      · have hc : c < nd_n D + 1 := hc
        rw [nu_ne (by decide), nu_ne (by decide)]
        by_cases q : c = nd_n D
        · subst q
          rw [nu_at]
          show _ = ((nd_sp _ (nd_n D + 1) (nd_n D) : Nat) : Int)
          rw [nd_sp_last]
          rfl
        · rw [nu_nj q, nu_ne (by decide), hs1 c (by omega)]
          show _ = ((nd_sp _ (nd_n D + 1) c : Nat) : Int)
          rw [nd_aC_sp (by omega)]
      · rw [nu_ne (by decide), nu_ne (by decide), nu_ne (by decide), nu_ne (by decide), hj 4 (by decide) (by decide)]
        exact a5 i hi
      · rw [nd_aC_P] at hp
        rw [nu_ne (by decide), nu_ne (by decide), nu_ne (by decide), nu_ne (by decide), hu p hp, nd_aC_U hw]
    | succ w ih =>
      intro i τ x2 hi h2 hj hs1 hs2 hu
      subst h2
      have e := hj 1 (by decide) (by decide)
      have e1 : τ 1 0 = nd_n D := by rw [e]; exact a1
      refine bk3_49 ⟨by omega, by omega, fun q => by omega, fun _ => ⟨by omega, ?_⟩⟩
      simp only [Int.toNat_natCast]
      refine ih (i + 1) _ _ (by omega) (by omega) (fun j b3 b5 => by rw [nu_ne b3]; exact hj j b3 b5) (fun c hc => ?_) (fun c hc hc2 => ?_) (fun p hp => by rw [nu_ne (by decide)]; exact hu p hp)
      · by_cases q : c = i
        · subst q
          rw [nu_at, hs2 c (Nat.le_refl _) (by omega)]
          push_cast
          rfl
        · rw [nu_nj q]; exact hs1 c (by omega)
      · rw [nu_nj (by omega)]; exact hs2 c (by omega) hc2
  have hs0 : ∀ τ : nw_S, (∀ j, j ≠ 5 → τ j = σ j) → (∀ p, p < nd_P D * k → τ 5 p = nd_U D (p / k)) → nw_V G 3 (nw_pv Φ) 49 [some (.inl 1), some (.inr (k : Int)), some (.inr 0), none] [] τ := fun τ hj hu => steps (nd_n D) 0 τ _ (by omega) rfl (fun j _ b => hj j b) (fun c hc => by omega) (fun c _ hc => by rw [hj 3 (by decide)]; exact a4 c hc) hu
  -- the sums, from the last plan down
  have outer : ∀ (i : Nat) (τ : nw_S) (x2 : Int), i ≤ nd_P D → x2 = (i : Int) - 1 → (∀ j, j ≠ 5 → τ j = σ j) → (∀ q, q < i → τ 5 q = nd_U D q) → (∀ q, i * k ≤ q → q < nd_P D * k → τ 5 q = nd_U D (q / k)) → nw_V G 3 (nw_pv Φ) 7 [some (.inl 1), some (.inr (k : Int)), some (.inr x2), none] [] τ := by
    intro i
    induction i with
    | zero =>
      intro τ x2 hi h2 hj hlo hhi
      exact bk3_7 ⟨by omega, fun _ => hs0 τ hj (fun p hp => hhi p (by omega) hp), fun q => by omega⟩
    | succ i ih =>
      intro τ x2 hi h2 hj hlo hhi
      have h2 : x2 = (i : Int) := by omega
      subst h2
      have hik : i ≤ i * k := Nat.le_mul_of_pos_right i hk1
      have hmul : i * k + k ≤ nd_P D * k := by
        have := Nat.mul_le_mul_right k hi
        rw [Nat.succ_mul] at this
        exact this
      have hsucc : (i + 1) * k = i * k + k := Nat.succ_mul i k
      have inner : ∀ (j : Nat) (τ : nw_S) (x3 : Int), j ≤ k → x3 = (j : Int) - 1 → (∀ j, j ≠ 5 → τ j = σ j) → (∀ q, q < i + 1 → τ 5 q = nd_U D q) → (∀ q, i * k + j ≤ q → q < nd_P D * k → τ 5 q = nd_U D (q / k)) → nw_V G 3 (nw_pv Φ) 15 [some (.inl 1), some (.inr (k : Int)), some (.inr (i : Int)), some (.inr x3)] [] τ := by
        intro j
        induction j with
        | zero =>
          intro τ x3 hj0 h3 hj hlo hhi
          exact bk3_15 ⟨by omega, fun _ => ih τ _ (by omega) (by omega) hj (fun q hq => hlo q (by omega)) (fun q hq hq2 => hhi q (by omega) hq2), fun q => by omega⟩
        | succ j jh =>
          intro τ x3 hj0 h3 hj hlo hhi
          have h3 : x3 = (j : Int) := by omega
          subst h3
          have ecast : ((i : Int) * (k : Int) + (j : Int)) = ((i * k + j : Nat) : Int) := by push_cast; rfl
          have ediv : (i * k + j) / k = i := by
            rw [Nat.mul_comm, Nat.mul_add_div hk1, Nat.div_eq_of_lt (by omega), Nat.add_zero]
          refine bk3_15 ⟨by omega, fun q => by omega, fun _ => ?_⟩
          rw [ecast]
          simp only [Int.toNat_natCast]
          refine ⟨by omega, by omega, jh _ _ (by omega) (by omega) (fun l hl => by rw [nu_ne hl]; exact hj l hl) (fun q hq => ?_) (fun q hq hq2 => ?_)⟩
          · by_cases y : q = i * k + j
            · subst y
              rw [nu_at, hlo i (by omega), show i * k + j = i from by omega]
            · rw [nu_nj y]; exact hlo q hq
          · by_cases y : q = i * k + j
            · subst y
              rw [nu_at, ediv, hlo i (by omega)]
            · rw [nu_nj y]; exact hhi q (by omega) hq2
      exact bk3_7 ⟨by omega, fun q => by omega, fun _ => inner k τ _ (Nat.le_refl _) (by omega) hj hlo (fun q hq hq2 => hhi q (by omega) hq2)⟩
  refine nw_TV_of (by decide) (Nat.le_of_ble_eq_true rfl) (bk3_0 ?_)
  rw [a2]
  exact outer (nd_P D) σ _ (Nat.le_refl _) rfl (fun _ _ => rfl) hS (fun q hq hq2 => by omega)
end NC10
end
section
section NC11
variable {G : nw_G} {σ : nw_S} {D : nd_D}
theorem nb_and0 (a : Int) : nw_and a 0 = 0 := by
  unfold nw_and
  rw [show Int32.ofInt 0 = 0 from rfl, Int32.and_zero]
  rfl
def nq_choice (D : nd_D) (a : Int) : Int := if 1 ≤ a ∧ a ≤ 6 then (if nd_n D < 5 then nd_n D else -1000003) else -1000002
def nu_choice (D : nd_D) (a : Int) : nd_D := if 1 ≤ a ∧ a ≤ 6 ∧ nd_n D < 5 then nd_aC D a.toNat else D
theorem nu_choice_wf (hw : nd_wf D) (a : Int) : nd_wf (nu_choice D a) := by
  unfold nu_choice
  split
  · rename_i q
    exact nd_aC_wf hw q.2.2 (by omega) (by omega)
  · exact hw
theorem c27 {Φ : Int → nw_S → Prop} (hw : nd_wf D) (hC : nc_st D σ) {x1 : Int} (h1 : nw_r x1) (h : ∀ u : nw_S, nc_st (nu_choice D x1) u → (∀ k, 26 ≤ k → u k = σ k) → Φ (nq_choice D x1) u) : nw_TI G 27 [.inl 0, .inr x1] σ Φ := by
  have hn := hw.1
  have e := hC.1.1.1
  refine nw_TI_of (by decide) (Nat.le_of_ble_eq_true rfl) (bk27_0 ⟨h1, fun q => ?_, fun q => ⟨fun q2 => ⟨by omega, fun q3 => ?_, fun q3 => ?_⟩, fun q2 => ?_⟩⟩)
  · rw [nq_choice, nu_choice, if_neg (by omega), if_neg (by omega)] at h
    exact h σ hC (fun _ _ => rfl)
  · rw [nq_choice, nu_choice, if_pos (by omega), if_pos (by omega), if_pos (by omega)] at h
    have hw' := nd_aC_wf hw (k := x1.toNat) (by omega) (by omega) (by omega)
    refine c3 hw hC.1.1 hC.1.2.2.1 (k := x1.toNat) (by omega) (by omega) (by omega) (by omega) (fun u1 e1 hch hsum => ?_)
    have hru : nc_ru (nd_aC D x1.toNat) u1 := by
      refine ⟨by rw [e1 6 (by decide) (by decide) (by decide) (by decide)]; exact hC.1.2.1.1, fun i r hi hr => ?_⟩
      rw [e1 (7 + i) (by omega) (by omega) (by omega) (by omega)]
      exact hC.1.2.1.2 i r hi hr
    refine c54 hw' hch hru (ρ := 0) rfl (Nat.zero_le _) (fun p hp => ?_) (fun u2 e2 hB => c50 ?_)
    · show nw_and _ ((1 : Int) - 1) = 0
      rw [Int.sub_self]
      exact nb_and0 _
    · have hn1 : nw_up (nw_up u2 0 5 1) 0 11 1 1 0 = ((nd_n D + 1 : Nat) : Int) := by
        rw [nu_ne (by decide), nu_ne (by decide), e2 1 (by decide) (by decide)]
        exact hch.1
      rw [hn1]
      have : (((nd_n D + 1 : Nat) : Int) - 1) = (nd_n D : Int) := by omega
      rw [this]
      refine h _ ⟨?_, Or.inl ?_, Or.inl nu_at⟩ (fun k q => ?_)
      · have hu2 : nc_al (nd_aC D x1.toNat) u2 := by
          obtain ⟨a1, a2, a3, a4, a5⟩ := hch
          refine ⟨⟨by rw [e2 1 (by decide) (by decide)]; exact a1, by rw [e2 1 (by decide) (by decide)]; exact a2, by rw [e2 2 (by decide) (by decide)]; exact a3, by rw [e2 3 (by decide) (by decide)]; exact a4, by rw [e2 4 (by decide) (by decide)]; exact a5⟩, ⟨by rw [e2 6 (by decide) (by decide)]; exact hru.1, fun i r hi hr => by rw [e2 (7 + i) (by omega) (by omega)]; exact hru.2 i r hi hr⟩, by rw [e2 5 (by decide) (by decide)]; exact hsum, fun s hs => ?_, hB⟩
          rw [e2 13 (by decide) (by decide), e1 13 (by decide) (by decide) (by decide) (by decide)]
          exact hC.1.2.2.2.1 s hs
        exact hu2.to (fun k a b => by rw [nu_ne (by omega), nu_ne (by omega)])
      · rw [nu_nj (by decide)]; exact nu_at
      · rw [nu_ne (by omega), nu_ne (by omega), e2 k (by omega) (by omega)]
        exact e1 k (by omega) (by omega) (by omega) (by omega)
  · rw [show nq_choice D x1 = -1000003 from by unfold nq_choice; rw [if_pos (by omega), if_neg (by omega)], show nu_choice D x1 = D from if_neg (by omega)] at h
    exact h σ hC (fun _ _ => rfl)
  · rw [nq_choice, nu_choice, if_neg (by omega), if_neg (by omega)] at h
    exact h σ hC (fun _ _ => rfl)
theorem m70 {Φ : Int → nw_S → Prop} (hw : nd_wf D) (hC : nm_st D σ) {x1 : Int} (h1 : nw_r x1) (h : ∀ u : nw_S, nm_st (nu_choice D x1) u → (∀ k, k < 26 → u k = σ k) → Φ (nq_choice D x1) u) : nw_TI G 70 [.inl 26, .inr x1] σ Φ := by
  have hn := hw.1
  have e := hC.1.1
  refine nw_TI_of (by decide) (Nat.le_of_ble_eq_true rfl) (bk70_0 (c66 h1 (by decide) (by decide) (fun q q2 => ?_) (fun q => ?_)))
  · rw [e]
    refine ⟨by decide, fun _ => ⟨by omega, fun q3 => ⟨by omega, ?_⟩, fun q3 => ?_⟩, fun z => absurd z (by decide)⟩
    · rw [nq_choice, nu_choice, if_pos (by omega), if_pos (by omega), if_pos (by omega)] at h
      rw [show ((nd_n D : Int) + 1 - 1) = nd_n D from by omega, Int.toNat_natCast]
      obtain ⟨a1, a2, a3, a4, a5⟩ := hC.1
      refine h _ ⟨⟨?_, ?_, fun c hc => ?_, fun i hi => ?_, fun i r hi hr => ?_⟩, Or.inl nu_at⟩ (fun k q => ?_)
      · rw [nu_nj (by decide), nu_at]
        show _ = ((nd_n D + 1 : Nat) : Int)
        push_cast
        rfl
      · rw [nu_nj (by decide), nu_nj (by decide), nu_ne (by decide)]; exact a2
      · have hc : c < nd_n D + 1 := hc
        rw [nu_ne (by decide), nu_ne (by decide)]
        by_cases y : c = nd_n D
        · subst y
          rw [nu_at, nd_aC_mn]
          omega
        · rw [nu_nj y, nd_aC_m (by omega)]; exact a3 c (by omega)
      · rw [nu_ne (by decide), nu_ne (by decide), nu_ne (by decide)]; exact a4 i hi
      · rw [nu_ne (by omega), nu_ne (by omega), nu_ne (by omega)]; exact a5 i r hi hr
      · rw [nu_ne (by omega), nu_ne (by omega), nu_ne (by omega)]
    · rw [show nq_choice D x1 = -1000003 from by unfold nq_choice; rw [if_pos (by omega), if_neg (by omega)], show nu_choice D x1 = D from if_neg (by omega)] at h
      exact h σ hC (fun _ _ => rfl)
  · rw [nq_choice, nu_choice, if_neg (by omega), if_neg (by omega)] at h
    exact ⟨by decide, fun z => absurd rfl z, fun _ => h σ hC (fun _ _ => rfl)⟩
/-! a worth -/
noncomputable def nd_iD (P : Prop) (a b : nd_D) : nd_D := @ite nd_D P (Classical.propDecidable P) a b
theorem nd_iD_t {P : Prop} {a b : nd_D} (h : P) : nd_iD P a b = a := if_pos h
theorem nd_iD_f {P : Prop} {a b : nd_D} (h : ¬ P) : nd_iD P a b = b := if_neg h
def nd_aW (D : nd_D) (j : Nat) (v : Int) : nd_D := (nd_n D, nd_m D, fun i => if i = j then v else nd_w D i, nd_r D, nd_f D)
theorem nd_ws_up {w : Nat → Int} {x : Nat → Nat} {c k : Nat} {v : Int} (hk : k < 6) : ∀ n : Nat, (∀ c, c < n → x c < 6) → nd_ws (fun i => if i = 6 * c + k then v else w i) x n = nd_ws w x n + (if c < n ∧ x c = k then v - w (6 * c + k) else 0)
  | 0, _ => by simp [nd_ws]
  | n + 1, h => by
    have ih := nd_ws_up (w := w) (x := x) (c := c) (v := v) hk n (fun c hc => h c (by omega))
    have hx := h n (by omega)
    unfold nd_ws
    rw [ih]
    by_cases q : n = c
    · subst q
      by_cases y : x n = k
      · rw [if_neg (by omega), if_pos (by omega), if_pos ⟨by omega, y⟩, y]; omega
      · rw [if_neg (by omega), if_neg (by omega), if_neg (fun z => y z.2)]
        omega
    · rw [if_neg (show ¬ 6 * n + x n = 6 * c + k by omega)]
      by_cases y : c < n ∧ x c = k
      · rw [if_pos y, if_pos ⟨by omega, y.2⟩]; omega
      · rw [if_neg y, if_neg (fun z => y ⟨by omega, z.2⟩)]; omega
noncomputable def nq_worth (D : nd_D) (a k v : Int) : Int := nd_it (nd_isK D a k) (if -1000 ≤ v ∧ v ≤ 1000 then nd_w D (6 * a.toNat + k.toNat) else -1000002) (-1000001)
noncomputable def nu_worth (D : nd_D) (a k v : Int) : nd_D := nd_iD (nd_isK D a k ∧ -1000 ≤ v ∧ v ≤ 1000) (nd_aW D (6 * a.toNat + k.toNat) v) D
theorem nd_aW_wf (hw : nd_wf D) {c k : Nat} {v : Int} (hc : c < nd_n D) (hk : k < nd_m D c) (hv : -1000 ≤ v ∧ v ≤ 1000) : nd_wf (nd_aW D (6 * c + k) v) := by
  have hm := hw.2.1 c hc
  refine ⟨hw.1, hw.2.1, fun i => ?_, fun i hi => ?_, hw.2.2.2.2.1, hw.2.2.2.2.2⟩
  · show -1000 ≤ (if i = 6 * c + k then v else nd_w D i) ∧ (if i = 6 * c + k then v else nd_w D i) ≤ 1000
    split
    · exact hv
    · exact hw.2.2.1 i
  · have hi : 6 * nd_n D ≤ i := hi
    show (if i = 6 * c + k then v else nd_w D i) = 0
    rw [if_neg (by omega)]
    exact hw.2.2.2.1 i hi
theorem nu_worth_wf (hw : nd_wf D) (a k v : Int) : nd_wf (nu_worth D a k v) := by
  unfold nu_worth
  by_cases q : nd_isK D a k ∧ -1000 ≤ v ∧ v ≤ 1000
  · rw [nd_iD_t q]
    obtain ⟨⟨⟨z1, z2⟩, z3, z4⟩, z5⟩ := q
    exact nd_aW_wf hw (by omega) (by omega) z5
  · rw [nd_iD_f q]; exact hw
theorem nd_aW_U (hw : nd_wf D) {c k : Nat} {v : Int} (hc : c < nd_n D) (hk : k < 6) (p : Nat) : nd_U (nd_aW D (6 * c + k) v) p = nd_U D p + (if nd_x D p c = k then v - nd_w D (6 * c + k) else 0) := by
  show nd_ws (fun i => if i = 6 * c + k then v else nd_w D i) (nd_x D p) (nd_n D) = _
  rw [nd_ws_up hk (nd_n D) (fun c hc => (nd_x_lt hw hc).2)]
  have : (c < nd_n D ∧ nd_x D p c = k) ↔ nd_x D p c = k := ⟨fun z => z.2, fun z => ⟨hc, z⟩⟩
  simp only [this]
  rfl
theorem c4 {Φ : Int → nw_S → Prop} (hw : nd_wf D) (hC : nc_ch D σ) (hS : ∀ p, p < nd_P D → σ 5 p = nd_U D p) {x1 x2 x3 : Int} {c k : Nat} (h1 : x1 = c) (h2 : x2 = k) (hc : c < nd_n D) (hk : k < nd_m D c) (h : ∀ u : nw_S, (∀ j, j ≠ 4 → j ≠ 5 → u j = σ j) → (∀ i, i < 30 → u 4 i = nd_w (nd_aW D (6 * c + k) x3) i) → (∀ p, p < nd_P D → u 5 p = nd_U (nd_aW D (6 * c + k) x3) p) → Φ (nd_w D (6 * c + k)) u) : nw_TI G 4 [.inl 1, .inr x1, .inr x2, .inr x3] σ Φ := by
  subst h1
  subst h2
  have hn := hw.1
  have hm := hw.2.1 c hc
  have hP := nd_P_le hw
  have ej : ((c : Int) * 6 + (k : Int)).toNat = 6 * c + k := by omega
  have ew := hC.2.2.2.2 (6 * c + k) (by omega)
  have key : ∀ (w i : Nat) (τ : nw_S) (x6 : Int), i + w = nd_P D → x6 = i → (∀ j, j ≠ 5 → τ j = nw_up σ 4 (6 * c + k) x3 j) → (∀ p, p < i → τ 5 p = nd_U (nd_aW D (6 * c + k) x3) p) → (∀ p, i ≤ p → p < nd_P D → τ 5 p = nd_U D p) → nw_V G 4 (nw_pi Φ) 28 [some (.inl 1), some (.inr (c : Int)), some (.inr (k : Int)), some (.inr x3), some (.inr ((c : Int) * 6 + (k : Int))), some (.inr (nd_w D (6 * c + k))), some (.inr x6)] [] τ := by
    intro w
    induction w with
    | zero =>
      intro i τ x6 hi h6 hj hlo hhi
      subst h6
      have e : τ 1 1 = nd_P D := by rw [hj 1 (by decide), nu_ne (by decide)]; exact hC.2.1
      refine bk4_28 ⟨by omega, by omega, fun _ => h τ (fun j a b => by rw [hj j b, nu_ne a]) (fun i hi => ?_) (fun p hp => hlo p (by omega)), fun q => by omega⟩
      rw [hj 4 (by decide)]
      show _ = if i = 6 * c + k then x3 else nd_w D i
      by_cases y : i = 6 * c + k
      · subst y; rw [nu_at, if_pos rfl]
      · rw [nu_nj y, if_neg y]; exact hC.2.2.2.2 i hi
    | succ w ih =>
      intro i τ x6 hi h6 hj hlo hhi
      subst h6
      have e : τ 1 1 = nd_P D := by rw [hj 1 (by decide), nu_ne (by decide)]; exact hC.2.1
      -- taken reads the steps and the candidates alone
      have hT : nc_ch (nd_aW D (6 * c + k) x3) τ := by
        obtain ⟨a1, a2, a3, a4, a5⟩ := hC
        refine ⟨by rw [hj 1 (by decide), nu_ne (by decide)]; exact a1, e, by rw [hj 2 (by decide), nu_ne (by decide)]; exact a3, by rw [hj 3 (by decide), nu_ne (by decide)]; exact a4, fun i hi => ?_⟩
        rw [hj 4 (by decide)]
        show _ = if i = 6 * c + k then x3 else nd_w D i
        by_cases y : i = 6 * c + k
        · subst y; rw [nu_at, if_pos rfl]
        · rw [nu_nj y, if_neg y]; exact a5 i hi
      have hx := nd_x_lt hw (p := i) hc
      -- the plan's number and its digits don't look at the worths
      have c5w : ∀ {Ψ : Int → nw_S → Prop}, Ψ (nd_x D i c) τ → nw_TI G 5 [.inl 1, .inr (i : Int), .inr (c : Int)] τ Ψ := by
        intro Ψ hΨ
        have hT2 : nc_ch (nd_n D, nd_m D, fun i => τ 4 i, nd_r D, nd_f D) τ := ⟨hT.1, hT.2.1, hT.2.2.1, hT.2.2.2.1, fun _ _ => rfl⟩
        have hs := nd_sp_le hw c
        have em := hT.2.2.1 c hc
        have es := hT.2.2.2.1 c hc
        have em : τ 2 c = nd_m D c := em
        have es : τ 3 c = nd_sp (nd_m D) (nd_n D) c := es
        refine nw_TI_of (by decide) (Nat.le_of_ble_eq_true rfl) (bk5_0 ?_)
        simp only [Int.toNat_natCast]
        rw [em, es]
        refine ⟨by omega, by omega, fun q => by omega, fun _ => ⟨by omega, fun _ => ⟨by omega, ?_, ?_⟩, fun q => by omega⟩⟩
        · have : ((i : Int) / (nd_sp (nd_m D) (nd_n D) c : Int)) = ((i / nd_sp (nd_m D) (nd_n D) c : Nat) : Int) := by norm_cast
          rw [this]
          have := Nat.div_le_self i (nd_sp (nd_m D) (nd_n D) c)
          generalize i / nd_sp (nd_m D) (nd_n D) c = q at this ⊢
          omega
        · have : ((i : Int) / (nd_sp (nd_m D) (nd_n D) c : Int)) % (nd_m D c : Int) = ((i / nd_sp (nd_m D) (nd_n D) c % nd_m D c : Nat) : Int) := by norm_cast
          rw [this]
          exact hΨ
      refine bk4_28 ⟨by omega, by omega, fun q => by omega, fun _ => c5w ⟨by omega, by omega, fun q => ih (i + 1) _ _ (by omega) (by omega) hj (fun p hp => ?_) (fun p a b => hhi p (by omega) b), fun q => ⟨by omega, ?_⟩⟩⟩
      · by_cases y : p = i
        · subst y
          rw [hhi p (Nat.le_refl _) (by omega), nd_aW_U hw hc (by omega), if_neg (fun z => q (by rw [z])), Int.add_zero]
        · exact hlo p (by omega)
      · simp only [Int.toNat_natCast]
        refine ih (i + 1) _ _ (by omega) (by omega) (fun j a => by rw [nu_ne a]; exact hj j a) (fun p hp => ?_) (fun p a b => by rw [nu_nj (by omega)]; exact hhi p (by omega) b)
        by_cases y : p = i
        · subst y
          rw [nu_at, hhi p (Nat.le_refl _) (by omega), nd_aW_U hw hc (by omega), if_pos (by omega)]
        · rw [nu_nj y]; exact hlo p (by omega)
  refine nw_TI_of (by decide) (Nat.le_of_ble_eq_true rfl) (bk4_0 ?_)
  rw [ej, ew]
  exact ⟨by omega, key (nd_P D) 0 _ _ (by omega) rfl (fun _ _ => rfl) (fun p hp => by omega) (fun p _ hp => by rw [nu_ne (by decide)]; exact hS p hp)⟩
theorem c28 {Φ : Int → nw_S → Prop} (hw : nd_wf D) (hC : nc_st D σ) {x1 x2 x3 : Int} (h1 : nw_r x1) (h2 : nw_r x2) (h3 : nw_r x3) (h : ∀ u : nw_S, nc_st (nu_worth D x1 x2 x3) u → (∀ k, 26 ≤ k → u k = σ k) → Φ (nq_worth D x1 x2 x3) u) : nw_TI G 28 [.inl 0, .inr x1, .inr x2, .inr x3] σ Φ := by
  refine nw_TI_of (by decide) (Nat.le_of_ble_eq_true rfl) (bk28_0 (c2' hw hC.1.1 h1 h2 (fun z => ?_) (fun z => ?_)))
  · rw [nq_worth, nd_it_t z] at h
    refine ⟨by decide, fun _ => ⟨h3, fun q => ?_, fun q => ⟨fun q2 => ?_, fun q2 => ?_⟩⟩, fun z => absurd z (by decide)⟩
    · rw [nu_worth, nd_iD_f (by omega), if_neg (by omega)] at h
      exact h σ hC (fun _ _ => rfl)
    · rw [nu_worth, nd_iD_t ⟨z, q, q2⟩, if_pos ⟨q, q2⟩] at h
      obtain ⟨⟨z1, z2⟩, z3, z4⟩ := z
      have hA : nc_al D (nw_up σ 0 5 1) := hC.1.to (fun k a b => nu_ne (by omega))
      refine c4 hw hA.1 hA.2.2.1 (c := x1.toNat) (k := x2.toNat) (by omega) (by omega) (by omega) (by omega) (fun u e e4 e5 => h u ⟨⟨⟨?_, ?_, ?_, ?_, e4⟩, ⟨?_, fun i r hi hr => ?_⟩, e5, ?_, ?_⟩, Or.inl ?_, ?_⟩ (fun k q => ?_))
      · rw [e 1 (by decide) (by decide)]; exact hA.1.1
      · rw [e 1 (by decide) (by decide)]; exact hA.1.2.1
      · rw [e 2 (by decide) (by decide)]; exact hA.1.2.2.1
      · rw [e 3 (by decide) (by decide)]; exact hA.1.2.2.2.1
      · rw [e 6 (by decide) (by decide)]; exact hA.2.1.1
      · rw [e (7 + i) (by omega) (by omega)]; exact hA.2.1.2 i r hi hr
      · rw [e 13 (by decide) (by decide)]; exact hA.2.2.2.1
      · rw [e 14 (by decide) (by decide)]; exact hA.2.2.2.2
      · rw [e 0 (by decide) (by decide)]; exact nu_at
      · have : nc_ls D u := hC.2.2.to (by rw [e 0 (by decide) (by decide), nu_nj (by decide)]) (fun k a b => by rw [e k (by omega) (by omega), nu_ne (by omega)])
        exact this
      · rw [e k (by omega) (by omega), nu_ne (by omega)]
    · rw [nu_worth, nd_iD_f (by omega), if_neg (by omega)] at h
      exact h σ hC (fun _ _ => rfl)
  · rw [nq_worth, nd_it_f z, nu_worth, nd_iD_f (fun y => z y.1)] at h
    exact ⟨by decide, fun z => absurd rfl z, fun _ => h σ hC (fun _ _ => rfl)⟩
theorem m71 {Φ : Int → nw_S → Prop} (hw : nd_wf D) (hC : nm_st D σ) {x1 x2 x3 : Int} (h1 : nw_r x1) (h2 : nw_r x2) (h3 : nw_r x3) (h : ∀ u : nw_S, nm_st (nu_worth D x1 x2 x3) u → (∀ k, k < 26 → u k = σ k) → Φ (nq_worth D x1 x2 x3) u) : nw_TI G 71 [.inl 26, .inr x1, .inr x2, .inr x3] σ Φ := by
  have hn := hw.1
  refine nw_TI_of (by decide) (Nat.le_of_ble_eq_true rfl) (bk71_0 (c68' hw hC.1 h1 h2 (fun z => ?_) (fun z => ?_)))
  · rw [nq_worth, nd_it_t z] at h
    refine ⟨by decide, fun _ => c66 h3 (by decide) (by decide) (fun q q2 => ?_) (fun q => ?_), fun z => absurd z (by decide)⟩
    · rw [nu_worth, nd_iD_t ⟨z, q, q2⟩, if_pos ⟨q, q2⟩] at h
      obtain ⟨⟨z1, z2⟩, z3, z4⟩ := z
      have hm := hw.2.1 x1.toNat (by omega)
      have ej : (6 * x1 + x2).toNat = 6 * x1.toNat + x2.toNat := by omega
      obtain ⟨a1, a2, a3, a4, a5⟩ := hC.1
      refine ⟨by decide, fun _ => ⟨by omega, ?_⟩, fun z => absurd z (by decide)⟩
      rw [ej, a4 _ (by omega)]
      refine h _ ⟨⟨a1, a2, a3, fun i hi => ?_, fun i r hi hr => ?_⟩, ?_⟩ (fun k q => nu_ne (by omega))
      · show _ = if i = 6 * x1.toNat + x2.toNat then x3 else nd_w D i
        by_cases y : i = 6 * x1.toNat + x2.toNat
        · subst y; rw [nu_at, if_pos rfl]
        · rw [nu_nj y, if_neg y]; exact a4 i hi
      · rw [nu_ne (by omega)]; exact a5 i r hi hr
      · rcases hC.2 with y | y
        · exact Or.inl (by rw [nu_ne (by decide)]; exact y)
        · exact Or.inr ⟨by rw [nu_ne (by decide)]; exact y.1, by rw [nu_ne (by decide)]; exact y.2⟩
    · rw [nu_worth, nd_iD_f (by omega), if_neg (by omega)] at h
      exact ⟨by decide, fun z => absurd rfl z, fun _ => h σ hC (fun _ _ => rfl)⟩
  · rw [nq_worth, nd_it_f z, nu_worth, nd_iD_f (fun y => z y.1)] at h
    exact ⟨by decide, fun z => absurd rfl z, fun _ => h σ hC (fun _ _ => rfl)⟩
end NC11
end
section
section NC12
variable {G : nw_G} {σ : nw_S} {D : nd_D}
def nd_rt (k a b n : Int) : Prop := (k = 0 ∧ 0 ≤ n ∧ n ≤ 63) ∨ (k = 1 ∧ a ≠ b) ∨ (k = 2 ∧ a ≠ b) ∨ (k = 3 ∧ a ≠ b ∧ -5 ≤ n ∧ n ≤ 5) ∨ (k = 4 ∧ a ≠ b ∧ 0 ≤ n ∧ n ≤ 5) ∨ (k = 5 ∧ a ≠ b ∧ 0 ≤ n ∧ n ≤ 63) ∨ (k = 6 ∧ 0 ≤ a ∧ a ≤ 5 ∧ 0 ≤ n ∧ n ≤ 5) ∨ (k = 7 ∧ 0 ≤ a ∧ a ≤ 5 ∧ 0 ≤ n ∧ n ≤ 5) ∨ (k = 8 ∧ 0 ≤ a ∧ a ≤ b ∧ b ≤ 25)
theorem rt_0 {a b n : Int} : nd_rt 0 a b n ↔ (0 ≤ n ∧ n ≤ 63) := by simp [nd_rt]
theorem rt_1 {a b n : Int} : nd_rt 1 a b n ↔ a ≠ b := by simp [nd_rt]
theorem rt_2 {a b n : Int} : nd_rt 2 a b n ↔ a ≠ b := by simp [nd_rt]
theorem rt_3 {a b n : Int} : nd_rt 3 a b n ↔ (a ≠ b ∧ -5 ≤ n ∧ n ≤ 5) := by simp [nd_rt]
theorem rt_4 {a b n : Int} : nd_rt 4 a b n ↔ (a ≠ b ∧ 0 ≤ n ∧ n ≤ 5) := by simp [nd_rt]
theorem rt_5 {a b n : Int} : nd_rt 5 a b n ↔ (a ≠ b ∧ 0 ≤ n ∧ n ≤ 63) := by simp [nd_rt]
theorem rt_6 {a b n : Int} : nd_rt 6 a b n ↔ (0 ≤ a ∧ a ≤ 5 ∧ 0 ≤ n ∧ n ≤ 5) := by simp [nd_rt]
theorem rt_7 {a b n : Int} : nd_rt 7 a b n ↔ (0 ≤ a ∧ a ≤ 5 ∧ 0 ≤ n ∧ n ≤ 5) := by simp [nd_rt]
theorem rt_8 {a b n : Int} : nd_rt 8 a b n ↔ (0 ≤ a ∧ a ≤ b ∧ b ≤ 25) := by simp [nd_rt]
theorem rt_in {k a b n : Int} (h : nd_rt k a b n) : 0 ≤ k ∧ k ≤ 8 := by
  rcases h with ⟨h, -⟩ | ⟨h, -⟩ | ⟨h, -⟩ | ⟨h, -⟩ | ⟨h, -⟩ | ⟨h, -⟩ | ⟨h, -⟩ | ⟨h, -⟩ | ⟨h, -⟩ <;> omega
def nd_nm (D : nd_D) (k a b : Int) : Prop := (0 ≤ k ∧ k ≤ 5 ∧ ¬ nd_isC D a) ∨ (1 ≤ k ∧ k ≤ 5 ∧ ¬ nd_isC D b)
def nd_fs (k a b n w : Int) (i : Nat) : Int := if i = 0 then k else if i = 1 then a else if i = 2 then b else if i = 3 then n else if i = 4 then w else 1
def nd_aR (D : nd_D) (g : Nat → Int) : nd_D := (nd_n D, nd_m D, nd_w D, nd_r D + 1, fun i r => if r = nd_r D then g i else nd_f D i r)
theorem nd_aR_f {g : Nat → Int} {i r : Nat} (h : r < nd_r D) : nd_f (nd_aR D g) i r = nd_f D i r := if_neg (by omega)
theorem nd_aR_fn {g : Nat → Int} {i : Nat} : nd_f (nd_aR D g) i (nd_r D) = g i := if_pos rfl
theorem nd_aR_wf (hw : nd_wf D) {g : Nat → Int} (hR : nd_r D < 12) (hg : nd_ok (nd_n D) g) : nd_wf (nd_aR D g) := by
  refine ⟨hw.1, hw.2.1, hw.2.2.1, hw.2.2.2.1, hR, fun r hr => ?_⟩
  have hr : r < nd_r D + 1 := hr
  by_cases q : r = nd_r D
  · subst q
    have : (fun i => nd_f (nd_aR D g) i (nd_r D)) = g := by funext i; exact nd_aR_fn
    rw [this]
    exact hg
  · have : (fun i => nd_f (nd_aR D g) i r) = (fun i => nd_f D i r) := by funext i; exact nd_aR_f (by omega)
    rw [this]
    exact hw.2.2.2.2.2 r (by omega)
noncomputable def nq_rule (D : nd_D) (k a b n w : Int) : Int := nd_it (nd_nm D k a b) (-1000001) (nd_it (nd_rt k a b n ∧ 1 ≤ w ∧ w ≤ 1000) (if nd_r D < 12 then nd_r D else -1000003) (-1000002))
noncomputable def nu_rule (D : nd_D) (k a b n w : Int) : nd_D := nd_iD (¬ nd_nm D k a b ∧ (nd_rt k a b n ∧ 1 ≤ w ∧ w ≤ 1000) ∧ nd_r D < 12) (nd_aR D (nd_fs k a b n w)) D
theorem nd_fs_ok {k a b n w : Int} (hk : nw_r k) (ha : nw_r a) (hb : nw_r b) (hn : nw_r n) (h : ¬ nd_nm D k a b) (h2 : nd_rt k a b n ∧ 1 ≤ w ∧ w ≤ 1000) : nd_ok (nd_n D) (nd_fs k a b n w) := by
  obtain ⟨h2, h3, h4⟩ := h2
  have hk8 := rt_in h2
  refine ⟨fun i hi => ?_, hk8, fun q => ?_, fun q q2 => ?_, fun q => ?_, fun q => ?_, fun q => ?_, ⟨h3, h4⟩, ⟨by show (0 : Int) ≤ 1; decide, by show (1 : Int) ≤ 2; decide⟩⟩
  · match i, hi with
    | 0, _ => exact hk
    | 1, _ => exact ha
    | 2, _ => exact hb
    | 3, _ => exact hn
    | 4, _ => exact ⟨by show -2147483648 ≤ w; omega, by show w < 2147483648; omega⟩
    | 5, _ => exact ⟨by show (-2147483648 : Int) ≤ 1; decide, by show (1 : Int) < 2147483648; decide⟩
    | i + 6, hi => omega
  · have q : k ≤ 5 := q
    show 0 ≤ a ∧ a < nd_n D
    rcases Classical.em (nd_isC D a) with y | y
    · exact y
    · exact absurd (Or.inl ⟨hk8.1, q, y⟩) h
  · have q : 1 ≤ k := q
    have q2 : k ≤ 5 := q2
    show 0 ≤ b ∧ b < nd_n D
    rcases Classical.em (nd_isC D b) with y | y
    · exact y
    · exact absurd (Or.inr ⟨q, q2, y⟩) h
  · have q : k = 0 := q
    subst q
    exact rt_0.mp h2
  · have q : k = 3 := q
    subst q
    exact (rt_3.mp h2).2
  · have q : k = 5 := q
    subst q
    exact (rt_5.mp h2).2
theorem nu_rule_wf (hw : nd_wf D) {k a b n w : Int} (hk : nw_r k) (ha : nw_r a) (hb : nw_r b) (hn : nw_r n) : nd_wf (nu_rule D k a b n w) := by
  unfold nu_rule
  by_cases q : ¬ nd_nm D k a b ∧ (nd_rt k a b n ∧ 1 ≤ w ∧ w ≤ 1000) ∧ nd_r D < 12
  · rw [nd_iD_t q]
    exact nd_aR_wf hw q.2.2 (nd_fs_ok hk ha hb hn q.1 q.2.1)
  · rw [nd_iD_f q]; exact hw
theorem c51 {Φ : Int → nw_S → Prop} {x0 : Int} (h0 : nw_r x0) (ht : 1 ≤ x0 → x0 ≤ 1000 → Φ 1 σ) (hf : ¬ (1 ≤ x0 ∧ x0 ≤ 1000) → Φ 0 σ) : nw_TI G 51 [.inr x0] σ Φ :=
  nw_TI_of (by decide) (Nat.le_of_ble_eq_true rfl) (bk51_0 ⟨h0, fun q => hf (by omega), fun q => ⟨fun q2 => hf (by omega), fun q2 => ht q q2⟩⟩)
theorem c52 {Φ : Int → nw_S → Prop} (hw : nd_wf D) (hC : nc_ch D σ) {x1 x2 x3 : Int} (h1 : nw_r x1) (h2 : nw_r x2) (h3 : nw_r x3) (ht : nd_nm D x1 x2 x3 → Φ 1 σ) (hf : ¬ nd_nm D x1 x2 x3 → Φ 0 σ) : nw_TI G 52 [.inl 0, .inr x1, .inr x2, .inr x3] σ Φ := by
  refine nw_TI_of (by decide) (Nat.le_of_ble_eq_true rfl) (bk52_0 ⟨h1, fun q => ⟨fun q2 => hf ?_, fun q2 => ⟨fun q3 => hf ?_, fun q3 => c1' hw hC h2 (fun z => ⟨by decide, fun y => absurd y (by decide), fun _ => c1' hw hC h3 (fun z3 => ⟨by decide, fun _ => hf ?_, fun y => absurd y (by decide)⟩) (fun z3 => ⟨by decide, fun y => absurd rfl y, fun _ => ht ?_⟩)⟩) (fun z => ⟨by decide, fun _ => ht ?_, fun y => absurd rfl y⟩)⟩⟩, fun q => c1' hw hC h2 (fun z => ⟨by decide, fun _ => hf ?_, fun y => absurd y (by decide)⟩) (fun z => ⟨by decide, fun y => absurd rfl y, fun _ => ht ?_⟩)⟩)
  · rintro (⟨a, b, c⟩ | ⟨a, b, c⟩) <;> omega
  · rintro (⟨a, b, c⟩ | ⟨a, b, c⟩) <;> omega
  · rintro (⟨a, b, c⟩ | ⟨a, b, c⟩)
    · exact c z
    · exact c z3
  · exact Or.inr ⟨q2, q3, z3⟩
  · exact Or.inl ⟨by omega, q3, z⟩
  · rintro (⟨a, b, c⟩ | ⟨a, b, c⟩)
    · exact c z
    · omega
  · exact Or.inl ⟨by omega, by omega, z⟩
theorem c53 {Φ : Int → nw_S → Prop} {x0 x1 x2 x3 : Int} (h0 : nw_r x0) (h1 : nw_r x1) (h2 : nw_r x2) (h3 : nw_r x3) (ht : nd_rt x0 x1 x2 x3 → Φ 1 σ) (hf : ¬ nd_rt x0 x1 x2 x3 → Φ 0 σ) : nw_TI G 53 [.inr x0, .inr x1, .inr x2, .inr x3] σ Φ := by
  refine nw_TI_of (by decide) (Nat.le_of_ble_eq_true rfl) (bk53_0 ⟨h0, fun q => hf (fun z => by have := rt_in z; omega),
    fun q => by subst q; exact ⟨h3, fun q2 => hf (fun z => by have := rt_0.mp z; omega), fun q2 => ⟨fun q3 => hf (fun z => by have := rt_0.mp z; omega), fun q3 => ht (rt_0.mpr (by omega))⟩⟩,
    fun q => by subst q; exact ⟨h1, h2, fun q2 => hf (fun z => by have := rt_1.mp z; omega), fun q2 => ht (rt_1.mpr (by omega))⟩,
    fun q => by subst q; exact ⟨h1, h2, fun q2 => hf (fun z => by have := rt_2.mp z; omega), fun q2 => ht (rt_2.mpr (by omega))⟩,
    fun q => by subst q; exact ⟨h1, h2, fun q2 => hf (fun z => by have := rt_3.mp z; omega), fun q2 => ⟨h3, fun q3 => hf (fun z => by have := rt_3.mp z; omega), fun q3 => ⟨fun q4 => hf (fun z => by have := rt_3.mp z; omega), fun q4 => ht (rt_3.mpr (by omega))⟩⟩⟩,
    fun q => by subst q; exact ⟨h1, h2, fun q2 => hf (fun z => by have := rt_4.mp z; omega), fun q2 => ⟨h3, fun q3 => hf (fun z => by have := rt_4.mp z; omega), fun q3 => ⟨fun q4 => hf (fun z => by have := rt_4.mp z; omega), fun q4 => ht (rt_4.mpr (by omega))⟩⟩⟩,
    fun q => by subst q; exact ⟨h1, h2, fun q2 => hf (fun z => by have := rt_5.mp z; omega), fun q2 => ⟨h3, fun q3 => hf (fun z => by have := rt_5.mp z; omega), fun q3 => ⟨fun q4 => hf (fun z => by have := rt_5.mp z; omega), fun q4 => ht (rt_5.mpr (by omega))⟩⟩⟩,
    fun q => by subst q; exact ⟨h1, fun q2 => hf (fun z => by have := rt_6.mp z; omega), fun q2 => ⟨fun q3 => hf (fun z => by have := rt_6.mp z; omega), fun q3 => ⟨h3, fun q4 => hf (fun z => by have := rt_6.mp z; omega), fun q4 => ⟨fun q5 => hf (fun z => by have := rt_6.mp z; omega), fun q5 => ht (rt_6.mpr (by omega))⟩⟩⟩⟩,
    fun q => by subst q; exact ⟨h1, fun q2 => hf (fun z => by have := rt_7.mp z; omega), fun q2 => ⟨fun q3 => hf (fun z => by have := rt_7.mp z; omega), fun q3 => ⟨h3, fun q4 => hf (fun z => by have := rt_7.mp z; omega), fun q4 => ⟨fun q5 => hf (fun z => by have := rt_7.mp z; omega), fun q5 => ht (rt_7.mpr (by omega))⟩⟩⟩⟩,
    fun q => by subst q; exact ⟨h1, fun q2 => hf (fun z => by have := rt_8.mp z; omega), fun q2 => ⟨h2, fun q3 => hf (fun z => by have := rt_8.mp z; omega), fun q3 => ⟨fun q4 => hf (fun z => by have := rt_8.mp z; omega), fun q4 => ht (rt_8.mpr (by omega))⟩⟩⟩⟩)
theorem c72 {Φ : Int → nw_S → Prop} {x0 x1 x2 x3 : Int} (h0 : nw_r x0) (h1 : nw_r x1) (h2 : nw_r x2) (h3 : nw_r x3) (ht : nd_rt x0 x1 x2 x3 → Φ 1 σ) (hf : ¬ nd_rt x0 x1 x2 x3 → Φ 0 σ) : nw_TI G 72 [.inr x0, .inr x1, .inr x2, .inr x3] σ Φ := by
  refine nw_TI_of (by decide) (Nat.le_of_ble_eq_true rfl) (bk72_0 ⟨h0, fun q => hf (fun z => by have := rt_in z; omega),
    fun q => by subst q; exact c66 h3 (by decide) (by decide) (fun a b => ⟨by decide, ht (rt_0.mpr (by omega))⟩) (fun a => ⟨by decide, hf (fun z => by have := rt_0.mp z; omega)⟩),
    fun q => by subst q; exact ⟨h1, h2, fun q2 => hf (fun z => by have := rt_1.mp z; omega), fun q2 => ht (rt_1.mpr (by omega))⟩,
    fun q => by subst q; exact ⟨h1, h2, fun q2 => hf (fun z => by have := rt_2.mp z; omega), fun q2 => ht (rt_2.mpr (by omega))⟩,
    fun q => by subst q; exact ⟨h1, h2, fun q2 => hf (fun z => by have := rt_3.mp z; omega), fun q2 => c66 h3 (by decide) (by decide) (fun a b => ⟨by decide, fun y => absurd y (by decide), fun _ => ht (rt_3.mpr (by omega))⟩) (fun a => ⟨by decide, fun _ => hf (fun z => by have := rt_3.mp z; omega), fun y => absurd rfl y⟩)⟩,
    fun q => by subst q; exact ⟨h1, h2, fun q2 => hf (fun z => by have := rt_4.mp z; omega), fun q2 => c66 h3 (by decide) (by decide) (fun a b => ⟨by decide, fun y => absurd y (by decide), fun _ => ht (rt_4.mpr (by omega))⟩) (fun a => ⟨by decide, fun _ => hf (fun z => by have := rt_4.mp z; omega), fun y => absurd rfl y⟩)⟩,
    fun q => by subst q; exact ⟨h1, h2, fun q2 => hf (fun z => by have := rt_5.mp z; omega), fun q2 => c66 h3 (by decide) (by decide) (fun a b => ⟨by decide, fun y => absurd y (by decide), fun _ => ht (rt_5.mpr (by omega))⟩) (fun a => ⟨by decide, fun _ => hf (fun z => by have := rt_5.mp z; omega), fun y => absurd rfl y⟩)⟩,
    fun q => by subst q; exact c66 h1 (by decide) (by decide) (fun a b => ⟨by decide, fun y => absurd y (by decide), fun _ => c66 h3 (by decide) (by decide) (fun a b => ⟨by decide, fun y => absurd y (by decide), fun _ => ht (rt_6.mpr (by omega))⟩) (fun a => ⟨by decide, fun _ => hf (fun z => by have := rt_6.mp z; omega), fun y => absurd rfl y⟩)⟩) (fun a => ⟨by decide, fun _ => hf (fun z => by have := rt_6.mp z; omega), fun y => absurd rfl y⟩),
    fun q => by subst q; exact c66 h1 (by decide) (by decide) (fun a b => ⟨by decide, fun y => absurd y (by decide), fun _ => c66 h3 (by decide) (by decide) (fun a b => ⟨by decide, fun y => absurd y (by decide), fun _ => ht (rt_7.mpr (by omega))⟩) (fun a => ⟨by decide, fun _ => hf (fun z => by have := rt_7.mp z; omega), fun y => absurd rfl y⟩)⟩) (fun a => ⟨by decide, fun _ => hf (fun z => by have := rt_7.mp z; omega), fun y => absurd rfl y⟩),
    fun q => by subst q; exact c66 h1 (by decide) (by decide) (fun a b => ⟨by decide, fun y => absurd y (by decide), fun _ => c66 h2 h1 (by decide) (fun a b => ⟨by decide, fun y => absurd y (by decide), fun _ => ht (rt_8.mpr (by omega))⟩) (fun a => ⟨by decide, fun _ => hf (fun z => by have := rt_8.mp z; omega), fun y => absurd rfl y⟩)⟩) (fun a => ⟨by decide, fun _ => hf (fun z => by have := rt_8.mp z; omega), fun y => absurd rfl y⟩)⟩)
theorem nd_aR_C (hw : nd_wf D) {g : Nat → Int} {s : Nat} (hs : s < 2 ^ nd_r D) : nd_C (nd_aR D g) s = nd_C D s ∧ nd_C (nd_aR D g) (s + 2 ^ nd_r D) = nd_C D s + g 4 := by
  have e : ∀ s, nd_co (nd_f (nd_aR D g)) s (nd_r D) = nd_co (nd_f D) s (nd_r D) := fun s => nd_co_cg (nd_r D) (fun r hr => nd_aR_f hr)
  constructor
  · show nd_co (nd_f (nd_aR D g)) s (nd_r D) + (if s.testBit (nd_r D) then nd_f (nd_aR D g) 4 (nd_r D) else 0) = _
    rw [e, Nat.testBit_lt_two_pow hs]
    simp [nd_C]
  · show nd_co (nd_f (nd_aR D g)) (s + 2 ^ nd_r D) (nd_r D) + (if (s + 2 ^ nd_r D).testBit (nd_r D) then nd_f (nd_aR D g) 4 (nd_r D) else 0) = _
    rw [Nat.add_comm s, Nat.testBit_two_pow_add_eq, Nat.testBit_lt_two_pow hs, nd_aR_fn, e]
    have : ∀ R, R ≤ nd_r D → nd_co (nd_f D) (2 ^ nd_r D + s) R = nd_co (nd_f D) s R := by
      intro R
      induction R with
      | zero => intro _; rfl
      | succ R ih =>
        intro hR
        unfold nd_co
        rw [ih (by omega), Nat.testBit_two_pow_add_gt (by omega)]
    rw [this _ (Nat.le_refl _)]
    simp [nd_C]
/-- Rules.add -/
theorem c15 {Φ : Int → nw_S → Prop} (hw : nd_wf D) (hC : nc_ru D σ) (hK : ∀ s, s < 2 ^ nd_r D → σ 13 s = nd_C D s) (hR : nd_r D < 12) {x1 x2 x3 x4 x5 : Int} (h : ∀ u : nw_S, (∀ j, j < 6 ∨ 14 ≤ j → u j = σ j) → nc_ru (nd_aR D (nd_fs x1 x2 x3 x4 x5)) u → (∀ s, s < 2 ^ (nd_r D + 1) → u 13 s = nd_C (nd_aR D (nd_fs x1 x2 x3 x4 x5)) s) → Φ (nd_r D) u) : nw_TI G 15 [.inl 6, .inr x1, .inr x2, .inr x3, .inr x4, .inr x5] σ Φ := by
  have e := hC.1
  have hp := nd_pw (r := nd_r D) (by omega)
  have hp1 := nd_pw (r := nd_r D + 1) (by omega)
  rw [Nat.pow_succ] at hp1
  refine nw_TI_of (by decide) (Nat.le_of_ble_eq_true rfl) (bk15_0 ?_)
  rw [e, Int.toNat_natCast]
  refine ⟨by omega, ?_⟩
  generalize hτ : nw_up (nw_up (nw_up (nw_up (nw_up (nw_up σ 7 (nd_r D) x1) 8 (nd_r D) x2) 9 (nd_r D) x3) 10 (nd_r D) x4) 11 (nd_r D) x5) 12 (nd_r D) 1 = τ0
  have t6 : τ0 6 = σ 6 := by rw [← hτ, nu_ne (by decide), nu_ne (by decide), nu_ne (by decide), nu_ne (by decide), nu_ne (by decide), nu_ne (by decide)]
  have t13 : τ0 13 = σ 13 := by rw [← hτ, nu_ne (by decide), nu_ne (by decide), nu_ne (by decide), nu_ne (by decide), nu_ne (by decide), nu_ne (by decide)]
  have tj : ∀ j, j < 6 ∨ 14 ≤ j → τ0 j = σ j := fun j q => by rw [← hτ, nu_ne (by omega), nu_ne (by omega), nu_ne (by omega), nu_ne (by omega), nu_ne (by omega), nu_ne (by omega)]
  have tf : ∀ i r, i < 6 → r < nd_r D + 1 → τ0 (7 + i) r = nd_f (nd_aR D (nd_fs x1 x2 x3 x4 x5)) i r := by
    intro i r hi hr
    by_cases q : r = nd_r D
    · subst q
      rw [nd_aR_fn, ← hτ]
      match i, hi with
      | 0, _ => rw [nu_ne (by decide), nu_ne (by decide), nu_ne (by decide), nu_ne (by decide), nu_ne (by decide), nu_at]; rfl
      | 1, _ => rw [nu_ne (by decide), nu_ne (by decide), nu_ne (by decide), nu_ne (by decide), nu_at]; rfl
      | 2, _ => rw [nu_ne (by decide), nu_ne (by decide), nu_ne (by decide), nu_at]; rfl
      | 3, _ => rw [nu_ne (by decide), nu_ne (by decide), nu_at]; rfl
      | 4, _ => rw [nu_ne (by decide), nu_at]; rfl
      | 5, _ => rw [nu_at]; rfl
      | i + 6, hi => omega
    · rw [nd_aR_f (by omega), ← hC.2 i r hi (by omega), ← hτ]
      simp [nw_up, q]
  have key : ∀ (w i : Nat) (τ : nw_S) (x8 : Int), i + w = 2 ^ nd_r D → x8 = i → (∀ j, j ≠ 13 → τ j = τ0 j) → (∀ s, s < 2 ^ nd_r D → τ 13 s = nd_C D s) → (∀ s, s < i → τ 13 (s + 2 ^ nd_r D) = nd_C D s + x5) → nw_V G 15 (nw_pi Φ) 65 [some (.inl 6), some (.inr x1), some (.inr x2), some (.inr x3), some (.inr x4), some (.inr x5), some (.inr (nd_r D : Int)), some (.inr ((2 ^ nd_r D : Nat) : Int)), some (.inr x8)] [] τ := by
    intro w
    induction w with
    | zero =>
      intro i τ x8 hi h8 hj hlo hhi
      subst h8
      refine bk15_65 ⟨by omega, by omega, fun _ => h _ (fun j q => ?_) ⟨?_, fun i r hi2 hr => ?_⟩ (fun s hs => ?_), fun q => by omega⟩
      · rw [nu_ne (by omega), hj j (by omega)]; exact tj j q
      · rw [nu_at, hj 6 (by decide), t6, e]
        show _ = ((nd_r D + 1 : Nat) : Int)
        push_cast
        rfl
      · rw [nu_ne (by omega), hj (7 + i) (by omega)]; exact tf i r hi2 hr
      · rw [Nat.pow_succ] at hs
        rw [nu_ne (by decide)]
        by_cases q : s < 2 ^ nd_r D
        · rw [hlo s q, (nd_aR_C hw q).1]
        · have hs2 : s - 2 ^ nd_r D < 2 ^ nd_r D := by omega
          have := hhi (s - 2 ^ nd_r D) (by omega)
          rw [show s - 2 ^ nd_r D + 2 ^ nd_r D = s from by omega] at this
          have h2 := (nd_aR_C hw (g := nd_fs x1 x2 x3 x4 x5) hs2).2
          rw [show s - 2 ^ nd_r D + 2 ^ nd_r D = s from by omega] at h2
          rw [this, h2]
          rfl
    | succ w ih =>
      intro i τ x8 hi h8 hj hlo hhi
      subst h8
      have ec : ((i : Int) + ((2 ^ nd_r D : Nat) : Int)) = ((i + 2 ^ nd_r D : Nat) : Int) := by omega
      refine bk15_65 ⟨by omega, by omega, fun q => by omega, fun _ => ?_⟩
      rw [ec]
      simp only [Int.toNat_natCast]
      refine ⟨by omega, by omega, ih (i + 1) _ _ (by omega) (by omega) (fun j q => by rw [nu_ne q]; exact hj j q) (fun s hs => by rw [nu_nj (by omega)]; exact hlo s hs) (fun s hs => ?_)⟩
      by_cases q : s = i
      · subst q; rw [nu_at, hlo s (by omega)]
      · rw [nu_nj (by omega)]; exact hhi s (by omega)
  exact c14 (by rw [t6]; exact e) (by omega) (key (2 ^ nd_r D) 0 τ0 _ (by omega) rfl (fun _ _ => rfl) (fun s hs => by rw [t13]; exact hK s hs) (fun s hs => by omega))
theorem nd_aR_B {g : Nat → Int} (p : Nat) : nd_bs (nd_n D) (nd_x (nd_aR D g) p) (nd_f (nd_aR D g)) (nd_r D) = nd_B D p := nd_bs_cg (nd_r D) (fun i r _ hr => nd_aR_f hr)
theorem c29 {Φ : Int → nw_S → Prop} (hw : nd_wf D) (hC : nc_st D σ) {x1 x2 x3 x4 x5 : Int} (h1 : nw_r x1) (h2 : nw_r x2) (h3 : nw_r x3) (h4 : nw_r x4) (h5 : nw_r x5) (h : ∀ u : nw_S, nc_st (nu_rule D x1 x2 x3 x4 x5) u → (∀ k, 26 ≤ k → u k = σ k) → Φ (nq_rule D x1 x2 x3 x4 x5) u) : nw_TI G 29 [.inl 0, .inr x1, .inr x2, .inr x3, .inr x4, .inr x5] σ Φ := by
  have hR := hw.2.2.2.2.1
  have e := hC.1.2.1.1
  refine nw_TI_of (by decide) (Nat.le_of_ble_eq_true rfl) (bk29_0 (c52 hw hC.1.1 h1 h2 h3 (fun z => ?_) (fun z => ?_)))
  · rw [nq_rule, nd_it_t z, nu_rule, nd_iD_f (fun y => y.1 z)] at h
    exact ⟨by decide, fun y => absurd y (by decide), fun _ => h σ hC (fun _ _ => rfl)⟩
  · rw [nq_rule, nd_it_f z] at h
    refine ⟨by decide, fun _ => c53 h1 h2 h3 h4 (fun z2 => ?_) (fun z2 => ?_), fun y => absurd rfl y⟩
    · refine ⟨by decide, fun y => absurd y (by decide), fun _ => c51 h5 (fun a b => ?_) (fun a => ?_)⟩
      · rw [nd_it_t ⟨z2, a, b⟩] at h
        rw [e]
        refine ⟨by decide, fun _ => ⟨by omega, fun q => ?_, fun q => ?_⟩, fun y => absurd y (by decide)⟩
        · have hR12 : nd_r D < 12 := by omega
          rw [if_pos hR12, nu_rule, nd_iD_t ⟨z, ⟨z2, a, b⟩, hR12⟩] at h
          have hw' := nd_aR_wf hw hR12 (nd_fs_ok h1 h2 h3 h4 z ⟨z2, a, b⟩)
          refine c15 hw hC.1.2.1 hC.1.2.2.2.1 hR12 (fun u1 e1 hru hco => ?_)
          have hch : nc_ch (nd_aR D (nd_fs x1 x2 x3 x4 x5)) u1 := by
            obtain ⟨a1, a2, a3, a4, a5⟩ := hC.1.1
            exact ⟨by rw [e1 1 (by omega)]; exact a1, by rw [e1 1 (by omega)]; exact a2, by rw [e1 2 (by omega)]; exact a3, by rw [e1 3 (by omega)]; exact a4, by rw [e1 4 (by omega)]; exact a5⟩
          refine c54 hw' hch hru (ρ := nd_r D) rfl (Nat.le_succ _) (fun p hp => ?_) (fun u2 e2 hB => c50 ?_)
          · have hB := nd_B_lt hw p
            have hpw : 1 ≤ 2 ^ nd_r D := Nat.one_le_two_pow
            have hp12 := nd_pw (r := nd_r D) (by omega)
            show nw_and (u1 14 p) _ = ((nd_bs (nd_n D) _ _ (nd_r D) : Nat) : Int)
            rw [nd_aR_B, e1 14 (by omega), hC.1.2.2.2.2 p hp, show (((2 ^ nd_r D : Nat) : Int) - 1) = ((2 ^ nd_r D - 1 : Nat) : Int) from by omega, nb_and (by omega) (by omega), Nat.and_two_pow_sub_one_eq_mod, Nat.mod_eq_of_lt hB.1]
          · refine h _ ⟨?_, Or.inl ?_, Or.inl nu_at⟩ (fun k q => ?_)
            · have hu2 : nc_al (nd_aR D (nd_fs x1 x2 x3 x4 x5)) u2 := by
                obtain ⟨a1, a2, a3, a4, a5⟩ := hch
                refine ⟨⟨by rw [e2 1 (by decide) (by decide)]; exact a1, by rw [e2 1 (by decide) (by decide)]; exact a2, by rw [e2 2 (by decide) (by decide)]; exact a3, by rw [e2 3 (by decide) (by decide)]; exact a4, by rw [e2 4 (by decide) (by decide)]; exact a5⟩, ⟨by rw [e2 6 (by decide) (by decide)]; exact hru.1, fun i r hi hr => by rw [e2 (7 + i) (by omega) (by omega)]; exact hru.2 i r hi hr⟩, fun p hp => ?_, by rw [e2 13 (by decide) (by decide)]; exact hco, hB⟩
                rw [e2 5 (by decide) (by decide), e1 5 (by omega)]
                exact hC.1.2.2.1 p hp
              exact hu2.to (fun k a b => by rw [nu_ne (by omega), nu_ne (by omega)])
            · rw [nu_nj (by decide)]; exact nu_at
            · rw [nu_ne (by omega), nu_ne (by omega), e2 k (by omega) (by omega)]
              exact e1 k (by omega)
        · rw [if_neg (by omega), nu_rule, nd_iD_f (fun y => by omega)] at h
          exact h σ hC (fun _ _ => rfl)
      · rw [nd_it_f (fun y => a y.2), nu_rule, nd_iD_f (fun y => a y.2.1.2)] at h
        exact ⟨by decide, fun y => absurd rfl y, fun _ => h σ hC (fun _ _ => rfl)⟩
    · rw [nd_it_f (fun y => z2 y.1), nu_rule, nd_iD_f (fun y => z2 y.2.1.1)] at h
      exact ⟨by decide, fun _ => h σ hC (fun _ _ => rfl), fun y => absurd rfl y⟩
end NC12
end
section
section NC13
variable {G : nw_G} {σ : nw_S} {D : nd_D}
theorem m73 {Φ : Int → nw_S → Prop} (hw : nd_wf D) (hC : nm_st D σ) {x1 x2 x3 x4 x5 : Int} (h1 : nw_r x1) (h2 : nw_r x2) (h3 : nw_r x3) (h4 : nw_r x4) (h5 : nw_r x5) (h : ∀ u : nw_S, nm_st (nu_rule D x1 x2 x3 x4 x5) u → (∀ k, k < 26 → u k = σ k) → Φ (nq_rule D x1 x2 x3 x4 x5) u) : nw_TI G 73 [.inl 26, .inr x1, .inr x2, .inr x3, .inr x4, .inr x5] σ Φ := by
  have hR := hw.2.2.2.2.1
  have e := hC.1.2.1
  have tail : ¬ nd_nm D x1 x2 x3 → nw_TI G 72 [.inr x1, .inr x2, .inr x3, .inr x4] σ (fun v3 u3 => (nw_r v3) ∧ ((v3 = 0 → Φ (-1000002) u3) ∧ (v3 ≠ 0 → nw_TI G 66 [.inr x5, .inr 1, .inr 1000] u3 (fun v4 u4 => (nw_r v4) ∧ ((v4 ≠ 0 → (nw_r (u4 26 3)) ∧ (((u4 26 3) ≠ 12 → (0 ≤ (u4 26 3) ∧ (u4 26 3) < 12) ∧ (Φ (((u4 26 3) + 1) - 1) (nw_up (nw_up (nw_up (nw_up (nw_up (nw_up (nw_up (nw_up u4 29 ((u4 26 3).toNat) x1) 30 ((u4 26 3).toNat) x2) 31 ((u4 26 3).toNat) x3) 32 ((u4 26 3).toNat) x4) 33 ((u4 26 3).toNat) x5) 34 ((u4 26 3).toNat) 1) 26 3 ((u4 26 3) + 1)) 26 11 0))) ∧ ((u4 26 3) = 12 → Φ (-1000003) u4))) ∧ (v4 = 0 → Φ (-1000002) u4)))))) := by
    intro z
    rw [nq_rule, nd_it_f z] at h
    refine c72 h1 h2 h3 h4 (fun z2 => ?_) (fun z2 => ?_)
    · refine ⟨by decide, fun y => absurd y (by decide), fun _ => c66 h5 (by decide) (by decide) (fun a b => ?_) (fun a => ?_)⟩
      · rw [nd_it_t ⟨z2, a, b⟩] at h
        rw [e]
        refine ⟨by decide, fun _ => ⟨by omega, fun q => ⟨by omega, ?_⟩, fun q => ?_⟩, fun y => absurd y (by decide)⟩
        · have hR12 : nd_r D < 12 := by omega
          rw [if_pos hR12, nu_rule, nd_iD_t ⟨z, ⟨z2, a, b⟩, hR12⟩] at h
          rw [show ((nd_r D : Int) + 1 - 1) = nd_r D from by omega, Int.toNat_natCast]
          obtain ⟨a1, a2, a3, a4, a5⟩ := hC.1
          refine h _ ⟨⟨?_, ?_, fun c hc => ?_, fun i hi => ?_, fun i r hi hr => ?_⟩, Or.inl nu_at⟩ (fun k q => ?_)
          · rw [nu_nj (by decide), nu_nj (by decide), nu_ne (by decide), nu_ne (by decide), nu_ne (by decide), nu_ne (by decide), nu_ne (by decide), nu_ne (by decide)]; exact a1
          · rw [nu_nj (by decide), nu_at]
            show _ = ((nd_r D + 1 : Nat) : Int)
            push_cast
            rfl
          · rw [nu_ne (by decide), nu_ne (by decide), nu_ne (by decide), nu_ne (by decide), nu_ne (by decide), nu_ne (by decide), nu_ne (by decide), nu_ne (by decide)]; exact a3 c hc
          · rw [nu_ne (by decide), nu_ne (by decide), nu_ne (by decide), nu_ne (by decide), nu_ne (by decide), nu_ne (by decide), nu_ne (by decide), nu_ne (by decide)]; exact a4 i hi
          · have hr : r < nd_r D + 1 := hr
            rw [nu_ne (by omega), nu_ne (by omega)]
            by_cases y : r = nd_r D
            · subst y
              rw [nd_aR_fn]
              match i, hi with
              | 0, _ => rw [nu_ne (by decide), nu_ne (by decide), nu_ne (by decide), nu_ne (by decide), nu_ne (by decide), nu_at]; rfl
              | 1, _ => rw [nu_ne (by decide), nu_ne (by decide), nu_ne (by decide), nu_ne (by decide), nu_at]; rfl
              | 2, _ => rw [nu_ne (by decide), nu_ne (by decide), nu_ne (by decide), nu_at]; rfl
              | 3, _ => rw [nu_ne (by decide), nu_ne (by decide), nu_at]; rfl
              | 4, _ => rw [nu_ne (by decide), nu_at]; rfl
              | 5, _ => rw [nu_at]; rfl
              | i + 6, hi => omega
            · rw [nd_aR_f (by omega), ← a5 i r hi (by omega)]
              simp [nw_up, y]
          · rw [nu_ne (by omega), nu_ne (by omega), nu_ne (by omega), nu_ne (by omega), nu_ne (by omega), nu_ne (by omega), nu_ne (by omega), nu_ne (by omega)]
        · rw [if_neg (by omega), nu_rule, nd_iD_f (fun y => by omega)] at h
          exact h σ hC (fun _ _ => rfl)
      · rw [nd_it_f (fun y => by omega), nu_rule, nd_iD_f (fun y => by omega)] at h
        exact ⟨by decide, fun y => absurd rfl y, fun _ => h σ hC (fun _ _ => rfl)⟩
    · rw [nd_it_f (fun y => z2 y.1), nu_rule, nd_iD_f (fun y => z2 y.2.1.1)] at h
      exact ⟨by decide, fun _ => h σ hC (fun _ _ => rfl), fun y => absurd rfl y⟩
  have bad : nd_nm D x1 x2 x3 → Φ (-1000001) σ := by
    intro z
    rw [nq_rule, nd_it_t z, nu_rule, nd_iD_f (fun y => y.1 z)] at h
    exact h σ hC (fun _ _ => rfl)
  refine nw_TI_of (by decide) (Nat.le_of_ble_eq_true rfl) (bk73_0 (c66 h1 (by decide) (by decide) (fun a b => c66 h1 (by decide) (by decide) (fun a2 b2 => ?_) (fun a2 => ?_)) (fun a => c66 h1 (by decide) (by decide) (fun a2 b2 => by omega) (fun a2 => ?_))))
  · refine ⟨by decide, fun y => absurd y (by decide), fun _ => c67' hw hC.1 h2 (fun z => ?_) (fun z => ?_)⟩
    · refine ⟨by decide, fun y => absurd y (by decide), fun _ => ⟨by decide, fun y => absurd y (by decide), fun _ => c67' hw hC.1 h3 (fun z3 => ?_) (fun z3 => ?_)⟩⟩
      · refine ⟨by decide, fun _ => tail ?_, fun y => absurd y (by decide)⟩
        rintro (⟨_, _, y⟩ | ⟨_, _, y⟩)
        · exact y z
        · exact y z3
      · exact ⟨by decide, fun y => absurd rfl y, fun _ => bad (Or.inr ⟨a2, b2, z3⟩)⟩
    · exact ⟨by decide, fun _ => bad (Or.inl ⟨a, b, z⟩), fun y => absurd rfl y⟩
  · refine ⟨by decide, fun y => absurd y (by decide), fun _ => c67' hw hC.1 h2 (fun z => ?_) (fun z => ?_)⟩
    · refine ⟨by decide, fun y => absurd y (by decide), fun _ => ⟨by decide, fun _ => tail ?_, fun y => absurd rfl y⟩⟩
      rintro (⟨_, _, y⟩ | ⟨_, _, y⟩)
      · exact y z
      · omega
    · exact ⟨by decide, fun _ => bad (Or.inl ⟨a, b, z⟩), fun y => absurd rfl y⟩
  · refine ⟨by decide, fun _ => ⟨by decide, fun _ => tail ?_, fun y => absurd rfl y⟩, fun y => absurd rfl y⟩
    rintro (⟨_, _, y⟩ | ⟨_, _, y⟩) <;> omega
/-! one field of one rule: its mode, its weight -/
def nd_sF (D : nd_D) (i r : Nat) (v : Int) : nd_D := (nd_n D, nd_m D, nd_w D, nd_r D, fun j q => if j = i ∧ q = r then v else nd_f D j q)
theorem nd_sF_f {i r j q : Nat} {v : Int} : nd_f (nd_sF D i r v) j q = if j = i ∧ q = r then v else nd_f D j q := rfl
theorem nd_sF_B {i r : Nat} {v : Int} (hi : 4 ≤ i) (p : Nat) : nd_B (nd_sF D i r v) p = nd_B D p := by
  unfold nd_B
  exact nd_bs_cg (nd_r D) (fun j q hj _ => by rw [nd_sF_f, if_neg (by omega)])
theorem nd_sF_wf (hw : nd_wf D) {i r : Nat} {v : Int} (h : (i = 4 ∧ 1 ≤ v ∧ v ≤ 1000) ∨ (i = 5 ∧ 0 ≤ v ∧ v ≤ 2)) : nd_wf (nd_sF D i r v) := by
  refine ⟨hw.1, hw.2.1, hw.2.2.1, hw.2.2.2.1, hw.2.2.2.2.1, fun q hq => ?_⟩
  have hok := hw.2.2.2.2.2 q hq
  dsimp only [nd_ok] at hok ⊢
  obtain ⟨k1, k2, k3, k4, k5, k6, k7, k8, k9⟩ := hok
  have e : ∀ j, j < 4 → nd_f (nd_sF D i r v) j q = nd_f D j q := fun j hj => by rw [nd_sF_f, if_neg (by omega)]
  rw [e 0 (by omega), e 1 (by omega), e 2 (by omega), e 3 (by omega)]
  refine ⟨fun j hj => ?_, k2, k3, k4, k5, k6, k7, ?_, ?_⟩
  · rw [nd_sF_f]
    split
    · omega
    · exact k1 j hj
  · rw [nd_sF_f]
    split
    · omega
    · exact k8
  · rw [nd_sF_f]
    split
    · omega
    · exact k9
theorem nd_sF_C5 {r : Nat} {v : Int} (s : Nat) : nd_C (nd_sF D 5 r v) s = nd_C D s := by
  unfold nd_C
  exact nd_co_cg (nd_r D) (fun q _ => by rw [nd_sF_f, if_neg (by omega)])
theorem nd_sF_C4 {r : Nat} {v : Int} (hr : r < nd_r D) (s : Nat) : nd_C (nd_sF D 4 r v) s = nd_C D s + (if s.testBit r then v - nd_f D 4 r else 0) := by
  have : ∀ R, nd_co (nd_f (nd_sF D 4 r v)) s R = nd_co (nd_f D) s R + (if r < R ∧ s.testBit r = true then v - nd_f D 4 r else 0) := by
    intro R
    induction R with
    | zero => simp [nd_co]
    | succ R ih =>
      unfold nd_co
      rw [ih, nd_sF_f]
      by_cases q : R = r
      · subst q
        by_cases y : s.testBit R = true
        · simp [y]
          omega
        · simp [y]
      · have : (r < R + 1) ↔ (r < R) := by omega
        simp only [this, q, and_false, if_false]
        omega
  have h := this (nd_r D)
  simp only [hr, true_and] at h
  exact h
theorem nc_ru.sF (hC : nc_ru D σ) {i r : Nat} {v : Int} (hi : i < 6) : nc_ru (nd_sF D i r v) (nw_up σ (7 + i) r v) := by
  refine ⟨by rw [nu_ne (by omega)]; exact hC.1, fun j q hj hq => ?_⟩
  rw [nd_sF_f]
  by_cases y : j = i ∧ q = r
  · obtain ⟨rfl, rfl⟩ := y
    rw [if_pos ⟨rfl, rfl⟩, nu_at]
  · rw [if_neg y, ← hC.2 j q hj hq]
    unfold nw_up
    rw [if_neg (by omega)]
theorem nm_st.sF (hC : nm_st D σ) {i r : Nat} {v : Int} (hi : i < 6) (h4 : 4 ≤ i) : nm_st (nd_sF D i r v) (nw_up σ (29 + i) r v) := by
  obtain ⟨a1, a2, a3, a4, a5⟩ := hC.1
  refine ⟨⟨by rw [nu_ne (by omega)]; exact a1, by rw [nu_ne (by omega)]; exact a2, by rw [nu_ne (by omega)]; exact a3, by rw [nu_ne (by omega)]; exact a4, fun j q hj hq => ?_⟩, ?_⟩
  · rw [nd_sF_f]
    by_cases y : j = i ∧ q = r
    · obtain ⟨rfl, rfl⟩ := y
      rw [if_pos ⟨rfl, rfl⟩, nu_at]
    · rw [if_neg y, ← a5 j q hj hq]
      unfold nw_up
      rw [if_neg (by omega)]
  · rcases hC.2 with y | y
    · exact Or.inl (by rw [nu_ne (by omega)]; exact y)
    · refine Or.inr ⟨by rw [nu_ne (by omega)]; exact y.1, fun p hp => ?_⟩
      rw [nu_ne (by omega), nd_sF_B h4]
      exact y.2 p hp
noncomputable def nq_mode (D : nd_D) (a v : Int) : Int := nd_it (nd_isR D a) (if 0 ≤ v ∧ v ≤ 2 then nd_f D 5 a.toNat else -1000002) (-1000001)
noncomputable def nu_mode (D : nd_D) (a v : Int) : nd_D := nd_iD (nd_isR D a ∧ 0 ≤ v ∧ v ≤ 2) (nd_sF D 5 a.toNat v) D
noncomputable def nq_weigh (D : nd_D) (a v : Int) : Int := nd_it (nd_isR D a) (if 1 ≤ v ∧ v ≤ 1000 then nd_f D 4 a.toNat else -1000002) (-1000001)
noncomputable def nu_weigh (D : nd_D) (a v : Int) : nd_D := nd_iD (nd_isR D a ∧ 1 ≤ v ∧ v ≤ 1000) (nd_sF D 4 a.toNat v) D
theorem nu_mode_wf (hw : nd_wf D) (a v : Int) : nd_wf (nu_mode D a v) := by
  unfold nu_mode
  by_cases q : nd_isR D a ∧ 0 ≤ v ∧ v ≤ 2
  · rw [nd_iD_t q]; exact nd_sF_wf hw (Or.inr ⟨rfl, q.2⟩)
  · rw [nd_iD_f q]; exact hw
theorem nu_weigh_wf (hw : nd_wf D) (a v : Int) : nd_wf (nu_weigh D a v) := by
  unfold nu_weigh
  by_cases q : nd_isR D a ∧ 1 ≤ v ∧ v ≤ 1000
  · rw [nd_iD_t q]; exact nd_sF_wf hw (Or.inl ⟨rfl, q.2⟩)
  · rw [nd_iD_f q]; exact hw
theorem c30 {Φ : Int → nw_S → Prop} (hw : nd_wf D) (hC : nc_st D σ) {x1 x2 : Int} (h1 : nw_r x1) (h2 : nw_r x2) (h : ∀ u : nw_S, nc_st (nu_mode D x1 x2) u → (∀ k, 26 ≤ k → u k = σ k) → Φ (nq_mode D x1 x2) u) : nw_TI G 30 [.inl 0, .inr x1, .inr x2] σ Φ := by
  have hR := hw.2.2.2.2.1
  refine nw_TI_of (by decide) (Nat.le_of_ble_eq_true rfl) (bk30_0 (c13' hw hC.1.2.1 h1 (fun z => ?_) (fun z => ?_)))
  · rw [nq_mode, nd_it_t z] at h
    refine ⟨by decide, fun _ => ⟨h2, fun q => ?_, fun q => ⟨fun q2 => ?_, fun q2 => ?_⟩⟩, fun y => absurd y (by decide)⟩
    · rw [nu_mode, nd_iD_f (by omega), if_neg (by omega)] at h
      exact h σ hC (fun _ _ => rfl)
    · rw [nu_mode, nd_iD_t ⟨z, q, q2⟩, if_pos ⟨q, q2⟩] at h
      obtain ⟨z1, z2⟩ := z
      refine ⟨by omega, c50 ?_⟩
      rw [show σ 12 x1.toNat = nd_f D 5 x1.toNat from hC.1.2.1.2 5 x1.toNat (by decide) (by omega)]
      have hru := hC.1.2.1.sF (i := 5) (r := x1.toNat) (v := x2) (by decide)
      have hal : nc_al (nd_sF D 5 x1.toNat x2) (nw_up σ 12 x1.toNat x2) := by
        obtain ⟨⟨a1, a2, a3, a4, a5⟩, -, b1, b2, b3⟩ := hC.1
        refine ⟨⟨a1, a2, a3, a4, a5⟩, hru, b1, fun s hs => ?_, fun p hp => ?_⟩
        · rw [nd_sF_C5, nu_ne (by decide)]; exact b2 s hs
        · rw [nd_sF_B (by decide), nu_ne (by decide)]; exact b3 p hp
      refine h _ ⟨hal.to (fun k a b => by rw [nu_ne (by omega), nu_ne (by omega)]), Or.inl ?_, Or.inl nu_at⟩ (fun k q => by rw [nu_ne (by omega), nu_ne (by omega), nu_ne (by omega)])
      rw [nu_nj (by decide)]
      exact nu_at
    · rw [nu_mode, nd_iD_f (by omega), if_neg (by omega)] at h
      exact h σ hC (fun _ _ => rfl)
  · rw [nq_mode, nd_it_f z, nu_mode, nd_iD_f (fun y => z y.1)] at h
    exact ⟨by decide, fun y => absurd rfl y, fun _ => h σ hC (fun _ _ => rfl)⟩
theorem m74 {Φ : Int → nw_S → Prop} (hw : nd_wf D) (hC : nm_st D σ) {x1 x2 : Int} (h1 : nw_r x1) (h2 : nw_r x2) (h : ∀ u : nw_S, nm_st (nu_mode D x1 x2) u → (∀ k, k < 26 → u k = σ k) → Φ (nq_mode D x1 x2) u) : nw_TI G 74 [.inl 26, .inr x1, .inr x2] σ Φ := by
  have hR := hw.2.2.2.2.1
  refine nw_TI_of (by decide) (Nat.le_of_ble_eq_true rfl) (bk74_0 (c69' hw hC.1 h1 (fun z => ?_) (fun z => ?_)))
  · rw [nq_mode, nd_it_t z] at h
    refine ⟨by decide, fun _ => c66 h2 (by decide) (by decide) (fun q q2 => ?_) (fun q => ?_), fun y => absurd y (by decide)⟩
    · rw [nu_mode, nd_iD_t ⟨z, q, q2⟩, if_pos ⟨q, q2⟩] at h
      obtain ⟨z1, z2⟩ := z
      refine ⟨by decide, fun _ => ⟨by omega, ?_⟩, fun y => absurd y (by decide)⟩
      rw [show σ 34 x1.toNat = nd_f D 5 x1.toNat from hC.1.2.2.2.2 5 x1.toNat (by decide) (by omega)]
      exact h _ (hC.sF (i := 5) (by decide) (by decide)) (fun k q => nu_ne (by omega))
    · rw [nu_mode, nd_iD_f (by omega), if_neg (by omega)] at h
      exact ⟨by decide, fun y => absurd rfl y, fun _ => h σ hC (fun _ _ => rfl)⟩
  · rw [nq_mode, nd_it_f z, nu_mode, nd_iD_f (fun y => z y.1)] at h
    exact ⟨by decide, fun y => absurd rfl y, fun _ => h σ hC (fun _ _ => rfl)⟩
theorem m75 {Φ : Int → nw_S → Prop} (hw : nd_wf D) (hC : nm_st D σ) {x1 x2 : Int} (h1 : nw_r x1) (h2 : nw_r x2) (h : ∀ u : nw_S, nm_st (nu_weigh D x1 x2) u → (∀ k, k < 26 → u k = σ k) → Φ (nq_weigh D x1 x2) u) : nw_TI G 75 [.inl 26, .inr x1, .inr x2] σ Φ := by
  have hR := hw.2.2.2.2.1
  refine nw_TI_of (by decide) (Nat.le_of_ble_eq_true rfl) (bk75_0 (c69' hw hC.1 h1 (fun z => ?_) (fun z => ?_)))
  · rw [nq_weigh, nd_it_t z] at h
    refine ⟨by decide, fun _ => c66 h2 (by decide) (by decide) (fun q q2 => ?_) (fun q => ?_), fun y => absurd y (by decide)⟩
    · rw [nu_weigh, nd_iD_t ⟨z, q, q2⟩, if_pos ⟨q, q2⟩] at h
      obtain ⟨z1, z2⟩ := z
      refine ⟨by decide, fun _ => ⟨by omega, ?_⟩, fun y => absurd y (by decide)⟩
      rw [show σ 33 x1.toNat = nd_f D 4 x1.toNat from hC.1.2.2.2.2 4 x1.toNat (by decide) (by omega)]
      exact h _ (hC.sF (i := 4) (by decide) (by decide)) (fun k q => nu_ne (by omega))
    · rw [nu_weigh, nd_iD_f (by omega), if_neg (by omega)] at h
      exact ⟨by decide, fun y => absurd rfl y, fun _ => h σ hC (fun _ _ => rfl)⟩
  · rw [nq_weigh, nd_it_f z, nu_weigh, nd_iD_f (fun y => z y.1)] at h
    exact ⟨by decide, fun y => absurd rfl y, fun _ => h σ hC (fun _ _ => rfl)⟩
theorem c16 {Φ : Int → nw_S → Prop} (hw : nd_wf D) (hC : nc_ru D σ) (hK : ∀ s, s < 2 ^ nd_r D → σ 13 s = nd_C D s) {x1 x2 : Int} {r : Nat} (h1 : x1 = r) (hr : r < nd_r D) (h : ∀ u : nw_S, (∀ j, j ≠ 11 → j ≠ 13 → u j = σ j) → nc_ru (nd_sF D 4 r x2) u → (∀ s, s < 2 ^ nd_r D → u 13 s = nd_C (nd_sF D 4 r x2) s) → Φ (nd_f D 4 r) u) : nw_TI G 16 [.inl 6, .inr x1, .inr x2] σ Φ := by
  subst h1
  have hR := hw.2.2.2.2.1
  have e := hC.1
  have hp := nd_pw (r := nd_r D) (by omega)
  have ew : σ 11 r = nd_f D 4 r := hC.2 4 r (by decide) hr
  have hru := hC.sF (i := 4) (r := r) (v := x2) (by decide)
  have key : ∀ (w i : Nat) (τ : nw_S) (x5 : Int), i + w = 2 ^ nd_r D → x5 = i → (∀ j, j ≠ 13 → τ j = nw_up σ 11 r x2 j) → (∀ s, s < i → τ 13 s = nd_C (nd_sF D 4 r x2) s) → (∀ s, i ≤ s → s < 2 ^ nd_r D → τ 13 s = nd_C D s) → nw_V G 16 (nw_pi Φ) 23 [some (.inl 6), some (.inr (r : Int)), some (.inr x2), some (.inr (nd_f D 4 r)), some (.inr ((2 ^ nd_r D : Nat) : Int)), some (.inr x5)] [] τ := by
    intro w
    induction w with
    | zero =>
      intro i τ x5 hi h5 hj hlo hhi
      subst h5
      refine bk16_23 ⟨by omega, by omega, fun _ => h τ (fun j a b => by rw [hj j b, nu_ne a]) ⟨by rw [hj 6 (by decide)]; exact hru.1, fun i q hi hq => by rw [hj (7 + i) (by omega)]; exact hru.2 i q hi hq⟩ (fun s hs => hlo s (by omega)), fun q => by omega⟩
    | succ w ih =>
      intro i τ x5 hi h5 hj hlo hhi
      subst h5
      refine bk16_23 ⟨by omega, by omega, fun q => by omega, fun _ => ⟨nb_rand _ _, ?_⟩⟩
      rw [nb_bit (by omega) (by omega)]
      simp only [Int.toNat_natCast]
      refine ⟨fun q => ih (i + 1) _ _ (by omega) (by omega) hj (fun s hs => ?_) (fun s a b => hhi s (by omega) b), fun q => ⟨by omega, ih (i + 1) _ _ (by omega) (by omega) (fun j a => by rw [nu_ne a]; exact hj j a) (fun s hs => ?_) (fun s a b => by rw [nu_nj (by omega)]; exact hhi s (by omega) b)⟩⟩
      · by_cases y : s = i
        · subst y
          have hb : s.testBit r = false := by
            cases hb : s.testBit r with
            | false => rfl
            | true => rw [hb] at q; exact absurd rfl q
          rw [hhi s (Nat.le_refl _) (by omega), nd_sF_C4 hr, hb]
          simp
        · exact hlo s (by omega)
      · by_cases y : s = i
        · subst y
          have hb : s.testBit r = true := by
            cases hb : s.testBit r with
            | true => rfl
            | false => rw [hb] at q; exact absurd q (by decide)
          rw [nu_at, hhi s (Nat.le_refl _) (by omega), nd_sF_C4 hr, hb]
          simp
        · rw [nu_nj y]; exact hlo s (by omega)
  refine nw_TI_of (by decide) (Nat.le_of_ble_eq_true rfl) (bk16_0 ?_)
  rw [Int.toNat_natCast, ew]
  exact ⟨by omega, c14 (by rw [nu_ne (by decide)]; exact e) (by omega) (key (2 ^ nd_r D) 0 _ _ (by omega) rfl (fun _ _ => rfl) (fun s hs => by omega) (fun s _ hs => by rw [nu_ne (by decide)]; exact hK s hs))⟩
theorem c31 {Φ : Int → nw_S → Prop} (hw : nd_wf D) (hC : nc_st D σ) {x1 x2 : Int} (h1 : nw_r x1) (h2 : nw_r x2) (h : ∀ u : nw_S, nc_st (nu_weigh D x1 x2) u → (∀ k, 26 ≤ k → u k = σ k) → Φ (nq_weigh D x1 x2) u) : nw_TI G 31 [.inl 0, .inr x1, .inr x2] σ Φ := by
  have hR := hw.2.2.2.2.1
  refine nw_TI_of (by decide) (Nat.le_of_ble_eq_true rfl) (bk31_0 (c13' hw hC.1.2.1 h1 (fun z => ?_) (fun z => ?_)))
  · rw [nq_weigh, nd_it_t z] at h
    refine ⟨by decide, fun _ => c51 h2 (fun q q2 => ?_) (fun q => ?_), fun y => absurd y (by decide)⟩
    · rw [nu_weigh, nd_iD_t ⟨z, q, q2⟩, if_pos ⟨q, q2⟩] at h
      obtain ⟨z1, z2⟩ := z
      refine ⟨by decide, fun _ => c50 ?_, fun y => absurd y (by decide)⟩
      have hA : nc_al D (nw_up (nw_up σ 0 5 1) 0 11 1) := hC.1.to (fun k a b => by rw [nu_ne (by omega), nu_ne (by omega)])
      refine c16 hw hA.2.1 hA.2.2.2.1 (r := x1.toNat) (by omega) (by omega) (fun u e hru hco => h u ⟨⟨?_, hru, ?_, hco, fun p hp => ?_⟩, Or.inl ?_, Or.inl ?_⟩ (fun k q => ?_))
      · obtain ⟨a1, a2, a3, a4, a5⟩ := hA.1
        exact ⟨by rw [e 1 (by decide) (by decide)]; exact a1, by rw [e 1 (by decide) (by decide)]; exact a2, by rw [e 2 (by decide) (by decide)]; exact a3, by rw [e 3 (by decide) (by decide)]; exact a4, by rw [e 4 (by decide) (by decide)]; exact a5⟩
      · rw [e 5 (by decide) (by decide)]; exact hA.2.2.1
      · rw [e 14 (by decide) (by decide), nd_sF_B (by decide)]; exact hA.2.2.2.2 p hp
      · rw [e 0 (by decide) (by decide), nu_nj (by decide)]; exact nu_at
      · rw [e 0 (by decide) (by decide)]; exact nu_at
      · rw [e k (by omega) (by omega), nu_ne (by omega), nu_ne (by omega)]
    · rw [nu_weigh, nd_iD_f (fun y => q y.2), if_neg q] at h
      exact ⟨by decide, fun y => absurd rfl y, fun _ => h σ hC (fun _ _ => rfl)⟩
  · rw [nq_weigh, nd_it_f z, nu_weigh, nd_iD_f (fun y => z y.1)] at h
    exact ⟨by decide, fun y => absurd rfl y, fun _ => h σ hC (fun _ _ => rfl)⟩
noncomputable def nq_told (D : nd_D) (a w : Int) : Int := nd_it (nd_isR D a) (if 0 ≤ w ∧ w ≤ 5 then nd_f D w.toNat a.toNat else -1000002) (-1000001)
theorem c32 {Φ : Int → nw_S → Prop} (hw : nd_wf D) (hC : nc_st D σ) {x1 x2 : Int} (h1 : nw_r x1) (h2 : nw_r x2) (h : Φ (nq_told D x1 x2) σ) : nw_TI G 32 [.inl 0, .inr x1, .inr x2] σ Φ := by
  have hR := hw.2.2.2.2.1
  refine nw_TI_of (by decide) (Nat.le_of_ble_eq_true rfl) (bk32_0 (c13' hw hC.1.2.1 h1 (fun z => ?_) (fun z => ?_)))
  · rw [nq_told, nd_it_t z] at h
    obtain ⟨z1, z2⟩ := z
    have f := fun i hi => hC.1.2.1.2 i x1.toNat hi (by omega)
    refine ⟨by decide, fun _ => ⟨h2, fun q => ?_, fun q => ?_, fun q => ?_, fun q => ?_, fun q => ?_, fun q => ?_, fun q => ?_⟩, fun y => absurd y (by decide)⟩
    · rw [if_neg (by omega)] at h; exact h
    · subst q; exact ⟨by omega, (f 0 (by decide)).symm ▸ h⟩
    · subst q; exact ⟨by omega, (f 1 (by decide)).symm ▸ h⟩
    · subst q; exact ⟨by omega, (f 2 (by decide)).symm ▸ h⟩
    · subst q; exact ⟨by omega, (f 3 (by decide)).symm ▸ h⟩
    · subst q; exact ⟨by omega, (f 4 (by decide)).symm ▸ h⟩
    · subst q; exact ⟨by omega, (f 5 (by decide)).symm ▸ h⟩
  · rw [nq_told, nd_it_f z] at h
    exact ⟨by decide, fun y => absurd rfl y, fun _ => h⟩
theorem m76 {Φ : Int → nw_S → Prop} (hw : nd_wf D) (hC : nm_st D σ) {x1 x2 : Int} (h1 : nw_r x1) (h2 : nw_r x2) (h : Φ (nq_told D x1 x2) σ) : nw_TI G 76 [.inl 26, .inr x1, .inr x2] σ Φ := by
  have hR := hw.2.2.2.2.1
  refine nw_TI_of (by decide) (Nat.le_of_ble_eq_true rfl) (bk76_0 (c69' hw hC.1 h1 (fun z => ?_) (fun z => ?_)))
  · rw [nq_told, nd_it_t z] at h
    obtain ⟨z1, z2⟩ := z
    have f := fun i hi => hC.1.2.2.2.2 i x1.toNat hi (by omega)
    refine ⟨by decide, fun _ => ⟨h2, fun q => ?_, fun q => ?_, fun q => ?_, fun q => ?_, fun q => ?_, fun q => ?_, fun q => ?_⟩, fun y => absurd y (by decide)⟩
    · rw [if_neg (by omega)] at h; exact h
    · subst q; exact ⟨by omega, (f 0 (by decide)).symm ▸ h⟩
    · subst q; exact ⟨by omega, (f 1 (by decide)).symm ▸ h⟩
    · subst q; exact ⟨by omega, (f 2 (by decide)).symm ▸ h⟩
    · subst q; exact ⟨by omega, (f 3 (by decide)).symm ▸ h⟩
    · subst q; exact ⟨by omega, (f 4 (by decide)).symm ▸ h⟩
    · subst q; exact ⟨by omega, (f 5 (by decide)).symm ▸ h⟩
  · rw [nq_told, nd_it_f z] at h
    exact ⟨by decide, fun y => absurd rfl y, fun _ => h⟩
def nq_cost (D : nd_D) (s : Int) : Int := if 0 ≤ s ∧ s < ((2 ^ nd_r D : Nat) : Int) then nd_C D s.toNat else -1000001
theorem c46 {Φ : Int → nw_S → Prop} (hw : nd_wf D) (hC : nc_st D σ) {x1 : Int} (h1 : nw_r x1) (h : Φ (nq_cost D x1) σ) : nw_TI G 46 [.inl 0, .inr x1] σ Φ := by
  have hR := hw.2.2.2.2.1
  have hp := nd_pw (r := nd_r D) (by omega)
  have hp0 : 0 < 2 ^ nd_r D := Nat.two_pow_pos _
  refine nw_TI_of (by decide) (Nat.le_of_ble_eq_true rfl) (bk46_0 ⟨h1, fun q => ?_, fun q => c14 hC.1.2.1.1 (by omega) ⟨by omega, fun q2 => ⟨by omega, ?_⟩, fun q2 => ?_⟩⟩)
  · rw [nq_cost, if_neg (by omega)] at h; exact h
  · rw [nq_cost, if_pos ⟨q, q2⟩] at h
    rw [hC.1.2.2.2.1 x1.toNat (by omega)]
    exact h
  · rw [nq_cost, if_neg (by omega)] at h; exact h
theorem m110 {Φ : Int → nw_S → Prop} (hw : nd_wf D) (hC : nm_st D σ) {x1 : Int} (h1 : nw_r x1) (h : Φ (nq_cost D x1) σ) : nw_TI G 110 [.inl 26, .inr x1] σ Φ := by
  have hR := hw.2.2.2.2.1
  have hp := nd_pw (r := nd_r D) (by omega)
  refine nw_TI_of (by decide) (Nat.le_of_ble_eq_true rfl) (bk110_0 ⟨h1, fun q => ?_, fun q => ⟨nb_r _, ?_⟩⟩)
  · rw [nq_cost, if_neg (by omega)] at h; exact h
  · obtain ⟨s, hs⟩ : ∃ s : Nat, x1 = s := ⟨x1.toNat, by omega⟩
    subst hs
    rw [hC.1.2.1, nb_shr (by omega) (by omega)]
    have hpos : 0 < 2 ^ nd_r D := Nat.two_pow_pos _
    refine ⟨fun q2 => ?_, fun q2 => ?_⟩
    · have hlt : s < 2 ^ nd_r D := by
        have : s / 2 ^ nd_r D = 0 := by omega
        exact (Nat.div_eq_zero_iff_lt hpos).mp this
      rw [nq_cost, if_pos (by omega), Int.toNat_natCast] at h
      exact c83 hw hC.1 rfl (by omega) h
    · have hge : ¬ s < 2 ^ nd_r D := fun y => q2 (by rw [Nat.div_eq_of_lt y]; rfl)
      rw [nq_cost, if_neg (by omega)] at h; exact h
end NC13
end
section
section NC14
variable {G : nw_G} {σ : nw_S} {D : nd_D}
/-! a plan by what it takes -/
def nd_pn (m x : Nat → Nat) : Nat → Nat
  | 0 => 0
  | n + 1 => nd_pn m x n * m n + x n
def nd_ps (m : Nat → Nat) (n : Nat) (x : Nat → Nat) : Nat → Nat
  | 0 => 0
  | c + 1 => nd_ps m n x c + x c * nd_sp m n c
theorem nd_ps_step (m : Nat → Nat) (n : Nat) (x : Nat → Nat) : ∀ i, i ≤ n → nd_ps m (n + 1) x i = nd_ps m n x i * m n
  | 0, _ => by simp [nd_ps]
  | i + 1, h => by
    unfold nd_ps
    rw [nd_ps_step m n x i (by omega), Nat.add_mul, Nat.mul_assoc]
    congr 1
    congr 1
    show (if i < n then nd_sp m n i * m n else 1) = _
    rw [if_pos (by omega)]
theorem nd_ps_pn (m x : Nat → Nat) : ∀ n, nd_ps m n x n = nd_pn m x n
  | 0 => rfl
  | n + 1 => by
    show nd_ps m (n + 1) x n + x n * nd_sp m (n + 1) n = nd_pn m x n * m n + x n
    rw [nd_ps_step m n x n (Nat.le_refl _), nd_ps_pn m x n, nd_sp_last, Nat.mul_one]
theorem nd_pn_lt {m x : Nat → Nat} : ∀ n, (∀ c, c < n → x c < m c) → nd_pn m x n < nd_pl m n
  | 0, _ => by simp [nd_pn, nd_pl]
  | n + 1, h => by
    have ih := nd_pn_lt n (fun c hc => h c (by omega))
    have hx := h n (by omega)
    show nd_pn m x n * m n + x n < nd_pl m n * m n
    have h1 : (nd_pn m x n + 1) * m n ≤ nd_pl m n * m n := Nat.mul_le_mul_right _ ih
    rw [Nat.succ_mul] at h1
    omega
theorem nd_pn_dg {m x : Nat → Nat} : ∀ n c, (∀ c, c < n → x c < m c) → c < n → nd_dg m n (nd_pn m x n) c = x c
  | 0, c, _, hc => by omega
  | n + 1, c, h, hc => by
    have hx := h n (by omega)
    unfold nd_dg
    show (nd_pn m x n * m n + x n) / nd_sp m (n + 1) c % m c = x c
    by_cases q : c = n
    · subst q
      rw [nd_sp_last, Nat.div_one, Nat.mul_comm, Nat.mul_add_mod, Nat.mod_eq_of_lt hx]
    · have ih := nd_pn_dg n c (fun c hc => h c (by omega)) (by omega)
      unfold nd_dg at ih
      rw [show nd_sp m (n + 1) c = nd_sp m n c * m n from by show (if c < n then nd_sp m n c * m n else 1) = _; rw [if_pos (by omega)], Nat.mul_comm (nd_sp m n c), ← Nat.div_div_eq_div_mul, Nat.mul_comm (nd_pn m x n), Nat.mul_add_div (by omega), Nat.div_eq_of_lt hx, Nat.add_zero]
      exact ih
theorem nd_ct_x {x x' : Nat → Nat} {a : Int} : ∀ n, (∀ c, c < n → x c = x' c) → nd_ct x a n = nd_ct x' a n
  | 0, _ => rfl
  | n + 1, h => by
    unfold nd_ct
    rw [nd_ct_x n (fun c hc => h c (by omega)), h n (by omega)]
theorem nd_sm_x {x x' : Nat → Nat} : ∀ n, (∀ c, c < n → x c = x' c) → nd_sm x n = nd_sm x' n
  | 0, _ => rfl
  | n + 1, h => by
    unfold nd_sm
    rw [nd_sm_x n (fun c hc => h c (by omega)), h n (by omega)]
theorem nd_kp_x {n : Nat} {x x' : Nat → Nat} {g : Nat → Int} (hg : nd_ok n g) (h : ∀ c, c < n → x c = x' c) : nd_kp n x g = nd_kp n x' g := by
  obtain ⟨k1, k2, k3, k4, -⟩ := hg
  unfold nd_kp
  rw [nd_ct_x n h, nd_sm_x n h]
  by_cases q5 : g 0 ≤ 5
  · have ea : x (g 1).toNat = x' (g 1).toNat := h _ (by have := k3 q5; omega)
    rw [ea]
    by_cases q1 : 1 ≤ g 0
    · have eb : x (g 2).toNat = x' (g 2).toNat := h _ (by have := k4 q1 q5; omega)
      rw [eb]
    · have q0 : g 0 = 0 := by omega
      simp [q0]
  · have h0 : ¬ g 0 = 0 := by omega
    have h1 : ¬ g 0 = 1 := by omega
    have h2 : ¬ g 0 = 2 := by omega
    have h3 : ¬ g 0 = 3 := by omega
    have h4 : ¬ g 0 = 4 := by omega
    have h5 : ¬ g 0 = 5 := by omega
    simp [h0, h1, h2, h3, h4, h5]
theorem nd_bs_x {n : Nat} {x x' : Nat → Nat} {f : Nat → Nat → Int} (h : ∀ c, c < n → x c = x' c) : ∀ R, (∀ r, r < R → nd_ok n (fun i => f i r)) → nd_bs n x f R = nd_bs n x' f R
  | 0, _ => rfl
  | R + 1, hg => by
    unfold nd_bs
    rw [nd_bs_x h R (fun r hr => hg r (by omega)), nd_kp_x (hg R (by omega)) h]
def nd_av (a b c d e : Int) (i : Nat) : Int := if i = 0 then a else if i = 1 then b else if i = 2 then c else if i = 3 then d else e
/-- what is told is a plan -/
def nd_isP (D : nd_D) (v : Nat → Int) : Prop := ∀ c, c < nd_n D → 0 ≤ v c ∧ v c < nd_m D c
def nd_xv (v : Nat → Int) (c : Nat) : Nat := (v c).toNat
theorem nd_isP_lt {v : Nat → Int} (h : nd_isP D v) {c : Nat} (hc : c < nd_n D) : nd_xv v c < nd_m D c := by
  have := h c hc
  unfold nd_xv
  omega
theorem nd_isP_x {v : Nat → Int} (h : nd_isP D v) {c : Nat} (hc : c < nd_n D) : nd_x D (nd_pn (nd_m D) (nd_xv v) (nd_n D)) c = nd_xv v c := nd_pn_dg (nd_n D) c (fun c hc => nd_isP_lt h hc) hc
theorem c7 {Φ : Int → nw_S → Prop} (hw : nd_wf D) (hC : nc_ch D σ) {v : Nat → Int} (hv : ∀ c, c < nd_n D → σ 15 c = v c ∧ nw_r (v c)) (ht : nd_isP D v → Φ (nd_pn (nd_m D) (nd_xv v) (nd_n D) : Nat) σ) (hf : ¬ nd_isP D v → Φ (-1) σ) : nw_TI G 7 [.inl 1, .inl 15] σ Φ := by
  have hn := hw.1
  have e := hC.1
  have key : ∀ (w i : Nat) (x2 x3 : Int), i + w = nd_n D → x3 = i → (∀ c, c < i → 0 ≤ v c ∧ v c < nd_m D c) → x2 = (nd_ps (nd_m D) (nd_n D) (nd_xv v) i : Nat) → nw_V G 7 (nw_pi Φ) 4 [some (.inl 1), some (.inl 15), some (.inr x2), some (.inr x3)] [] σ := by
    intro w
    induction w with
    | zero =>
      intro i x2 x3 hi h3 hp h2
      subst h3
      have hi : i = nd_n D := by omega
      subst hi
      refine bk7_4 ⟨by omega, by omega, fun _ => ?_, fun q => by omega⟩
      rw [h2, nd_ps_pn]
      exact ht hp
    | succ w ih =>
      intro i x2 x3 hi h3 hp h2
      subst h3
      obtain ⟨e1, r1⟩ := hv i (by omega)
      refine bk7_4 ⟨by omega, by omega, fun q => by omega, fun _ => ⟨by omega, ?_⟩⟩
      simp only [Int.toNat_natCast]
      rw [e1]
      refine c2' hw hC (by omega) r1 (fun z => ?_) (fun z => ?_)
      · rw [e1, hC.2.2.2.1 i (by omega)]
        obtain ⟨-, z3, z4⟩ := z
        rw [Int.toNat_natCast] at z4
        refine ⟨by decide, fun _ => ih (i + 1) _ _ (by omega) (by omega) (fun c hc => ?_) ?_, fun y => absurd y (by decide)⟩
        · by_cases y : c = i
          · subst y; exact ⟨z3, z4⟩
          · exact hp c (by omega)
        · rw [h2]
          show _ = ((nd_ps (nd_m D) (nd_n D) (nd_xv v) i + nd_xv v i * nd_sp (nd_m D) (nd_n D) i : Nat) : Int)
          push_cast
          congr 2
          unfold nd_xv
          omega
      · refine ⟨by decide, fun y => absurd rfl y, fun _ => hf (fun hP => z ?_)⟩
        have := hP i (by omega)
        refine ⟨⟨by omega, by omega⟩, this.1, ?_⟩
        rw [Int.toNat_natCast]
        exact this.2
  exact nw_TI_of (by decide) (Nat.le_of_ble_eq_true rfl) (bk7_0 (key (nd_n D) 0 _ _ (by omega) rfl (fun c hc => by omega) rfl))
theorem nd_av_at {τ : nw_S} {a b c d e : Int} {k i : Nat} (hi : i < 5) : nw_up (nw_up (nw_up (nw_up (nw_up τ k 0 a) k 1 b) k 2 c) k 3 d) k 4 e k i = nd_av a b c d e i := by
  match i, hi with
  | 0, _ => rw [nu_nj (by decide), nu_nj (by decide), nu_nj (by decide), nu_nj (by decide), nu_at]; rfl
  | 1, _ => rw [nu_nj (by decide), nu_nj (by decide), nu_nj (by decide), nu_at]; rfl
  | 2, _ => rw [nu_nj (by decide), nu_nj (by decide), nu_at]; rfl
  | 3, _ => rw [nu_nj (by decide), nu_at]; rfl
  | 4, _ => rw [nu_at]; rfl
  | i + 5, hi => omega
theorem nd_av_r {a b c d e : Int} (h1 : nw_r a) (h2 : nw_r b) (h3 : nw_r c) (h4 : nw_r d) (h5 : nw_r e) (i : Nat) : nw_r (nd_av a b c d e i) := by
  unfold nd_av
  split
  · exact h1
  · split
    · exact h2
    · split
      · exact h3
      · split
        · exact h4
        · exact h5
theorem c55 {Φ : Int → nw_S → Prop} (hw : nd_wf D) (hC : nc_st D σ) {x1 x2 x3 x4 x5 : Int} (h1 : nw_r x1) (h2 : nw_r x2) (h3 : nw_r x3) (h4 : nw_r x4) (h5 : nw_r x5) (ht : ∀ u : nw_S, nc_st D u → (∀ k, 26 ≤ k → u k = σ k) → nd_isP D (nd_av x1 x2 x3 x4 x5) → Φ (nd_pn (nd_m D) (nd_xv (nd_av x1 x2 x3 x4 x5)) (nd_n D) : Nat) u) (hf : ∀ u : nw_S, nc_st D u → (∀ k, 26 ≤ k → u k = σ k) → ¬ nd_isP D (nd_av x1 x2 x3 x4 x5) → Φ (-1) u) : nw_TI G 55 [.inl 0, .inr x1, .inr x2, .inr x3, .inr x4, .inr x5] σ Φ := by
  have hn := hw.1
  generalize hτ : nw_up (nw_up (nw_up (nw_up (nw_up σ 15 0 x1) 15 1 x2) 15 2 x3) 15 3 x4) 15 4 x5 = τ
  have hj : ∀ j, j ≠ 15 → τ j = σ j := fun j q => by rw [← hτ, nu_ne q, nu_ne q, nu_ne q, nu_ne q, nu_ne q]
  have hT : nc_st D τ := hC.parts (fun j q _ _ _ => hj j q)
  have hk : ∀ k, 26 ≤ k → τ k = σ k := fun k q => hj k (by omega)
  refine nw_TI_of (by decide) (Nat.le_of_ble_eq_true rfl) (bk55_0 ?_)
  rw [hτ]
  refine c7 hw hT.1.1 (v := nd_av x1 x2 x3 x4 x5) (fun c hc => ⟨?_, nd_av_r h1 h2 h3 h4 h5 c⟩) (fun z => ht τ hT hk z) (fun z => hf τ hT hk z)
  rw [← hτ]
  exact nd_av_at (by omega)
noncomputable def nq_breaks (D : nd_D) (v : Nat → Int) : Int := nd_it (nd_isP D v) ((nd_bs (nd_n D) (nd_xv v) (nd_f D) (nd_r D) &&& (nd_M D 1 ||| nd_M D 2) : Nat) : Int) (-1000001)
noncomputable def nq_score (D : nd_D) (v : Nat → Int) : Int := nd_it (nd_isP D v) (nd_ws (nd_w D) (nd_xv v) (nd_n D) - nd_C D (nd_bs (nd_n D) (nd_xv v) (nd_f D) (nd_r D) &&& nd_M D 2)) (-1000001)
theorem nd_isP_B (hw : nd_wf D) {v : Nat → Int} (h : nd_isP D v) : nd_B D (nd_pn (nd_m D) (nd_xv v) (nd_n D)) = nd_bs (nd_n D) (nd_xv v) (nd_f D) (nd_r D) := nd_bs_x (fun c hc => nd_isP_x h hc) (nd_r D) hw.2.2.2.2.2
theorem nb_orM (hw : nd_wf D) : nw_or (nd_M D 1 : Int) (nd_M D 2 : Int) = ((nd_M D 1 ||| nd_M D 2 : Nat) : Int) ∧ (nd_M D 1 ||| nd_M D 2) < 4096 := by
  have h1 := (nd_M_lt hw 1).2
  have h2 := (nd_M_lt hw 2).2
  exact ⟨nb_or (by omega) (by omega), Nat.or_lt_two_pow (n := 12) h1 h2⟩
theorem c48 {Φ : Int → nw_S → Prop} (hw : nd_wf D) (hC : nc_st D σ) {x1 x2 x3 x4 x5 : Int} (h1 : nw_r x1) (h2 : nw_r x2) (h3 : nw_r x3) (h4 : nw_r x4) (h5 : nw_r x5) (h : ∀ u : nw_S, nc_st D u → (∀ k, 26 ≤ k → u k = σ k) → Φ (nq_breaks D (nd_av x1 x2 x3 x4 x5)) u) : nw_TI G 48 [.inl 0, .inr x1, .inr x2, .inr x3, .inr x4, .inr x5] σ Φ := by
  have hP := nd_P_le hw
  obtain ⟨eo, lo⟩ := nb_orM hw
  refine nw_TI_of (by decide) (Nat.le_of_ble_eq_true rfl) (bk48_0 (c55 hw hC h1 h2 h3 h4 h5 (fun u hu hk z => ?_) (fun u hu hk z => ?_)))
  · rw [nq_breaks, nd_it_t z] at h
    have hlt : nd_pn (nd_m D) (nd_xv (nd_av x1 x2 x3 x4 x5)) (nd_n D) < nd_P D := nd_pn_lt (nd_n D) (fun c hc => nd_isP_lt z hc)
    have hB := nd_B_lt hw (nd_pn (nd_m D) (nd_xv (nd_av x1 x2 x3 x4 x5)) (nd_n D))
    refine ⟨by omega, fun _ => ⟨by omega, c17 hw hu.1.2.1 (by decide) (c17 hw hu.1.2.1 (by decide) ?_)⟩, fun y => by omega⟩
    rw [Int.toNat_natCast, eo, hu.1.2.2.2.2 _ hlt, nb_and (by omega) (by omega), nd_isP_B hw z]
    exact h u hu hk
  · rw [nq_breaks, nd_it_f z] at h
    exact ⟨by decide, fun y => absurd rfl y, fun _ => h u hu hk⟩
theorem c49 {Φ : Int → nw_S → Prop} (hw : nd_wf D) (hC : nc_st D σ) {x1 x2 x3 x4 x5 : Int} (h1 : nw_r x1) (h2 : nw_r x2) (h3 : nw_r x3) (h4 : nw_r x4) (h5 : nw_r x5) (h : ∀ u : nw_S, nc_st D u → (∀ k, 26 ≤ k → u k = σ k) → Φ (nq_score D (nd_av x1 x2 x3 x4 x5)) u) : nw_TI G 49 [.inl 0, .inr x1, .inr x2, .inr x3, .inr x4, .inr x5] σ Φ := by
  have hP := nd_P_le hw
  refine nw_TI_of (by decide) (Nat.le_of_ble_eq_true rfl) (bk49_0 (c55 hw hC h1 h2 h3 h4 h5 (fun u hu hk z => ?_) (fun u hu hk z => ?_)))
  · rw [nq_score, nd_it_t z] at h
    have hlt : nd_pn (nd_m D) (nd_xv (nd_av x1 x2 x3 x4 x5)) (nd_n D) < nd_P D := nd_pn_lt (nd_n D) (fun c hc => nd_isP_lt z hc)
    refine ⟨by omega, fun _ => c17 hw hu.1.2.1 (by decide) (c56 hw hu.1 rfl rfl hlt (nd_M_lt hw 2).2 ?_), fun y => by omega⟩
    have e : nd_sc D (nd_M D 2) (nd_pn (nd_m D) (nd_xv (nd_av x1 x2 x3 x4 x5)) (nd_n D)) = nd_ws (nd_w D) (nd_xv (nd_av x1 x2 x3 x4 x5)) (nd_n D) - nd_C D (nd_bs (nd_n D) (nd_xv (nd_av x1 x2 x3 x4 x5)) (nd_f D) (nd_r D) &&& nd_M D 2) := by
      unfold nd_sc
      rw [nd_isP_B hw z]
      congr 1
      exact nd_ws_cg (nd_n D) (fun c hc => nd_isP_x z hc)
    rw [e]
    exact h u hu hk
  · rw [nq_score, nd_it_f z] at h
    exact ⟨by decide, fun y => absurd rfl y, fun _ => h u hu hk⟩
/-- the model's: is it a plan; then x holds it -/
theorem m112 {Φ : Int → nw_S → Prop} (hw : nd_wf D) (hC : nm_st D σ) {x1 x2 x3 x4 x5 : Int} (h1 : nw_r x1) (h2 : nw_r x2) (h3 : nw_r x3) (h4 : nw_r x4) (h5 : nw_r x5) (ht : ∀ u : nw_S, (∀ k, k ≠ 37 → u k = σ k) → (∀ c, c < nd_n D → u 37 c = nd_av x1 x2 x3 x4 x5 c) → nd_isP D (nd_av x1 x2 x3 x4 x5) → Φ 1 u) (hf : ∀ u : nw_S, (∀ k, k ≠ 37 → u k = σ k) → ¬ nd_isP D (nd_av x1 x2 x3 x4 x5) → Φ 0 u) : nw_TI G 112 [.inl 26, .inr x1, .inr x2, .inr x3, .inr x4, .inr x5] σ Φ := by
  have hn := hw.1
  have key : ∀ (w i : Nat) (τ : nw_S) (x6 : Int), i + w = nd_n D → x6 = i → (∀ k, k ≠ 37 → τ k = σ k) → (∀ c, c < i → τ 37 c = nd_av x1 x2 x3 x4 x5 c) → (∀ c, c < i → 0 ≤ nd_av x1 x2 x3 x4 x5 c ∧ nd_av x1 x2 x3 x4 x5 c < nd_m D c) → nw_V G 112 (nw_pi Φ) 3 [some (.inl 26), some (.inr x1), some (.inr x2), some (.inr x3), some (.inr x4), some (.inr x5), some (.inr x6)] [] τ := by
    intro w
    induction w with
    | zero =>
      intro i τ x6 hi h6 hj hx hp
      subst h6
      have hi : i = nd_n D := by omega
      subst hi
      have e : τ 26 0 = nd_n D := by rw [hj 26 (by decide)]; exact hC.1.1
      exact bk112_3 ⟨by omega, by omega, fun _ => ht τ hj hx hp, fun q => by omega⟩
    | succ w ih =>
      intro i τ x6 hi h6 hj hx hp
      subst h6
      have e : τ 26 0 = nd_n D := by rw [hj 26 (by decide)]; exact hC.1.1
      have go : ∀ y : Int, y = nd_av x1 x2 x3 x4 x5 i → nw_TI G 68 [.inl 26, .inr (i : Int), .inr ((nw_up τ 37 i y) 37 i)] (nw_up τ 37 i y) (fun v1 u1 => (nw_r v1) ∧ ((v1 ≠ 0 → nw_V G 112 (nw_pi Φ) 3 [some (.inl 26), some (.inr x1), some (.inr x2), some (.inr x3), some (.inr x4), some (.inr x5), some (.inr ((i : Int) + 1))] [] u1) ∧ (v1 = 0 → Φ 0 u1))) := by
        intro y hy
        subst hy
        have hj2 : ∀ k, k ≠ 37 → nw_up τ 37 i (nd_av x1 x2 x3 x4 x5 i) k = σ k := fun k q => by rw [nu_ne q]; exact hj k q
        have hM2 := (hC.x hj2).1
        rw [nu_at]
        refine c68' hw hM2 (by omega) (nd_av_r h1 h2 h3 h4 h5 i) (fun z => ?_) (fun z => ?_)
        · obtain ⟨-, z3, z4⟩ := z
          rw [Int.toNat_natCast] at z4
          refine ⟨by decide, fun _ => ih (i + 1) _ _ (by omega) (by omega) hj2 (fun c hc => ?_) (fun c hc => ?_), fun q => absurd q (by decide)⟩
          · by_cases q : c = i
            · subst q; rw [nu_at]
            · rw [nu_nj q]; exact hx c (by omega)
          · by_cases q : c = i
            · subst q; exact ⟨z3, z4⟩
            · exact hp c (by omega)
        · refine ⟨by decide, fun q => absurd rfl q, fun _ => hf _ hj2 (fun hP => z ?_)⟩
          have := hP i (by omega)
          refine ⟨⟨by omega, by omega⟩, this.1, ?_⟩
          rw [Int.toNat_natCast]
          exact this.2
      refine bk112_3 ⟨by omega, by omega, fun q => by omega, fun _ => ?_⟩
      simp only [Int.toNat_natCast]
      refine ⟨fun q0 => ⟨fun q1 => ⟨fun q2 => ⟨fun q3 => ⟨by omega, go x5 ?_⟩, fun q3 => ⟨by omega, go x4 ?_⟩⟩, fun q2 => ⟨by omega, go x3 ?_⟩⟩, fun q1 => ⟨by omega, go x2 ?_⟩⟩, fun q0 => ⟨by omega, go x1 ?_⟩⟩
      · have : i = 4 := by omega
        subst this; rfl
      · have : i = 3 := by omega
        subst this; rfl
      · have : i = 2 := by omega
        subst this; rfl
      · have : i = 1 := by omega
        subst this; rfl
      · have : i = 0 := by omega
        subst this; rfl
  exact nw_TI_of (by decide) (Nat.le_of_ble_eq_true rfl) (bk112_0 (key (nd_n D) 0 σ _ (by omega) rfl (fun _ _ => rfl) (fun c hc => by omega) (fun c hc => by omega)))
theorem nd_isP_37 (hw : nd_wf D) {v : Nat → Int} {u : nw_S} (z : nd_isP D v) (hx : ∀ c, c < nd_n D → u 37 c = v c) : ∀ c, c < nd_n D → u 37 c = nd_xv v c ∧ nd_xv v c < 6 := by
  intro c hc
  have h1 := z c hc
  have h2 := hw.2.1 c hc
  refine ⟨?_, ?_⟩
  · rw [hx c hc]
    unfold nd_xv
    omega
  · unfold nd_xv
    omega
theorem m113 {Φ : Int → nw_S → Prop} (hw : nd_wf D) (hC : nm_st D σ) {x1 x2 x3 x4 x5 : Int} (h1 : nw_r x1) (h2 : nw_r x2) (h3 : nw_r x3) (h4 : nw_r x4) (h5 : nw_r x5) (h : ∀ u : nw_S, nm_st D u → (∀ k, k < 26 → u k = σ k) → Φ (nq_breaks D (nd_av x1 x2 x3 x4 x5)) u) : nw_TI G 113 [.inl 26, .inr x1, .inr x2, .inr x3, .inr x4, .inr x5] σ Φ := by
  have hR := hw.2.2.2.2.1
  obtain ⟨eo, lo⟩ := nb_orM hw
  refine nw_TI_of (by decide) (Nat.le_of_ble_eq_true rfl) (bk113_0 (m112 hw hC h1 h2 h3 h4 h5 (fun u hj hx z => ?_) (fun u hj z => ?_)))
  · rw [nq_breaks, nd_it_t z] at h
    have hu := hC.x hj
    have hb := nd_bs_lt (nd_n D) (nd_xv (nd_av x1 x2 x3 x4 x5)) (nd_f D) (nd_r D)
    have hp := nd_pw hR
    refine ⟨by decide, fun _ => c80 hw hu.1 (nd_isP_37 hw z hx) (c82 hw hu.1 (by decide) (c82 hw hu.1 (by decide) ?_)), fun q => absurd q (by decide)⟩
    rw [eo, nb_and (by omega) (by omega)]
    exact h u hu (fun k q => hj k (by omega))
  · rw [nq_breaks, nd_it_f z] at h
    exact ⟨by decide, fun q => absurd rfl q, fun _ => h u (hC.x hj) (fun k q => hj k (by omega))⟩
theorem m114 {Φ : Int → nw_S → Prop} (hw : nd_wf D) (hC : nm_st D σ) {x1 x2 x3 x4 x5 : Int} (h1 : nw_r x1) (h2 : nw_r x2) (h3 : nw_r x3) (h4 : nw_r x4) (h5 : nw_r x5) (h : ∀ u : nw_S, nm_st D u → (∀ k, k < 26 → u k = σ k) → Φ (nq_score D (nd_av x1 x2 x3 x4 x5)) u) : nw_TI G 114 [.inl 26, .inr x1, .inr x2, .inr x3, .inr x4, .inr x5] σ Φ := by
  have hR := hw.2.2.2.2.1
  refine nw_TI_of (by decide) (Nat.le_of_ble_eq_true rfl) (bk114_0 (m112 hw hC h1 h2 h3 h4 h5 (fun u hj hx z => ?_) (fun u hj z => ?_)))
  · rw [nq_score, nd_it_t z] at h
    have hu := hC.x hj
    have hb := nd_bs_lt (nd_n D) (nd_xv (nd_av x1 x2 x3 x4 x5)) (nd_f D) (nd_r D)
    have hp := nd_pw hR
    exact ⟨by decide, fun _ => c80 hw hu.1 (nd_isP_37 hw z hx) (c82 hw hu.1 (by decide) (c85 hw hu.1 (nd_isP_37 hw z hx) rfl rfl (by omega) (nd_M_lt hw 2).2 (h u hu (fun k q => hj k (by omega))))), fun q => absurd q (by decide)⟩
  · rw [nq_score, nd_it_f z] at h
    exact ⟨by decide, fun q => absurd rfl q, fun _ => h u (hC.x hj) (fun k q => hj k (by omega))⟩
/-! needs -/
def nd_ne (D : nd_D) (c k : Nat) : Nat → Int
  | 0 => -1
  | p + 1 => if nd_x D p c = k then (if nd_ne D c k p = -1 ∨ nd_C D (nd_B D p &&& nd_M D 1) < nd_C D (nd_ne D c k p).toNat ∨ (nd_C D (nd_B D p &&& nd_M D 1) = nd_C D (nd_ne D c k p).toNat ∧ ((nd_B D p &&& nd_M D 1 : Nat) : Int) < nd_ne D c k p) then ((nd_B D p &&& nd_M D 1 : Nat) : Int) else nd_ne D c k p) else nd_ne D c k p
theorem nd_ne_in (hw : nd_wf D) (c k : Nat) : ∀ p, nd_ne D c k p = -1 ∨ (0 ≤ nd_ne D c k p ∧ (nd_ne D c k p).toNat < 2 ^ nd_r D)
  | 0 => Or.inl rfl
  | p + 1 => by
    have ih := nd_ne_in hw c k p
    have hB := nd_B_lt hw p
    have hle : nd_B D p &&& nd_M D 1 ≤ nd_B D p := Nat.and_le_left
    unfold nd_ne
    split
    · split
      · exact Or.inr ⟨by omega, by rw [Int.toNat_natCast]; omega⟩
      · exact ih
    · exact ih
noncomputable def nq_needs (D : nd_D) (a k : Int) : Int := nd_it (nd_isK D a k) (nd_ne D a.toNat k.toNat (nd_P D)) (-1000001)
theorem c42 {Φ : Int → nw_S → Prop} (hw : nd_wf D) (hC : nc_st D σ) {x1 x2 : Int} (h1 : nw_r x1) (h2 : nw_r x2) (h : Φ (nq_needs D x1 x2) σ) : nw_TI G 42 [.inl 0, .inr x1, .inr x2] σ Φ := by
  have hP := nd_P_le hw
  have hR := hw.2.2.2.2.1
  have hpw := nd_pw hR
  have hM := (nd_M_lt hw 1).2
  refine nw_TI_of (by decide) (Nat.le_of_ble_eq_true rfl) (bk42_0 (c2' hw hC.1.1 h1 h2 (fun z => ?_) (fun z => ?_)))
  · rw [nq_needs, nd_it_t z] at h
    obtain ⟨⟨z1, z2⟩, z3, z4⟩ := z
    obtain ⟨c, hc⟩ : ∃ c : Nat, x1 = c := ⟨x1.toNat, by omega⟩
    obtain ⟨k, hk⟩ : ∃ k : Nat, x2 = k := ⟨x2.toNat, by omega⟩
    subst hc
    subst hk
    simp only [Int.toNat_natCast] at h z4
    have key : ∀ (w i : Nat) (x4 x5 : Int), i + w = nd_P D → x5 = i → x4 = nd_ne D c k i → nw_V G 42 (nw_pi Φ) 30 [some (.inl 0), some (.inr (c : Int)), some (.inr (k : Int)), some (.inr (nd_M D 1 : Int)), some (.inr x4), some (.inr x5), none] [] σ := by
      intro w
      induction w with
      | zero =>
        intro i x4 x5 hi h5 h4
        subst h5
        subst h4
        have hi : i = nd_P D := by omega
        subst hi
        have e := hC.1.1.2.1
        exact bk42_30 ⟨by omega, by omega, fun _ => h, fun q => by omega⟩
      | succ w ih =>
        intro i x4 x5 hi h5 h4
        subst h5
        subst h4
        have e := hC.1.1.2.1
        have eB := hC.1.2.2.2.2 i (by omega)
        have hB := nd_B_lt hw i
        have hx := nd_x_lt hw (p := i) (c := c) (by omega)
        have hin := nd_ne_in hw c k i
        have hle : nd_B D i &&& nd_M D 1 ≤ nd_B D i := Nat.and_le_left
        have hstep : nd_ne D c k (i + 1) = if nd_x D i c = k then (if nd_ne D c k i = -1 ∨ nd_C D (nd_B D i &&& nd_M D 1) < nd_C D (nd_ne D c k i).toNat ∨ (nd_C D (nd_B D i &&& nd_M D 1) = nd_C D (nd_ne D c k i).toNat ∧ ((nd_B D i &&& nd_M D 1 : Nat) : Int) < nd_ne D c k i) then ((nd_B D i &&& nd_M D 1 : Nat) : Int) else nd_ne D c k i) else nd_ne D c k i := rfl
        have ih' := ih (i + 1)
        rw [hstep] at ih'
        generalize nd_ne D c k i = a at *
        refine bk42_30 ⟨by omega, by omega, fun q => by omega, fun _ => c5 hw hC.1.1 rfl rfl (by omega) (by omega) ⟨by omega, by omega, fun q => ih' _ _ (by omega) (by omega) ?_, fun q => ⟨by omega, by omega, ?_⟩⟩⟩
        · rw [if_neg (fun y => q (by rw [y]))]
        · have qk : nd_x D i c = k := by omega
          simp only [Int.toNat_natCast]
          rw [eB, nb_and (by omega) (by omega)]
          rw [if_pos qk] at ih'
          refine ⟨fun q2 => ih' _ _ (by omega) (by omega) (by rw [if_pos (Or.inl q2)]), fun q2 => ?_⟩
          have ha : 0 ≤ a ∧ a.toNat < 2 ^ nd_r D := by
            rcases hin with y | y
            · exact absurd y q2
            · exact y
          -- isCheaper
          have hs1 := hC.1.2.2.2.1 (nd_B D i &&& nd_M D 1) (by omega)
          have hs2 := hC.1.2.2.2.1 a.toNat ha.2
          have hc1 := nd_C_le hw (nd_B D i &&& nd_M D 1)
          have hc2 := nd_C_le hw a.toNat
          refine nw_TI_of (by decide) (Nat.le_of_ble_eq_true rfl) (bk18_0 ?_)
          simp only [Int.toNat_natCast]
          rw [hs1, hs2]
          refine ⟨by omega, by omega, by omega, by omega, fun q3 => ?_, fun q3 => ⟨fun q4 => ?_, fun q4 => ⟨by omega, by omega, fun q5 => ?_, fun q5 => ?_⟩⟩⟩
          · exact ⟨by decide, fun y => absurd y (by decide), fun _ => ih' _ _ (by omega) (by omega) (by rw [if_pos (Or.inr (Or.inl q3))])⟩
          · exact ⟨by decide, fun _ => ih' _ _ (by omega) (by omega) (by rw [if_neg (fun y => by omega)]), fun y => absurd rfl y⟩
          · exact ⟨by decide, fun _ => ih' _ _ (by omega) (by omega) (by rw [if_neg (fun y => by omega)]), fun y => absurd rfl y⟩
          · exact ⟨by decide, fun y => absurd y (by decide), fun _ => ih' _ _ (by omega) (by omega) (by rw [if_pos (Or.inr (Or.inr ⟨q4, q5⟩))])⟩
    exact ⟨by decide, fun _ => c17 hw hC.1.2.1 (by decide) (key (nd_P D) 0 _ _ (by omega) rfl rfl), fun q => absurd q (by decide)⟩
  · rw [nq_needs, nd_it_f z] at h
    exact ⟨by decide, fun q => absurd rfl q, fun _ => h⟩
theorem m106 {Φ : Int → nw_S → Prop} (hw : nd_wf D) (hC : nm_st D σ) {x1 x2 : Int} (h1 : nw_r x1) (h2 : nw_r x2) (h : ∀ u : nw_S, nm_st D u → (∀ k, k < 26 → u k = σ k) → Φ (nq_needs D x1 x2) u) : nw_TI G 106 [.inl 26, .inr x1, .inr x2] σ Φ := by
  have hP := nd_P_le hw
  have hR := hw.2.2.2.2.1
  have hpw := nd_pw hR
  have hM := (nd_M_lt hw 1).2
  refine nw_TI_of (by decide) (Nat.le_of_ble_eq_true rfl) (bk106_0 (c68' hw hC.1 h1 h2 (fun z => ?_) (fun z => ?_)))
  · rw [nq_needs, nd_it_t z] at h
    obtain ⟨⟨z1, z2⟩, z3, z4⟩ := z
    obtain ⟨c, hc⟩ : ∃ c : Nat, x1 = c := ⟨x1.toNat, by omega⟩
    obtain ⟨k, hk⟩ : ∃ k : Nat, x2 = k := ⟨x2.toNat, by omega⟩
    subst hc
    subst hk
    simp only [Int.toNat_natCast] at h z4
    have key : ∀ (w i : Nat) (τ : nw_S) (x4 x6 : Int), i + w = nd_P D → x6 = i → nm_st D τ → nm_fr D τ → (∀ k, k < 26 → τ k = σ k) → x4 = nd_ne D c k i → nw_V G 106 (nw_pi Φ) 34 [some (.inl 26), some (.inr (c : Int)), some (.inr (k : Int)), some (.inr (nd_M D 1 : Int)), some (.inr x4), some (.inr (nd_P D : Int)), some (.inr x6), none, none] [] τ := by
      intro w
      induction w with
      | zero =>
        intro i τ x4 x6 hi h6 hT hF hj h4
        subst h6
        subst h4
        have hi : i = nd_P D := by omega
        subst hi
        exact bk106_34 ⟨by omega, by omega, fun _ => h τ hT hj, fun q => by omega⟩
      | succ w ih =>
        intro i τ x4 x6 hi h6 hT hF hj h4
        subst h6
        subst h4
        have hB := nd_B_lt hw i
        have hx := nd_x_lt hw (p := i) (c := c) (by omega)
        have hin := nd_ne_in hw c k i
        have hle : nd_B D i &&& nd_M D 1 ≤ nd_B D i := Nat.and_le_left
        have hstep : nd_ne D c k (i + 1) = if nd_x D i c = k then (if nd_ne D c k i = -1 ∨ nd_C D (nd_B D i &&& nd_M D 1) < nd_C D (nd_ne D c k i).toNat ∨ (nd_C D (nd_B D i &&& nd_M D 1) = nd_C D (nd_ne D c k i).toNat ∧ ((nd_B D i &&& nd_M D 1 : Nat) : Int) < nd_ne D c k i) then ((nd_B D i &&& nd_M D 1 : Nat) : Int) else nd_ne D c k i) else nd_ne D c k i := rfl
        have ih' := ih (i + 1)
        rw [hstep] at ih'
        generalize nd_ne D c k i = a at *
        refine bk106_34 ⟨by omega, by omega, fun q => by omega, fun _ => c84 hw hT.1 rfl rfl (by omega) (by omega) (fun u hu => ?_)⟩
        have e26 := hu 26 (by decide)
        have hTu := hT.x hu
        have hFu : nm_fr D u := ⟨by rw [e26]; exact hF.1, by rw [hu 35 (by decide)]; exact hF.2⟩
        have hju : ∀ k, k < 26 → u k = σ k := fun k q => by rw [hu k (by omega)]; exact hj k q
        have eB := hFu.2 i (by omega)
        refine ⟨by omega, by omega, fun q => ih' _ _ _ (by omega) (by omega) hTu hFu hju ?_, fun q => ⟨by omega, by omega, ?_⟩⟩
        · rw [if_neg (fun y => q (by rw [y]))]
        · have qk : nd_x D i c = k := by omega
          simp only [Int.toNat_natCast]
          rw [eB, nb_and (by omega) (by omega)]
          rw [if_pos qk] at ih'
          refine ⟨fun q2 => ih' _ _ _ (by omega) (by omega) hTu hFu hju (by rw [if_pos (Or.inl q2)]), fun q2 => ?_⟩
          have ha : 0 ≤ a ∧ a.toNat < 2 ^ nd_r D := by
            rcases hin with y | y
            · exact absurd y q2
            · exact y
          have hc1 := nd_C_le hw (nd_B D i &&& nd_M D 1)
          have hc2 := nd_C_le hw a.toNat
          refine c83 hw hTu.1 rfl (by omega) (c83 hw hTu.1 (s := a.toNat) (by omega) (by omega) ⟨by omega, by omega, fun q3 => ih' _ _ _ (by omega) (by omega) hTu hFu hju (by rw [if_pos (Or.inr (Or.inl q3))]), fun q3 => c83 hw hTu.1 rfl (by omega) (c83 hw hTu.1 (s := a.toNat) (by omega) (by omega) ⟨by omega, by omega, fun q4 => ih' _ _ _ (by omega) (by omega) hTu hFu hju (by rw [if_neg (fun y => by omega)]), fun q4 => ⟨by omega, fun q5 => ih' _ _ _ (by omega) (by omega) hTu hFu hju (by rw [if_neg (fun y => by omega)]), fun q5 => ih' _ _ _ (by omega) (by omega) hTu hFu hju (by rw [if_pos (Or.inr (Or.inr ⟨q4, q5⟩))])⟩⟩)⟩)
    exact ⟨by decide, fun _ => c81 hw hC (fun u hM hF hj _ => c82 hw hM (by decide) (c77 hw hM (key (nd_P D) 0 u _ _ (by omega) rfl ⟨hM, Or.inr hF⟩ hF hj rfl))), fun q => absurd q (by decide)⟩
  · rw [nq_needs, nd_it_f z] at h
    exact ⟨by decide, fun q => absurd rfl q, fun _ => h σ hC (fun _ _ => rfl)⟩
end NC14
end
section
section NC15
variable {G : nw_G} {σ : nw_S} {D : nd_D}
/-! sets as bits -/
theorem ns_sub {s t : Nat} : s &&& t = s ↔ ∀ i, s.testBit i = true → t.testBit i = true := by
  constructor
  · intro h i hi
    have := congrArg (fun z => z.testBit i) h
    simp only [Nat.testBit_and, hi, Bool.true_and] at this
    exact this
  · intro h
    apply Nat.eq_of_testBit_eq
    intro i
    rw [Nat.testBit_and]
    cases hi : s.testBit i with
    | false => rfl
    | true => rw [h i hi]; rfl
theorem ns_hi {s i n : Nat} (h : s < 2 ^ n) (hi : n ≤ i) : s.testBit i = false := Nat.testBit_lt_two_pow (Nat.lt_of_lt_of_le h (Nat.pow_le_pow_right (by decide) hi))
theorem ns_flip (s r i : Nat) : (s ^^^ 2 ^ r).testBit i = (s.testBit i != decide (r = i)) := by
  rw [Nat.testBit_xor, Nat.testBit_two_pow]
theorem ns_flip2 (s r : Nat) : s ^^^ 2 ^ r ^^^ 2 ^ r = s := by rw [Nat.xor_assoc, Nat.xor_self, Nat.xor_zero]
theorem ns_flip_lt {s r n : Nat} (h : s < 2 ^ n) (hr : r < n) : s ^^^ 2 ^ r < 2 ^ n := Nat.xor_lt_two_pow h (Nat.pow_lt_pow_right (by decide) hr)
theorem ns_dif (s t i : Nat) : (s &&& (4095 ^^^ t)).testBit i = (s.testBit i && (decide (i < 12) != t.testBit i)) := by
  rw [Nat.testBit_and, Nat.testBit_xor, show (4095 : Nat) = 2 ^ 12 - 1 from rfl, Nat.testBit_two_pow_sub_one]
theorem ns_and2 (s r : Nat) : (s &&& 2 ^ r = 0) ↔ s.testBit r = false := by
  constructor
  · intro h
    have := congrArg (fun z => z.testBit r) h
    simp only [Nat.testBit_and, Nat.testBit_two_pow, decide_true, Bool.and_true, Nat.zero_testBit] at this
    exact this
  · intro h
    apply Nat.eq_of_testBit_eq
    intro i
    rw [Nat.testBit_and, Nat.testBit_two_pow, Nat.zero_testBit]
    by_cases q : r = i
    · subst q; rw [h]; rfl
    · simp [q]
theorem ns_difz {s h : Nat} (hs : s < 4096) : (s &&& (4095 ^^^ h) = 0) ↔ s &&& h = s := by
  rw [ns_sub]
  constructor
  · intro e i hi
    have := congrArg (fun z => z.testBit i) e
    simp only [ns_dif, Nat.zero_testBit, hi, Bool.true_and] at this
    have hl : i < 12 := by
      rcases Nat.lt_or_ge i 12 with q | q
      · exact q
      · rw [ns_hi (n := 12) hs q] at hi; cases hi
    rw [show decide (i < 12) = true from by simp [hl]] at this
    cases hb : h.testBit i with
    | true => rfl
    | false => rw [hb] at this; cases this
  · intro e
    apply Nat.eq_of_testBit_eq
    intro i
    rw [ns_dif, Nat.zero_testBit]
    cases hi : s.testBit i with
    | false => rfl
    | true =>
      have hl : i < 12 := by
        rcases Nat.lt_or_ge i 12 with q | q
        · exact q
        · rw [ns_hi (n := 12) hs q] at hi; cases hi
      rw [e i hi]
      simp [hl]
theorem nd_kt_lt (hw : nd_wf D) (p : Nat) : nd_kt D p < 2 ^ nd_r D ∧ nd_kt D p < 4096 := by
  have h := nd_M_lt hw 1
  have : nd_kt D p ≤ nd_M D 1 := Nat.and_le_left
  omega
theorem nd_can_mono {s t : Nat} (h : nd_can D t) (hs : ∀ i, s.testBit i = true → t.testBit i = true) : nd_can D s := by
  obtain ⟨p, h1, h2⟩ := h
  exact ⟨p, h1, ns_sub.mpr (fun i hi => ns_sub.mp h2 i (hs i hi))⟩
/-- what one pass over the rules before r has handed down -/
def nd_pr (D : nd_D) (r s : Nat) : Prop := ∃ p, p < nd_P D ∧ s &&& nd_kt D p = s ∧ ∀ i, r ≤ i → s.testBit i = (nd_kt D p).testBit i
theorem nd_pr_0 {s : Nat} : nd_pr D 0 s ↔ ∃ p, p < nd_P D ∧ nd_kt D p = s := by
  constructor
  · rintro ⟨p, h1, h2, h3⟩
    exact ⟨p, h1, (Nat.eq_of_testBit_eq (fun i => (h3 i (Nat.zero_le _)).symm))⟩
  · rintro ⟨p, h1, h2⟩
    subst h2
    exact ⟨p, h1, Nat.and_self _, fun _ _ => rfl⟩
theorem nd_pr_R (hw : nd_wf D) {s : Nat} (hs : s < 2 ^ nd_r D) : nd_pr D (nd_r D) s ↔ nd_can D s := by
  constructor
  · rintro ⟨p, h1, h2, -⟩
    exact ⟨p, h1, h2⟩
  · rintro ⟨p, h1, h2⟩
    exact ⟨p, h1, h2, fun i hi => by rw [ns_hi hs hi, ns_hi (nd_kt_lt hw p).1 hi]⟩
theorem nd_pr_step {r s : Nat} : nd_pr D (r + 1) s ↔ nd_pr D r s ∨ (s.testBit r = false ∧ nd_pr D r (s ^^^ 2 ^ r)) := by
  constructor
  · rintro ⟨p, h1, h2, h3⟩
    by_cases q : s.testBit r = (nd_kt D p).testBit r
    · left
      refine ⟨p, h1, h2, fun i hi => ?_⟩
      by_cases y : i = r
      · subst y; exact q
      · exact h3 i (by omega)
    · right
      have hs : s.testBit r = false := by
        cases hb : s.testBit r with
        | false => rfl
        | true => rw [hb, ns_sub.mp h2 r hb] at q; exact absurd rfl q
      have hk : (nd_kt D p).testBit r = true := by
        cases hb : (nd_kt D p).testBit r with
        | true => rfl
        | false => rw [hs, hb] at q; exact absurd rfl q
      refine ⟨hs, p, h1, ns_sub.mpr (fun i hi => ?_), fun i hi => ?_⟩
      · rw [ns_flip] at hi
        by_cases y : r = i
        · subst y; exact hk
        · simp [y] at hi
          exact ns_sub.mp h2 i hi
      · rw [ns_flip]
        by_cases y : r = i
        · subst y; simp [hs, hk]
        · simp [y]
          exact h3 i (by omega)
  · rintro (⟨p, h1, h2, h3⟩ | ⟨hs, p, h1, h2, h3⟩)
    · exact ⟨p, h1, h2, fun i hi => h3 i (by omega)⟩
    · refine ⟨p, h1, ns_sub.mpr (fun i hi => ?_), fun i hi => ?_⟩
      · have := ns_sub.mp h2 i
        rw [ns_flip] at this
        by_cases y : r = i
        · subst y; rw [hs] at hi; cases hi
        · simp [y] at this
          exact this hi
      · have := h3 i (by omega)
        rw [ns_flip] at this
        have y : ¬ r = i := by omega
        simp [y] at this
        exact this
/-! no clash holds another, no relaxation holds another -/
theorem ns_more {s t : Nat} (h : s &&& t = s) (q : s ≠ t) : ∃ r, t.testBit r = true ∧ s.testBit r = false := by
  have hsub := ns_sub.mp h
  rcases Classical.em (∃ r, t.testBit r = true ∧ s.testBit r = false) with y | y
  · exact y
  · exfalso
    apply q
    apply Nat.eq_of_testBit_eq
    intro i
    cases hi : s.testBit i with
    | true => exact (hsub i hi).symm
    | false =>
      cases hj : t.testBit i with
      | false => rfl
      | true => exact absurd ⟨i, hj, hi⟩ y
theorem ns_12 (hw : nd_wf D) {t r : Nat} (ht : t &&& nd_M D 1 = t) (hr : t.testBit r = true) : r < 12 := by
  have hm := ns_sub.mp ht r hr
  unfold nd_M at hm
  rw [nd_md_bit] at hm
  have := hw.2.2.2.2.1
  simp at hm
  omega
theorem nd_cl_anti (hw : nd_wf D) {s t : Nat} (hs : nd_cl D s) (ht : nd_cl D t) (h : s &&& t = s) : s = t := by
  rcases Classical.em (s = t) with q | q
  · exact q
  · exfalso
    have hsub := ns_sub.mp h
    obtain ⟨r, hr⟩ := ns_more h q
    exact hs.2.1 (nd_can_mono (ht.2.2 r (ns_12 hw ht.1 hr.1) hr.1) (fun i hi => by
      rw [ns_flip]
      by_cases y : r = i
      · subst y; rw [hr.2] at hi; cases hi
      · simp [y]; exact hsub i hi))
theorem nd_rx_anti (hw : nd_wf D) {s t : Nat} (hs : nd_rx D s) (ht : nd_rx D t) (h : s &&& t = s) : s = t := by
  rcases Classical.em (s = t) with q | q
  · exact q
  · exfalso
    have hsub := ns_sub.mp h
    obtain ⟨r, hr⟩ := ns_more h q
    have hr12 := ns_12 hw ht.1 hr.1
    refine ht.2.2 r hr12 hr.1 (nd_can_mono hs.2.1 (fun i hi => ?_))
    rw [Nat.testBit_or, Nat.testBit_two_pow, ns_dif] at hi
    rw [ns_dif]
    by_cases y : r = i
    · subst y
      rw [ns_sub.mp ht.1 r hr.1, hr.2]
      simp [hr12]
    · simp [y] at hi
      obtain ⟨h1, h2⟩ := hi
      have h12 : i < 12 := by
        rcases Nat.lt_or_ge i 12 with z | z
        · exact z
        · rw [ns_hi (n := 12) (nd_M_lt hw 1).2 z] at h1; cases h1
      have ht0 : t.testBit i = false := by
        cases hb : t.testBit i with
        | false => rfl
        | true => rw [hb] at h2; simp [h12] at h2
      have hs0 : s.testBit i = false := by
        cases hb : s.testBit i with
        | false => rfl
        | true => rw [hsub i hb] at ht0; cases ht0
      rw [h1, hs0]
      simp [h12]
theorem ns_php : ∀ (m n : Nat) (f : Nat → Nat), (∀ i, i < n → f i < m) → (∀ i j, i < j → j < n → f i ≠ f j) → n ≤ m
  | 0, n, f, h, _ => by
    rcases Nat.eq_zero_or_pos n with q | q
    · omega
    · exact absurd (h 0 q) (by omega)
  | m + 1, n, f, h, hd => by
    rcases Classical.em (∃ i, i < n ∧ f i = m) with ⟨i, hi, hm⟩ | q
    · have key := ns_php m (n - 1) (fun j => if j = i then f (n - 1) else f j) (fun j hj => ?_) (fun a b hab hb => ?_)
      · omega
      · try dsimp only
        split
        · rename_i y
          subst y
          have h1 := h (n - 1) (by omega)
          have h2 := hd j (n - 1) (by omega) (by omega)
          omega
        · rename_i y
          have h1 := h j (by omega)
          rcases Nat.lt_trichotomy j i with z | z | z
          · have := hd j i z hi; omega
          · exact absurd z y
          · have := hd i j z (by omega); omega
      · try dsimp only
        by_cases ya : a = i
        · rw [if_pos ya, if_neg (by omega)]
          exact fun e => hd b (n - 1) (by omega) (by omega) e.symm
        · rw [if_neg ya]
          by_cases yb : b = i
          · rw [if_pos yb]
            exact hd a (n - 1) (by omega) (by omega)
          · rw [if_neg yb]
            exact hd a b hab (by omega)
    · have := ns_php m n f (fun i hi => by
        have h1 := h i hi
        have h2 : f i ≠ m := fun z => q ⟨i, hi, z⟩
        omega) hd
      omega
end NC15
end
section
/-! 924 chains hold all sets of 12 rules: the sets of one chain lie in each other -/
set_option maxRecDepth 100000 in
noncomputable def ns_ct : List (List Nat) := [
  [0, 0, 1, 0, 2, 2, 1, 0, 3, 3, 4, 3, 5, 2, 1, 0, 6, 6, 7, 6, 8, 8, 7, 6, 9, 9, 4, 3, 5, 2, 1, 0, 10, 10, 11, 10, 12, 12, 11, 10, 13, 13, 14, 13, 15, 12, 11, 10, 16, 16, 17, 16, 18, 8, 7, 6, 19, 9, 4, 3, 5, 2, 1, 0],
  [20, 20, 21, 20, 22, 22, 21, 20, 23, 23, 24, 23, 25, 22, 21, 20, 26, 26, 27, 26, 28, 28, 27, 26, 29, 29, 24, 23, 25, 22, 21, 20, 30, 30, 31, 30, 32, 32, 31, 30, 33, 33, 14, 13, 15, 12, 11, 10, 34, 34, 17, 16, 18, 8, 7, 6, 19, 9, 4, 3, 5, 2, 1, 0],
  [35, 35, 36, 35, 37, 37, 36, 35, 38, 38, 39, 38, 40, 37, 36, 35, 41, 41, 42, 41, 43, 43, 42, 41, 44, 44, 39, 38, 40, 37, 36, 35, 45, 45, 46, 45, 47, 47, 46, 45, 48, 48, 49, 48, 50, 47, 46, 45, 51, 51, 52, 51, 53, 43, 42, 41, 54, 44, 39, 38, 40, 37, 36, 35],
  [55, 55, 56, 55, 57, 57, 56, 55, 58, 58, 59, 58, 60, 57, 56, 55, 61, 61, 62, 61, 63, 28, 27, 26, 64, 29, 24, 23, 25, 22, 21, 20, 65, 65, 66, 65, 67, 32, 31, 30, 68, 33, 14, 13, 15, 12, 11, 10, 69, 34, 17, 16, 18, 8, 7, 6, 19, 9, 4, 3, 5, 2, 1, 0],
  [70, 70, 71, 70, 72, 72, 71, 70, 73, 73, 74, 73, 75, 72, 71, 70, 76, 76, 77, 76, 78, 78, 77, 76, 79, 79, 74, 73, 75, 72, 71, 70, 80, 80, 81, 80, 82, 82, 81, 80, 83, 83, 84, 83, 85, 82, 81, 80, 86, 86, 87, 86, 88, 78, 77, 76, 89, 79, 74, 73, 75, 72, 71, 70],
  [90, 90, 91, 90, 92, 92, 91, 90, 93, 93, 94, 93, 95, 92, 91, 90, 96, 96, 97, 96, 98, 98, 97, 96, 99, 99, 94, 93, 95, 92, 91, 90, 100, 100, 101, 100, 102, 102, 101, 100, 103, 103, 84, 83, 85, 82, 81, 80, 104, 104, 87, 86, 88, 78, 77, 76, 89, 79, 74, 73, 75, 72, 71, 70],
  [105, 105, 106, 105, 107, 107, 106, 105, 108, 108, 109, 108, 110, 107, 106, 105, 111, 111, 112, 111, 113, 113, 112, 111, 114, 114, 109, 108, 110, 107, 106, 105, 115, 115, 116, 115, 117, 117, 116, 115, 118, 118, 49, 48, 50, 47, 46, 45, 119, 119, 52, 51, 53, 43, 42, 41, 54, 44, 39, 38, 40, 37, 36, 35],
  [120, 120, 121, 120, 122, 122, 121, 120, 123, 123, 59, 58, 60, 57, 56, 55, 124, 124, 62, 61, 63, 28, 27, 26, 64, 29, 24, 23, 25, 22, 21, 20, 125, 125, 66, 65, 67, 32, 31, 30, 68, 33, 14, 13, 15, 12, 11, 10, 69, 34, 17, 16, 18, 8, 7, 6, 19, 9, 4, 3, 5, 2, 1, 0],
  [126, 126, 127, 126, 128, 128, 127, 126, 129, 129, 130, 129, 131, 128, 127, 126, 132, 132, 133, 132, 134, 134, 133, 132, 135, 135, 130, 129, 131, 128, 127, 126, 136, 136, 137, 136, 138, 138, 137, 136, 139, 139, 140, 139, 141, 138, 137, 136, 142, 142, 143, 142, 144, 134, 133, 132, 145, 135, 130, 129, 131, 128, 127, 126],
  [146, 146, 147, 146, 148, 148, 147, 146, 149, 149, 150, 149, 151, 148, 147, 146, 152, 152, 153, 152, 154, 154, 153, 152, 155, 155, 150, 149, 151, 148, 147, 146, 156, 156, 157, 156, 158, 158, 157, 156, 159, 159, 140, 139, 141, 138, 137, 136, 160, 160, 143, 142, 144, 134, 133, 132, 145, 135, 130, 129, 131, 128, 127, 126],
  [161, 161, 162, 161, 163, 163, 162, 161, 164, 164, 165, 164, 166, 163, 162, 161, 167, 167, 168, 167, 169, 169, 168, 167, 170, 170, 165, 164, 166, 163, 162, 161, 171, 171, 172, 171, 173, 173, 172, 171, 174, 174, 175, 174, 176, 173, 172, 171, 177, 177, 178, 177, 179, 169, 168, 167, 180, 170, 165, 164, 166, 163, 162, 161],
  [181, 181, 182, 181, 183, 183, 182, 181, 184, 184, 185, 184, 186, 183, 182, 181, 187, 187, 188, 187, 189, 154, 153, 152, 190, 155, 150, 149, 151, 148, 147, 146, 191, 191, 192, 191, 193, 158, 157, 156, 194, 159, 140, 139, 141, 138, 137, 136, 195, 160, 143, 142, 144, 134, 133, 132, 145, 135, 130, 129, 131, 128, 127, 126],
  [196, 196, 197, 196, 198, 198, 197, 196, 199, 199, 200, 199, 201, 198, 197, 196, 202, 202, 203, 202, 204, 204, 203, 202, 205, 205, 200, 199, 201, 198, 197, 196, 206, 206, 207, 206, 208, 208, 207, 206, 209, 209, 210, 209, 211, 208, 207, 206, 212, 212, 213, 212, 214, 204, 203, 202, 215, 205, 200, 199, 201, 198, 197, 196],
  [216, 216, 217, 216, 218, 218, 217, 216, 219, 219, 220, 219, 221, 218, 217, 216, 222, 222, 223, 222, 224, 98, 97, 96, 225, 99, 94, 93, 95, 92, 91, 90, 226, 226, 227, 226, 228, 102, 101, 100, 229, 103, 84, 83, 85, 82, 81, 80, 230, 104, 87, 86, 88, 78, 77, 76, 89, 79, 74, 73, 75, 72, 71, 70],
  [231, 231, 232, 231, 233, 233, 232, 231, 234, 234, 235, 234, 236, 233, 232, 231, 237, 237, 238, 237, 239, 113, 112, 111, 240, 114, 109, 108, 110, 107, 106, 105, 241, 241, 242, 241, 243, 117, 116, 115, 244, 118, 49, 48, 50, 47, 46, 45, 245, 119, 52, 51, 53, 43, 42, 41, 54, 44, 39, 38, 40, 37, 36, 35],
  [246, 246, 247, 246, 248, 122, 121, 120, 249, 123, 59, 58, 60, 57, 56, 55, 250, 124, 62, 61, 63, 28, 27, 26, 64, 29, 24, 23, 25, 22, 21, 20, 251, 125, 66, 65, 67, 32, 31, 30, 68, 33, 14, 13, 15, 12, 11, 10, 69, 34, 17, 16, 18, 8, 7, 6, 19, 9, 4, 3, 5, 2, 1, 0],
  [252, 252, 253, 252, 254, 254, 253, 252, 255, 255, 256, 255, 257, 254, 253, 252, 258, 258, 259, 258, 260, 260, 259, 258, 261, 261, 256, 255, 257, 254, 253, 252, 262, 262, 263, 262, 264, 264, 263, 262, 265, 265, 266, 265, 267, 264, 263, 262, 268, 268, 269, 268, 270, 260, 259, 258, 271, 261, 256, 255, 257, 254, 253, 252],
  [272, 272, 273, 272, 274, 274, 273, 272, 275, 275, 276, 275, 277, 274, 273, 272, 278, 278, 279, 278, 280, 280, 279, 278, 281, 281, 276, 275, 277, 274, 273, 272, 282, 282, 283, 282, 284, 284, 283, 282, 285, 285, 266, 265, 267, 264, 263, 262, 286, 286, 269, 268, 270, 260, 259, 258, 271, 261, 256, 255, 257, 254, 253, 252],
  [287, 287, 288, 287, 289, 289, 288, 287, 290, 290, 291, 290, 292, 289, 288, 287, 293, 293, 294, 293, 295, 295, 294, 293, 296, 296, 291, 290, 292, 289, 288, 287, 297, 297, 298, 297, 299, 299, 298, 297, 300, 300, 301, 300, 302, 299, 298, 297, 303, 303, 304, 303, 305, 295, 294, 293, 306, 296, 291, 290, 292, 289, 288, 287],
  [307, 307, 308, 307, 309, 309, 308, 307, 310, 310, 311, 310, 312, 309, 308, 307, 313, 313, 314, 313, 315, 280, 279, 278, 316, 281, 276, 275, 277, 274, 273, 272, 317, 317, 318, 317, 319, 284, 283, 282, 320, 285, 266, 265, 267, 264, 263, 262, 321, 286, 269, 268, 270, 260, 259, 258, 271, 261, 256, 255, 257, 254, 253, 252],
  [322, 322, 323, 322, 324, 324, 323, 322, 325, 325, 326, 325, 327, 324, 323, 322, 328, 328, 329, 328, 330, 330, 329, 328, 331, 331, 326, 325, 327, 324, 323, 322, 332, 332, 333, 332, 334, 334, 333, 332, 335, 335, 336, 335, 337, 334, 333, 332, 338, 338, 339, 338, 340, 330, 329, 328, 341, 331, 326, 325, 327, 324, 323, 322],
  [342, 342, 343, 342, 344, 344, 343, 342, 345, 345, 346, 345, 347, 344, 343, 342, 348, 348, 349, 348, 350, 350, 349, 348, 351, 351, 346, 345, 347, 344, 343, 342, 352, 352, 353, 352, 354, 354, 353, 352, 355, 355, 336, 335, 337, 334, 333, 332, 356, 356, 339, 338, 340, 330, 329, 328, 341, 331, 326, 325, 327, 324, 323, 322],
  [357, 357, 358, 357, 359, 359, 358, 357, 360, 360, 361, 360, 362, 359, 358, 357, 363, 363, 364, 363, 365, 365, 364, 363, 366, 366, 361, 360, 362, 359, 358, 357, 367, 367, 368, 367, 369, 369, 368, 367, 370, 370, 301, 300, 302, 299, 298, 297, 371, 371, 304, 303, 305, 295, 294, 293, 306, 296, 291, 290, 292, 289, 288, 287],
  [372, 372, 373, 372, 374, 374, 373, 372, 375, 375, 311, 310, 312, 309, 308, 307, 376, 376, 314, 313, 315, 280, 279, 278, 316, 281, 276, 275, 277, 274, 273, 272, 377, 377, 318, 317, 319, 284, 283, 282, 320, 285, 266, 265, 267, 264, 263, 262, 321, 286, 269, 268, 270, 260, 259, 258, 271, 261, 256, 255, 257, 254, 253, 252],
  [378, 378, 379, 378, 380, 380, 379, 378, 381, 381, 382, 381, 383, 380, 379, 378, 384, 384, 385, 384, 386, 386, 385, 384, 387, 387, 382, 381, 383, 380, 379, 378, 388, 388, 389, 388, 390, 390, 389, 388, 391, 391, 392, 391, 393, 390, 389, 388, 394, 394, 395, 394, 396, 386, 385, 384, 397, 387, 382, 381, 383, 380, 379, 378],
  [398, 398, 399, 398, 400, 400, 399, 398, 401, 401, 402, 401, 403, 400, 399, 398, 404, 404, 405, 404, 406, 406, 405, 404, 407, 407, 402, 401, 403, 400, 399, 398, 408, 408, 409, 408, 410, 410, 409, 408, 411, 411, 392, 391, 393, 390, 389, 388, 412, 412, 395, 394, 396, 386, 385, 384, 397, 387, 382, 381, 383, 380, 379, 378],
  [413, 413, 414, 413, 415, 415, 414, 413, 416, 416, 417, 416, 418, 415, 414, 413, 419, 419, 420, 419, 421, 421, 420, 419, 422, 422, 417, 416, 418, 415, 414, 413, 423, 423, 424, 423, 425, 425, 424, 423, 426, 426, 175, 174, 176, 173, 172, 171, 427, 427, 178, 177, 179, 169, 168, 167, 180, 170, 165, 164, 166, 163, 162, 161],
  [428, 428, 429, 428, 430, 430, 429, 428, 431, 431, 185, 184, 186, 183, 182, 181, 432, 432, 188, 187, 189, 154, 153, 152, 190, 155, 150, 149, 151, 148, 147, 146, 433, 433, 192, 191, 193, 158, 157, 156, 194, 159, 140, 139, 141, 138, 137, 136, 195, 160, 143, 142, 144, 134, 133, 132, 145, 135, 130, 129, 131, 128, 127, 126],
  [434, 434, 435, 434, 436, 436, 435, 434, 437, 437, 438, 437, 439, 436, 435, 434, 440, 440, 441, 440, 442, 442, 441, 440, 443, 443, 438, 437, 439, 436, 435, 434, 444, 444, 445, 444, 446, 446, 445, 444, 447, 447, 210, 209, 211, 208, 207, 206, 448, 448, 213, 212, 214, 204, 203, 202, 215, 205, 200, 199, 201, 198, 197, 196],
  [449, 449, 450, 449, 451, 451, 450, 449, 452, 452, 220, 219, 221, 218, 217, 216, 453, 453, 223, 222, 224, 98, 97, 96, 225, 99, 94, 93, 95, 92, 91, 90, 454, 454, 227, 226, 228, 102, 101, 100, 229, 103, 84, 83, 85, 82, 81, 80, 230, 104, 87, 86, 88, 78, 77, 76, 89, 79, 74, 73, 75, 72, 71, 70],
  [455, 455, 456, 455, 457, 457, 456, 455, 458, 458, 235, 234, 236, 233, 232, 231, 459, 459, 238, 237, 239, 113, 112, 111, 240, 114, 109, 108, 110, 107, 106, 105, 460, 460, 242, 241, 243, 117, 116, 115, 244, 118, 49, 48, 50, 47, 46, 45, 245, 119, 52, 51, 53, 43, 42, 41, 54, 44, 39, 38, 40, 37, 36, 35],
  [461, 461, 247, 246, 248, 122, 121, 120, 249, 123, 59, 58, 60, 57, 56, 55, 250, 124, 62, 61, 63, 28, 27, 26, 64, 29, 24, 23, 25, 22, 21, 20, 251, 125, 66, 65, 67, 32, 31, 30, 68, 33, 14, 13, 15, 12, 11, 10, 69, 34, 17, 16, 18, 8, 7, 6, 19, 9, 4, 3, 5, 2, 1, 0],
  [462, 462, 463, 462, 464, 464, 463, 462, 465, 465, 466, 465, 467, 464, 463, 462, 468, 468, 469, 468, 470, 470, 469, 468, 471, 471, 466, 465, 467, 464, 463, 462, 472, 472, 473, 472, 474, 474, 473, 472, 475, 475, 476, 475, 477, 474, 473, 472, 478, 478, 479, 478, 480, 470, 469, 468, 481, 471, 466, 465, 467, 464, 463, 462],
  [482, 482, 483, 482, 484, 484, 483, 482, 485, 485, 486, 485, 487, 484, 483, 482, 488, 488, 489, 488, 490, 490, 489, 488, 491, 491, 486, 485, 487, 484, 483, 482, 492, 492, 493, 492, 494, 494, 493, 492, 495, 495, 476, 475, 477, 474, 473, 472, 496, 496, 479, 478, 480, 470, 469, 468, 481, 471, 466, 465, 467, 464, 463, 462],
  [497, 497, 498, 497, 499, 499, 498, 497, 500, 500, 501, 500, 502, 499, 498, 497, 503, 503, 504, 503, 505, 505, 504, 503, 506, 506, 501, 500, 502, 499, 498, 497, 507, 507, 508, 507, 509, 509, 508, 507, 510, 510, 511, 510, 512, 509, 508, 507, 513, 513, 514, 513, 515, 505, 504, 503, 516, 506, 501, 500, 502, 499, 498, 497],
  [517, 517, 518, 517, 519, 519, 518, 517, 520, 520, 521, 520, 522, 519, 518, 517, 523, 523, 524, 523, 525, 490, 489, 488, 526, 491, 486, 485, 487, 484, 483, 482, 527, 527, 528, 527, 529, 494, 493, 492, 530, 495, 476, 475, 477, 474, 473, 472, 531, 496, 479, 478, 480, 470, 469, 468, 481, 471, 466, 465, 467, 464, 463, 462],
  [532, 532, 533, 532, 534, 534, 533, 532, 535, 535, 536, 535, 537, 534, 533, 532, 538, 538, 539, 538, 540, 540, 539, 538, 541, 541, 536, 535, 537, 534, 533, 532, 542, 542, 543, 542, 544, 544, 543, 542, 545, 545, 546, 545, 547, 544, 543, 542, 548, 548, 549, 548, 550, 540, 539, 538, 551, 541, 536, 535, 537, 534, 533, 532],
  [552, 552, 553, 552, 554, 554, 553, 552, 555, 555, 556, 555, 557, 554, 553, 552, 558, 558, 559, 558, 560, 560, 559, 558, 561, 561, 556, 555, 557, 554, 553, 552, 562, 562, 563, 562, 564, 564, 563, 562, 565, 565, 546, 545, 547, 544, 543, 542, 566, 566, 549, 548, 550, 540, 539, 538, 551, 541, 536, 535, 537, 534, 533, 532],
  [567, 567, 568, 567, 569, 569, 568, 567, 570, 570, 571, 570, 572, 569, 568, 567, 573, 573, 574, 573, 575, 575, 574, 573, 576, 576, 571, 570, 572, 569, 568, 567, 577, 577, 578, 577, 579, 579, 578, 577, 580, 580, 511, 510, 512, 509, 508, 507, 581, 581, 514, 513, 515, 505, 504, 503, 516, 506, 501, 500, 502, 499, 498, 497],
  [582, 582, 583, 582, 584, 584, 583, 582, 585, 585, 521, 520, 522, 519, 518, 517, 586, 586, 524, 523, 525, 490, 489, 488, 526, 491, 486, 485, 487, 484, 483, 482, 587, 587, 528, 527, 529, 494, 493, 492, 530, 495, 476, 475, 477, 474, 473, 472, 531, 496, 479, 478, 480, 470, 469, 468, 481, 471, 466, 465, 467, 464, 463, 462],
  [588, 588, 589, 588, 590, 590, 589, 588, 591, 591, 592, 591, 593, 590, 589, 588, 594, 594, 595, 594, 596, 596, 595, 594, 597, 597, 592, 591, 593, 590, 589, 588, 598, 598, 599, 598, 600, 600, 599, 598, 601, 601, 602, 601, 603, 600, 599, 598, 604, 604, 605, 604, 606, 596, 595, 594, 607, 597, 592, 591, 593, 590, 589, 588],
  [608, 608, 609, 608, 610, 610, 609, 608, 611, 611, 612, 611, 613, 610, 609, 608, 614, 614, 615, 614, 616, 616, 615, 614, 617, 617, 612, 611, 613, 610, 609, 608, 618, 618, 619, 618, 620, 620, 619, 618, 621, 621, 602, 601, 603, 600, 599, 598, 622, 622, 605, 604, 606, 596, 595, 594, 607, 597, 592, 591, 593, 590, 589, 588],
  [623, 623, 624, 623, 625, 625, 624, 623, 626, 626, 627, 626, 628, 625, 624, 623, 629, 629, 630, 629, 631, 631, 630, 629, 632, 632, 627, 626, 628, 625, 624, 623, 633, 633, 634, 633, 635, 635, 634, 633, 636, 636, 637, 636, 638, 635, 634, 633, 639, 639, 640, 639, 641, 631, 630, 629, 642, 632, 627, 626, 628, 625, 624, 623],
  [643, 643, 644, 643, 645, 645, 644, 643, 646, 646, 647, 646, 648, 645, 644, 643, 649, 649, 650, 649, 651, 616, 615, 614, 652, 617, 612, 611, 613, 610, 609, 608, 653, 653, 654, 653, 655, 620, 619, 618, 656, 621, 602, 601, 603, 600, 599, 598, 657, 622, 605, 604, 606, 596, 595, 594, 607, 597, 592, 591, 593, 590, 589, 588],
  [658, 658, 659, 658, 660, 660, 659, 658, 661, 661, 662, 661, 663, 660, 659, 658, 664, 664, 665, 664, 666, 666, 665, 664, 667, 667, 662, 661, 663, 660, 659, 658, 668, 668, 669, 668, 670, 670, 669, 668, 671, 671, 672, 671, 673, 670, 669, 668, 674, 674, 675, 674, 676, 666, 665, 664, 677, 667, 662, 661, 663, 660, 659, 658],
  [678, 678, 679, 678, 680, 680, 679, 678, 681, 681, 682, 681, 683, 680, 679, 678, 684, 684, 685, 684, 686, 560, 559, 558, 687, 561, 556, 555, 557, 554, 553, 552, 688, 688, 689, 688, 690, 564, 563, 562, 691, 565, 546, 545, 547, 544, 543, 542, 692, 566, 549, 548, 550, 540, 539, 538, 551, 541, 536, 535, 537, 534, 533, 532],
  [693, 693, 694, 693, 695, 695, 694, 693, 696, 696, 697, 696, 698, 695, 694, 693, 699, 699, 700, 699, 701, 575, 574, 573, 702, 576, 571, 570, 572, 569, 568, 567, 703, 703, 704, 703, 705, 579, 578, 577, 706, 580, 511, 510, 512, 509, 508, 507, 707, 581, 514, 513, 515, 505, 504, 503, 516, 506, 501, 500, 502, 499, 498, 497],
  [708, 708, 709, 708, 710, 584, 583, 582, 711, 585, 521, 520, 522, 519, 518, 517, 712, 586, 524, 523, 525, 490, 489, 488, 526, 491, 486, 485, 487, 484, 483, 482, 713, 587, 528, 527, 529, 494, 493, 492, 530, 495, 476, 475, 477, 474, 473, 472, 531, 496, 479, 478, 480, 470, 469, 468, 481, 471, 466, 465, 467, 464, 463, 462],
  [714, 714, 715, 714, 716, 716, 715, 714, 717, 717, 718, 717, 719, 716, 715, 714, 720, 720, 721, 720, 722, 722, 721, 720, 723, 723, 718, 717, 719, 716, 715, 714, 724, 724, 725, 724, 726, 726, 725, 724, 727, 727, 728, 727, 729, 726, 725, 724, 730, 730, 731, 730, 732, 722, 721, 720, 733, 723, 718, 717, 719, 716, 715, 714],
  [734, 734, 735, 734, 736, 736, 735, 734, 737, 737, 738, 737, 739, 736, 735, 734, 740, 740, 741, 740, 742, 742, 741, 740, 743, 743, 738, 737, 739, 736, 735, 734, 744, 744, 745, 744, 746, 746, 745, 744, 747, 747, 728, 727, 729, 726, 725, 724, 748, 748, 731, 730, 732, 722, 721, 720, 733, 723, 718, 717, 719, 716, 715, 714],
  [749, 749, 750, 749, 751, 751, 750, 749, 752, 752, 753, 752, 754, 751, 750, 749, 755, 755, 756, 755, 757, 757, 756, 755, 758, 758, 753, 752, 754, 751, 750, 749, 759, 759, 760, 759, 761, 761, 760, 759, 762, 762, 763, 762, 764, 761, 760, 759, 765, 765, 766, 765, 767, 757, 756, 755, 768, 758, 753, 752, 754, 751, 750, 749],
  [769, 769, 770, 769, 771, 771, 770, 769, 772, 772, 773, 772, 774, 771, 770, 769, 775, 775, 776, 775, 777, 742, 741, 740, 778, 743, 738, 737, 739, 736, 735, 734, 779, 779, 780, 779, 781, 746, 745, 744, 782, 747, 728, 727, 729, 726, 725, 724, 783, 748, 731, 730, 732, 722, 721, 720, 733, 723, 718, 717, 719, 716, 715, 714],
  [784, 784, 785, 784, 786, 786, 785, 784, 787, 787, 788, 787, 789, 786, 785, 784, 790, 790, 791, 790, 792, 792, 791, 790, 793, 793, 788, 787, 789, 786, 785, 784, 794, 794, 795, 794, 796, 796, 795, 794, 797, 797, 798, 797, 799, 796, 795, 794, 800, 800, 801, 800, 802, 792, 791, 790, 803, 793, 788, 787, 789, 786, 785, 784],
  [804, 804, 805, 804, 806, 806, 805, 804, 807, 807, 808, 807, 809, 806, 805, 804, 810, 810, 811, 810, 812, 350, 349, 348, 813, 351, 346, 345, 347, 344, 343, 342, 814, 814, 815, 814, 816, 354, 353, 352, 817, 355, 336, 335, 337, 334, 333, 332, 818, 356, 339, 338, 340, 330, 329, 328, 341, 331, 326, 325, 327, 324, 323, 322],
  [819, 819, 820, 819, 821, 821, 820, 819, 822, 822, 823, 822, 824, 821, 820, 819, 825, 825, 826, 825, 827, 365, 364, 363, 828, 366, 361, 360, 362, 359, 358, 357, 829, 829, 830, 829, 831, 369, 368, 367, 832, 370, 301, 300, 302, 299, 298, 297, 833, 371, 304, 303, 305, 295, 294, 293, 306, 296, 291, 290, 292, 289, 288, 287],
  [834, 834, 835, 834, 836, 374, 373, 372, 837, 375, 311, 310, 312, 309, 308, 307, 838, 376, 314, 313, 315, 280, 279, 278, 316, 281, 276, 275, 277, 274, 273, 272, 839, 377, 318, 317, 319, 284, 283, 282, 320, 285, 266, 265, 267, 264, 263, 262, 321, 286, 269, 268, 270, 260, 259, 258, 271, 261, 256, 255, 257, 254, 253, 252],
  [840, 840, 841, 840, 842, 842, 841, 840, 843, 843, 844, 843, 845, 842, 841, 840, 846, 846, 847, 846, 848, 848, 847, 846, 849, 849, 844, 843, 845, 842, 841, 840, 850, 850, 851, 850, 852, 852, 851, 850, 853, 853, 854, 853, 855, 852, 851, 850, 856, 856, 857, 856, 858, 848, 847, 846, 859, 849, 844, 843, 845, 842, 841, 840],
  [860, 860, 861, 860, 862, 862, 861, 860, 863, 863, 864, 863, 865, 862, 861, 860, 866, 866, 867, 866, 868, 406, 405, 404, 869, 407, 402, 401, 403, 400, 399, 398, 870, 870, 871, 870, 872, 410, 409, 408, 873, 411, 392, 391, 393, 390, 389, 388, 874, 412, 395, 394, 396, 386, 385, 384, 397, 387, 382, 381, 383, 380, 379, 378],
  [875, 875, 876, 875, 877, 877, 876, 875, 878, 878, 879, 878, 880, 877, 876, 875, 881, 881, 882, 881, 883, 421, 420, 419, 884, 422, 417, 416, 418, 415, 414, 413, 885, 885, 886, 885, 887, 425, 424, 423, 888, 426, 175, 174, 176, 173, 172, 171, 889, 427, 178, 177, 179, 169, 168, 167, 180, 170, 165, 164, 166, 163, 162, 161],
  [890, 890, 891, 890, 892, 430, 429, 428, 893, 431, 185, 184, 186, 183, 182, 181, 894, 432, 188, 187, 189, 154, 153, 152, 190, 155, 150, 149, 151, 148, 147, 146, 895, 433, 192, 191, 193, 158, 157, 156, 194, 159, 140, 139, 141, 138, 137, 136, 195, 160, 143, 142, 144, 134, 133, 132, 145, 135, 130, 129, 131, 128, 127, 126],
  [896, 896, 897, 896, 898, 898, 897, 896, 899, 899, 900, 899, 901, 898, 897, 896, 902, 902, 903, 902, 904, 442, 441, 440, 905, 443, 438, 437, 439, 436, 435, 434, 906, 906, 907, 906, 908, 446, 445, 444, 909, 447, 210, 209, 211, 208, 207, 206, 910, 448, 213, 212, 214, 204, 203, 202, 215, 205, 200, 199, 201, 198, 197, 196],
  [911, 911, 912, 911, 913, 451, 450, 449, 914, 452, 220, 219, 221, 218, 217, 216, 915, 453, 223, 222, 224, 98, 97, 96, 225, 99, 94, 93, 95, 92, 91, 90, 916, 454, 227, 226, 228, 102, 101, 100, 229, 103, 84, 83, 85, 82, 81, 80, 230, 104, 87, 86, 88, 78, 77, 76, 89, 79, 74, 73, 75, 72, 71, 70],
  [917, 917, 918, 917, 919, 457, 456, 455, 920, 458, 235, 234, 236, 233, 232, 231, 921, 459, 238, 237, 239, 113, 112, 111, 240, 114, 109, 108, 110, 107, 106, 105, 922, 460, 242, 241, 243, 117, 116, 115, 244, 118, 49, 48, 50, 47, 46, 45, 245, 119, 52, 51, 53, 43, 42, 41, 54, 44, 39, 38, 40, 37, 36, 35],
  [923, 461, 247, 246, 248, 122, 121, 120, 249, 123, 59, 58, 60, 57, 56, 55, 250, 124, 62, 61, 63, 28, 27, 26, 64, 29, 24, 23, 25, 22, 21, 20, 251, 125, 66, 65, 67, 32, 31, 30, 68, 33, 14, 13, 15, 12, 11, 10, 69, 34, 17, 16, 18, 8, 7, 6, 19, 9, 4, 3, 5, 2, 1, 0]]
set_option maxRecDepth 100000 in
noncomputable def ns_cs : List (List (List Nat)) := [
  [[0, 1, 3, 7, 15, 31, 63, 127, 255, 511, 1023, 2047, 4095], [2, 6, 14, 30, 62, 126, 254, 510, 1022, 2046, 4094], [4, 5, 13, 29, 61, 125, 253, 509, 1021, 2045, 4093], [8, 9, 11, 27, 59, 123, 251, 507, 1019, 2043, 4091], [10, 26, 58, 122, 250, 506, 1018, 2042, 4090], [12, 28, 60, 124, 252, 508, 1020, 2044, 4092], [16, 17, 19, 23, 55, 119, 247, 503, 1015, 2039, 4087], [18, 22, 54, 118, 246, 502, 1014, 2038, 4086], [20, 21, 53, 117, 245, 501, 1013, 2037, 4085], [24, 25, 57, 121, 249, 505, 1017, 2041, 4089], [32, 33, 35, 39, 47, 111, 239, 495, 1007, 2031, 4079], [34, 38, 46, 110, 238, 494, 1006, 2030, 4078], [36, 37, 45, 109, 237, 493, 1005, 2029, 4077], [40, 41, 43, 107, 235, 491, 1003, 2027, 4075], [42, 106, 234, 490, 1002, 2026, 4074], [44, 108, 236, 492, 1004, 2028, 4076], [48, 49, 51, 115, 243, 499, 1011, 2035, 4083], [50, 114, 242, 498, 1010, 2034, 4082], [52, 116, 244, 500, 1012, 2036, 4084], [56, 120, 248, 504, 1016, 2040, 4088], [64, 65, 67, 71, 79, 95, 223, 479, 991, 2015, 4063], [66, 70, 78, 94, 222, 478, 990, 2014, 4062], [68, 69, 77, 93, 221, 477, 989, 2013, 4061], [72, 73, 75, 91, 219, 475, 987, 2011, 4059], [74, 90, 218, 474, 986, 2010, 4058], [76, 92, 220, 476, 988, 2012, 4060], [80, 81, 83, 87, 215, 471, 983, 2007, 4055], [82, 86, 214, 470, 982, 2006, 4054], [84, 85, 213, 469, 981, 2005, 4053], [88, 89, 217, 473, 985, 2009, 4057], [96, 97, 99, 103, 231, 487, 999, 2023, 4071]],
  [[98, 102, 230, 486, 998, 2022, 4070], [100, 101, 229, 485, 997, 2021, 4069], [104, 105, 233, 489, 1001, 2025, 4073], [112, 113, 241, 497, 1009, 2033, 4081], [128, 129, 131, 135, 143, 159, 191, 447, 959, 1983, 4031], [130, 134, 142, 158, 190, 446, 958, 1982, 4030], [132, 133, 141, 157, 189, 445, 957, 1981, 4029], [136, 137, 139, 155, 187, 443, 955, 1979, 4027], [138, 154, 186, 442, 954, 1978, 4026], [140, 156, 188, 444, 956, 1980, 4028], [144, 145, 147, 151, 183, 439, 951, 1975, 4023], [146, 150, 182, 438, 950, 1974, 4022], [148, 149, 181, 437, 949, 1973, 4021], [152, 153, 185, 441, 953, 1977, 4025], [160, 161, 163, 167, 175, 431, 943, 1967, 4015], [162, 166, 174, 430, 942, 1966, 4014], [164, 165, 173, 429, 941, 1965, 4013], [168, 169, 171, 427, 939, 1963, 4011], [170, 426, 938, 1962, 4010], [172, 428, 940, 1964, 4012], [176, 177, 179, 435, 947, 1971, 4019], [178, 434, 946, 1970, 4018], [180, 436, 948, 1972, 4020], [184, 440, 952, 1976, 4024], [192, 193, 195, 199, 207, 463, 975, 1999, 4047], [194, 198, 206, 462, 974, 1998, 4046], [196, 197, 205, 461, 973, 1997, 4045], [200, 201, 203, 459, 971, 1995, 4043], [202, 458, 970, 1994, 4042], [204, 460, 972, 1996, 4044], [208, 209, 211, 467, 979, 2003, 4051]],
  [[210, 466, 978, 2002, 4050], [212, 468, 980, 2004, 4052], [216, 472, 984, 2008, 4056], [224, 225, 227, 483, 995, 2019, 4067], [226, 482, 994, 2018, 4066], [228, 484, 996, 2020, 4068], [232, 488, 1000, 2024, 4072], [240, 496, 1008, 2032, 4080], [256, 257, 259, 263, 271, 287, 319, 383, 895, 1919, 3967], [258, 262, 270, 286, 318, 382, 894, 1918, 3966], [260, 261, 269, 285, 317, 381, 893, 1917, 3965], [264, 265, 267, 283, 315, 379, 891, 1915, 3963], [266, 282, 314, 378, 890, 1914, 3962], [268, 284, 316, 380, 892, 1916, 3964], [272, 273, 275, 279, 311, 375, 887, 1911, 3959], [274, 278, 310, 374, 886, 1910, 3958], [276, 277, 309, 373, 885, 1909, 3957], [280, 281, 313, 377, 889, 1913, 3961], [288, 289, 291, 295, 303, 367, 879, 1903, 3951], [290, 294, 302, 366, 878, 1902, 3950], [292, 293, 301, 365, 877, 1901, 3949], [296, 297, 299, 363, 875, 1899, 3947], [298, 362, 874, 1898, 3946], [300, 364, 876, 1900, 3948], [304, 305, 307, 371, 883, 1907, 3955], [306, 370, 882, 1906, 3954], [308, 372, 884, 1908, 3956], [312, 376, 888, 1912, 3960], [320, 321, 323, 327, 335, 351, 863, 1887, 3935], [322, 326, 334, 350, 862, 1886, 3934], [324, 325, 333, 349, 861, 1885, 3933]],
  [[328, 329, 331, 347, 859, 1883, 3931], [330, 346, 858, 1882, 3930], [332, 348, 860, 1884, 3932], [336, 337, 339, 343, 855, 1879, 3927], [338, 342, 854, 1878, 3926], [340, 341, 853, 1877, 3925], [344, 345, 857, 1881, 3929], [352, 353, 355, 359, 871, 1895, 3943], [354, 358, 870, 1894, 3942], [356, 357, 869, 1893, 3941], [360, 361, 873, 1897, 3945], [368, 369, 881, 1905, 3953], [384, 385, 387, 391, 399, 415, 927, 1951, 3999], [386, 390, 398, 414, 926, 1950, 3998], [388, 389, 397, 413, 925, 1949, 3997], [392, 393, 395, 411, 923, 1947, 3995], [394, 410, 922, 1946, 3994], [396, 412, 924, 1948, 3996], [400, 401, 403, 407, 919, 1943, 3991], [402, 406, 918, 1942, 3990], [404, 405, 917, 1941, 3989], [408, 409, 921, 1945, 3993], [416, 417, 419, 423, 935, 1959, 4007], [418, 422, 934, 1958, 4006], [420, 421, 933, 1957, 4005], [424, 425, 937, 1961, 4009], [432, 433, 945, 1969, 4017], [448, 449, 451, 455, 967, 1991, 4039], [450, 454, 966, 1990, 4038], [452, 453, 965, 1989, 4037], [456, 457, 969, 1993, 4041]],
  [[464, 465, 977, 2001, 4049], [480, 481, 993, 2017, 4065], [512, 513, 515, 519, 527, 543, 575, 639, 767, 1791, 3839], [514, 518, 526, 542, 574, 638, 766, 1790, 3838], [516, 517, 525, 541, 573, 637, 765, 1789, 3837], [520, 521, 523, 539, 571, 635, 763, 1787, 3835], [522, 538, 570, 634, 762, 1786, 3834], [524, 540, 572, 636, 764, 1788, 3836], [528, 529, 531, 535, 567, 631, 759, 1783, 3831], [530, 534, 566, 630, 758, 1782, 3830], [532, 533, 565, 629, 757, 1781, 3829], [536, 537, 569, 633, 761, 1785, 3833], [544, 545, 547, 551, 559, 623, 751, 1775, 3823], [546, 550, 558, 622, 750, 1774, 3822], [548, 549, 557, 621, 749, 1773, 3821], [552, 553, 555, 619, 747, 1771, 3819], [554, 618, 746, 1770, 3818], [556, 620, 748, 1772, 3820], [560, 561, 563, 627, 755, 1779, 3827], [562, 626, 754, 1778, 3826], [564, 628, 756, 1780, 3828], [568, 632, 760, 1784, 3832], [576, 577, 579, 583, 591, 607, 735, 1759, 3807], [578, 582, 590, 606, 734, 1758, 3806], [580, 581, 589, 605, 733, 1757, 3805], [584, 585, 587, 603, 731, 1755, 3803], [586, 602, 730, 1754, 3802], [588, 604, 732, 1756, 3804], [592, 593, 595, 599, 727, 1751, 3799], [594, 598, 726, 1750, 3798], [596, 597, 725, 1749, 3797]],
  [[600, 601, 729, 1753, 3801], [608, 609, 611, 615, 743, 1767, 3815], [610, 614, 742, 1766, 3814], [612, 613, 741, 1765, 3813], [616, 617, 745, 1769, 3817], [624, 625, 753, 1777, 3825], [640, 641, 643, 647, 655, 671, 703, 1727, 3775], [642, 646, 654, 670, 702, 1726, 3774], [644, 645, 653, 669, 701, 1725, 3773], [648, 649, 651, 667, 699, 1723, 3771], [650, 666, 698, 1722, 3770], [652, 668, 700, 1724, 3772], [656, 657, 659, 663, 695, 1719, 3767], [658, 662, 694, 1718, 3766], [660, 661, 693, 1717, 3765], [664, 665, 697, 1721, 3769], [672, 673, 675, 679, 687, 1711, 3759], [674, 678, 686, 1710, 3758], [676, 677, 685, 1709, 3757], [680, 681, 683, 1707, 3755], [682, 1706, 3754], [684, 1708, 3756], [688, 689, 691, 1715, 3763], [690, 1714, 3762], [692, 1716, 3764], [696, 1720, 3768], [704, 705, 707, 711, 719, 1743, 3791], [706, 710, 718, 1742, 3790], [708, 709, 717, 1741, 3789], [712, 713, 715, 1739, 3787], [714, 1738, 3786]],
  [[716, 1740, 3788], [720, 721, 723, 1747, 3795], [722, 1746, 3794], [724, 1748, 3796], [728, 1752, 3800], [736, 737, 739, 1763, 3811], [738, 1762, 3810], [740, 1764, 3812], [744, 1768, 3816], [752, 1776, 3824], [768, 769, 771, 775, 783, 799, 831, 1855, 3903], [770, 774, 782, 798, 830, 1854, 3902], [772, 773, 781, 797, 829, 1853, 3901], [776, 777, 779, 795, 827, 1851, 3899], [778, 794, 826, 1850, 3898], [780, 796, 828, 1852, 3900], [784, 785, 787, 791, 823, 1847, 3895], [786, 790, 822, 1846, 3894], [788, 789, 821, 1845, 3893], [792, 793, 825, 1849, 3897], [800, 801, 803, 807, 815, 1839, 3887], [802, 806, 814, 1838, 3886], [804, 805, 813, 1837, 3885], [808, 809, 811, 1835, 3883], [810, 1834, 3882], [812, 1836, 3884], [816, 817, 819, 1843, 3891], [818, 1842, 3890], [820, 1844, 3892], [824, 1848, 3896], [832, 833, 835, 839, 847, 1871, 3919]],
  [[834, 838, 846, 1870, 3918], [836, 837, 845, 1869, 3917], [840, 841, 843, 1867, 3915], [842, 1866, 3914], [844, 1868, 3916], [848, 849, 851, 1875, 3923], [850, 1874, 3922], [852, 1876, 3924], [856, 1880, 3928], [864, 865, 867, 1891, 3939], [866, 1890, 3938], [868, 1892, 3940], [872, 1896, 3944], [880, 1904, 3952], [896, 897, 899, 903, 911, 1935, 3983], [898, 902, 910, 1934, 3982], [900, 901, 909, 1933, 3981], [904, 905, 907, 1931, 3979], [906, 1930, 3978], [908, 1932, 3980], [912, 913, 915, 1939, 3987], [914, 1938, 3986], [916, 1940, 3988], [920, 1944, 3992], [928, 929, 931, 1955, 4003], [930, 1954, 4002], [932, 1956, 4004], [936, 1960, 4008], [944, 1968, 4016], [960, 961, 963, 1987, 4035], [962, 1986, 4034]],
  [[964, 1988, 4036], [968, 1992, 4040], [976, 2000, 4048], [992, 2016, 4064], [1024, 1025, 1027, 1031, 1039, 1055, 1087, 1151, 1279, 1535, 3583], [1026, 1030, 1038, 1054, 1086, 1150, 1278, 1534, 3582], [1028, 1029, 1037, 1053, 1085, 1149, 1277, 1533, 3581], [1032, 1033, 1035, 1051, 1083, 1147, 1275, 1531, 3579], [1034, 1050, 1082, 1146, 1274, 1530, 3578], [1036, 1052, 1084, 1148, 1276, 1532, 3580], [1040, 1041, 1043, 1047, 1079, 1143, 1271, 1527, 3575], [1042, 1046, 1078, 1142, 1270, 1526, 3574], [1044, 1045, 1077, 1141, 1269, 1525, 3573], [1048, 1049, 1081, 1145, 1273, 1529, 3577], [1056, 1057, 1059, 1063, 1071, 1135, 1263, 1519, 3567], [1058, 1062, 1070, 1134, 1262, 1518, 3566], [1060, 1061, 1069, 1133, 1261, 1517, 3565], [1064, 1065, 1067, 1131, 1259, 1515, 3563], [1066, 1130, 1258, 1514, 3562], [1068, 1132, 1260, 1516, 3564], [1072, 1073, 1075, 1139, 1267, 1523, 3571], [1074, 1138, 1266, 1522, 3570], [1076, 1140, 1268, 1524, 3572], [1080, 1144, 1272, 1528, 3576], [1088, 1089, 1091, 1095, 1103, 1119, 1247, 1503, 3551], [1090, 1094, 1102, 1118, 1246, 1502, 3550], [1092, 1093, 1101, 1117, 1245, 1501, 3549], [1096, 1097, 1099, 1115, 1243, 1499, 3547], [1098, 1114, 1242, 1498, 3546], [1100, 1116, 1244, 1500, 3548], [1104, 1105, 1107, 1111, 1239, 1495, 3543]],
  [[1106, 1110, 1238, 1494, 3542], [1108, 1109, 1237, 1493, 3541], [1112, 1113, 1241, 1497, 3545], [1120, 1121, 1123, 1127, 1255, 1511, 3559], [1122, 1126, 1254, 1510, 3558], [1124, 1125, 1253, 1509, 3557], [1128, 1129, 1257, 1513, 3561], [1136, 1137, 1265, 1521, 3569], [1152, 1153, 1155, 1159, 1167, 1183, 1215, 1471, 3519], [1154, 1158, 1166, 1182, 1214, 1470, 3518], [1156, 1157, 1165, 1181, 1213, 1469, 3517], [1160, 1161, 1163, 1179, 1211, 1467, 3515], [1162, 1178, 1210, 1466, 3514], [1164, 1180, 1212, 1468, 3516], [1168, 1169, 1171, 1175, 1207, 1463, 3511], [1170, 1174, 1206, 1462, 3510], [1172, 1173, 1205, 1461, 3509], [1176, 1177, 1209, 1465, 3513], [1184, 1185, 1187, 1191, 1199, 1455, 3503], [1186, 1190, 1198, 1454, 3502], [1188, 1189, 1197, 1453, 3501], [1192, 1193, 1195, 1451, 3499], [1194, 1450, 3498], [1196, 1452, 3500], [1200, 1201, 1203, 1459, 3507], [1202, 1458, 3506], [1204, 1460, 3508], [1208, 1464, 3512], [1216, 1217, 1219, 1223, 1231, 1487, 3535], [1218, 1222, 1230, 1486, 3534], [1220, 1221, 1229, 1485, 3533]],
  [[1224, 1225, 1227, 1483, 3531], [1226, 1482, 3530], [1228, 1484, 3532], [1232, 1233, 1235, 1491, 3539], [1234, 1490, 3538], [1236, 1492, 3540], [1240, 1496, 3544], [1248, 1249, 1251, 1507, 3555], [1250, 1506, 3554], [1252, 1508, 3556], [1256, 1512, 3560], [1264, 1520, 3568], [1280, 1281, 1283, 1287, 1295, 1311, 1343, 1407, 3455], [1282, 1286, 1294, 1310, 1342, 1406, 3454], [1284, 1285, 1293, 1309, 1341, 1405, 3453], [1288, 1289, 1291, 1307, 1339, 1403, 3451], [1290, 1306, 1338, 1402, 3450], [1292, 1308, 1340, 1404, 3452], [1296, 1297, 1299, 1303, 1335, 1399, 3447], [1298, 1302, 1334, 1398, 3446], [1300, 1301, 1333, 1397, 3445], [1304, 1305, 1337, 1401, 3449], [1312, 1313, 1315, 1319, 1327, 1391, 3439], [1314, 1318, 1326, 1390, 3438], [1316, 1317, 1325, 1389, 3437], [1320, 1321, 1323, 1387, 3435], [1322, 1386, 3434], [1324, 1388, 3436], [1328, 1329, 1331, 1395, 3443], [1330, 1394, 3442], [1332, 1396, 3444]],
  [[1336, 1400, 3448], [1344, 1345, 1347, 1351, 1359, 1375, 3423], [1346, 1350, 1358, 1374, 3422], [1348, 1349, 1357, 1373, 3421], [1352, 1353, 1355, 1371, 3419], [1354, 1370, 3418], [1356, 1372, 3420], [1360, 1361, 1363, 1367, 3415], [1362, 1366, 3414], [1364, 1365, 3413], [1368, 1369, 3417], [1376, 1377, 1379, 1383, 3431], [1378, 1382, 3430], [1380, 1381, 3429], [1384, 1385, 3433], [1392, 1393, 3441], [1408, 1409, 1411, 1415, 1423, 1439, 3487], [1410, 1414, 1422, 1438, 3486], [1412, 1413, 1421, 1437, 3485], [1416, 1417, 1419, 1435, 3483], [1418, 1434, 3482], [1420, 1436, 3484], [1424, 1425, 1427, 1431, 3479], [1426, 1430, 3478], [1428, 1429, 3477], [1432, 1433, 3481], [1440, 1441, 1443, 1447, 3495], [1442, 1446, 3494], [1444, 1445, 3493], [1448, 1449, 3497], [1456, 1457, 3505]],
  [[1472, 1473, 1475, 1479, 3527], [1474, 1478, 3526], [1476, 1477, 3525], [1480, 1481, 3529], [1488, 1489, 3537], [1504, 1505, 3553], [1536, 1537, 1539, 1543, 1551, 1567, 1599, 1663, 3711], [1538, 1542, 1550, 1566, 1598, 1662, 3710], [1540, 1541, 1549, 1565, 1597, 1661, 3709], [1544, 1545, 1547, 1563, 1595, 1659, 3707], [1546, 1562, 1594, 1658, 3706], [1548, 1564, 1596, 1660, 3708], [1552, 1553, 1555, 1559, 1591, 1655, 3703], [1554, 1558, 1590, 1654, 3702], [1556, 1557, 1589, 1653, 3701], [1560, 1561, 1593, 1657, 3705], [1568, 1569, 1571, 1575, 1583, 1647, 3695], [1570, 1574, 1582, 1646, 3694], [1572, 1573, 1581, 1645, 3693], [1576, 1577, 1579, 1643, 3691], [1578, 1642, 3690], [1580, 1644, 3692], [1584, 1585, 1587, 1651, 3699], [1586, 1650, 3698], [1588, 1652, 3700], [1592, 1656, 3704], [1600, 1601, 1603, 1607, 1615, 1631, 3679], [1602, 1606, 1614, 1630, 3678], [1604, 1605, 1613, 1629, 3677], [1608, 1609, 1611, 1627, 3675], [1610, 1626, 3674]],
  [[1612, 1628, 3676], [1616, 1617, 1619, 1623, 3671], [1618, 1622, 3670], [1620, 1621, 3669], [1624, 1625, 3673], [1632, 1633, 1635, 1639, 3687], [1634, 1638, 3686], [1636, 1637, 3685], [1640, 1641, 3689], [1648, 1649, 3697], [1664, 1665, 1667, 1671, 1679, 1695, 3743], [1666, 1670, 1678, 1694, 3742], [1668, 1669, 1677, 1693, 3741], [1672, 1673, 1675, 1691, 3739], [1674, 1690, 3738], [1676, 1692, 3740], [1680, 1681, 1683, 1687, 3735], [1682, 1686, 3734], [1684, 1685, 3733], [1688, 1689, 3737], [1696, 1697, 1699, 1703, 3751], [1698, 1702, 3750], [1700, 1701, 3749], [1704, 1705, 3753], [1712, 1713, 3761], [1728, 1729, 1731, 1735, 3783], [1730, 1734, 3782], [1732, 1733, 3781], [1736, 1737, 3785], [1744, 1745, 3793], [1760, 1761, 3809]],
  [[1792, 1793, 1795, 1799, 1807, 1823, 3871], [1794, 1798, 1806, 1822, 3870], [1796, 1797, 1805, 1821, 3869], [1800, 1801, 1803, 1819, 3867], [1802, 1818, 3866], [1804, 1820, 3868], [1808, 1809, 1811, 1815, 3863], [1810, 1814, 3862], [1812, 1813, 3861], [1816, 1817, 3865], [1824, 1825, 1827, 1831, 3879], [1826, 1830, 3878], [1828, 1829, 3877], [1832, 1833, 3881], [1840, 1841, 3889], [1856, 1857, 1859, 1863, 3911], [1858, 1862, 3910], [1860, 1861, 3909], [1864, 1865, 3913], [1872, 1873, 3921], [1888, 1889, 3937], [1920, 1921, 1923, 1927, 3975], [1922, 1926, 3974], [1924, 1925, 3973], [1928, 1929, 3977], [1936, 1937, 3985], [1952, 1953, 4001], [1984, 1985, 4033], [2048, 2049, 2051, 2055, 2063, 2079, 2111, 2175, 2303, 2559, 3071], [2050, 2054, 2062, 2078, 2110, 2174, 2302, 2558, 3070], [2052, 2053, 2061, 2077, 2109, 2173, 2301, 2557, 3069]],
  [[2056, 2057, 2059, 2075, 2107, 2171, 2299, 2555, 3067], [2058, 2074, 2106, 2170, 2298, 2554, 3066], [2060, 2076, 2108, 2172, 2300, 2556, 3068], [2064, 2065, 2067, 2071, 2103, 2167, 2295, 2551, 3063], [2066, 2070, 2102, 2166, 2294, 2550, 3062], [2068, 2069, 2101, 2165, 2293, 2549, 3061], [2072, 2073, 2105, 2169, 2297, 2553, 3065], [2080, 2081, 2083, 2087, 2095, 2159, 2287, 2543, 3055], [2082, 2086, 2094, 2158, 2286, 2542, 3054], [2084, 2085, 2093, 2157, 2285, 2541, 3053], [2088, 2089, 2091, 2155, 2283, 2539, 3051], [2090, 2154, 2282, 2538, 3050], [2092, 2156, 2284, 2540, 3052], [2096, 2097, 2099, 2163, 2291, 2547, 3059], [2098, 2162, 2290, 2546, 3058], [2100, 2164, 2292, 2548, 3060], [2104, 2168, 2296, 2552, 3064], [2112, 2113, 2115, 2119, 2127, 2143, 2271, 2527, 3039], [2114, 2118, 2126, 2142, 2270, 2526, 3038], [2116, 2117, 2125, 2141, 2269, 2525, 3037], [2120, 2121, 2123, 2139, 2267, 2523, 3035], [2122, 2138, 2266, 2522, 3034], [2124, 2140, 2268, 2524, 3036], [2128, 2129, 2131, 2135, 2263, 2519, 3031], [2130, 2134, 2262, 2518, 3030], [2132, 2133, 2261, 2517, 3029], [2136, 2137, 2265, 2521, 3033], [2144, 2145, 2147, 2151, 2279, 2535, 3047], [2146, 2150, 2278, 2534, 3046], [2148, 2149, 2277, 2533, 3045], [2152, 2153, 2281, 2537, 3049]],
  [[2160, 2161, 2289, 2545, 3057], [2176, 2177, 2179, 2183, 2191, 2207, 2239, 2495, 3007], [2178, 2182, 2190, 2206, 2238, 2494, 3006], [2180, 2181, 2189, 2205, 2237, 2493, 3005], [2184, 2185, 2187, 2203, 2235, 2491, 3003], [2186, 2202, 2234, 2490, 3002], [2188, 2204, 2236, 2492, 3004], [2192, 2193, 2195, 2199, 2231, 2487, 2999], [2194, 2198, 2230, 2486, 2998], [2196, 2197, 2229, 2485, 2997], [2200, 2201, 2233, 2489, 3001], [2208, 2209, 2211, 2215, 2223, 2479, 2991], [2210, 2214, 2222, 2478, 2990], [2212, 2213, 2221, 2477, 2989], [2216, 2217, 2219, 2475, 2987], [2218, 2474, 2986], [2220, 2476, 2988], [2224, 2225, 2227, 2483, 2995], [2226, 2482, 2994], [2228, 2484, 2996], [2232, 2488, 3000], [2240, 2241, 2243, 2247, 2255, 2511, 3023], [2242, 2246, 2254, 2510, 3022], [2244, 2245, 2253, 2509, 3021], [2248, 2249, 2251, 2507, 3019], [2250, 2506, 3018], [2252, 2508, 3020], [2256, 2257, 2259, 2515, 3027], [2258, 2514, 3026], [2260, 2516, 3028], [2264, 2520, 3032]],
  [[2272, 2273, 2275, 2531, 3043], [2274, 2530, 3042], [2276, 2532, 3044], [2280, 2536, 3048], [2288, 2544, 3056], [2304, 2305, 2307, 2311, 2319, 2335, 2367, 2431, 2943], [2306, 2310, 2318, 2334, 2366, 2430, 2942], [2308, 2309, 2317, 2333, 2365, 2429, 2941], [2312, 2313, 2315, 2331, 2363, 2427, 2939], [2314, 2330, 2362, 2426, 2938], [2316, 2332, 2364, 2428, 2940], [2320, 2321, 2323, 2327, 2359, 2423, 2935], [2322, 2326, 2358, 2422, 2934], [2324, 2325, 2357, 2421, 2933], [2328, 2329, 2361, 2425, 2937], [2336, 2337, 2339, 2343, 2351, 2415, 2927], [2338, 2342, 2350, 2414, 2926], [2340, 2341, 2349, 2413, 2925], [2344, 2345, 2347, 2411, 2923], [2346, 2410, 2922], [2348, 2412, 2924], [2352, 2353, 2355, 2419, 2931], [2354, 2418, 2930], [2356, 2420, 2932], [2360, 2424, 2936], [2368, 2369, 2371, 2375, 2383, 2399, 2911], [2370, 2374, 2382, 2398, 2910], [2372, 2373, 2381, 2397, 2909], [2376, 2377, 2379, 2395, 2907], [2378, 2394, 2906], [2380, 2396, 2908]],
  [[2384, 2385, 2387, 2391, 2903], [2386, 2390, 2902], [2388, 2389, 2901], [2392, 2393, 2905], [2400, 2401, 2403, 2407, 2919], [2402, 2406, 2918], [2404, 2405, 2917], [2408, 2409, 2921], [2416, 2417, 2929], [2432, 2433, 2435, 2439, 2447, 2463, 2975], [2434, 2438, 2446, 2462, 2974], [2436, 2437, 2445, 2461, 2973], [2440, 2441, 2443, 2459, 2971], [2442, 2458, 2970], [2444, 2460, 2972], [2448, 2449, 2451, 2455, 2967], [2450, 2454, 2966], [2452, 2453, 2965], [2456, 2457, 2969], [2464, 2465, 2467, 2471, 2983], [2466, 2470, 2982], [2468, 2469, 2981], [2472, 2473, 2985], [2480, 2481, 2993], [2496, 2497, 2499, 2503, 3015], [2498, 2502, 3014], [2500, 2501, 3013], [2504, 2505, 3017], [2512, 2513, 3025], [2528, 2529, 3041], [2560, 2561, 2563, 2567, 2575, 2591, 2623, 2687, 2815]],
  [[2562, 2566, 2574, 2590, 2622, 2686, 2814], [2564, 2565, 2573, 2589, 2621, 2685, 2813], [2568, 2569, 2571, 2587, 2619, 2683, 2811], [2570, 2586, 2618, 2682, 2810], [2572, 2588, 2620, 2684, 2812], [2576, 2577, 2579, 2583, 2615, 2679, 2807], [2578, 2582, 2614, 2678, 2806], [2580, 2581, 2613, 2677, 2805], [2584, 2585, 2617, 2681, 2809], [2592, 2593, 2595, 2599, 2607, 2671, 2799], [2594, 2598, 2606, 2670, 2798], [2596, 2597, 2605, 2669, 2797], [2600, 2601, 2603, 2667, 2795], [2602, 2666, 2794], [2604, 2668, 2796], [2608, 2609, 2611, 2675, 2803], [2610, 2674, 2802], [2612, 2676, 2804], [2616, 2680, 2808], [2624, 2625, 2627, 2631, 2639, 2655, 2783], [2626, 2630, 2638, 2654, 2782], [2628, 2629, 2637, 2653, 2781], [2632, 2633, 2635, 2651, 2779], [2634, 2650, 2778], [2636, 2652, 2780], [2640, 2641, 2643, 2647, 2775], [2642, 2646, 2774], [2644, 2645, 2773], [2648, 2649, 2777], [2656, 2657, 2659, 2663, 2791], [2658, 2662, 2790]],
  [[2660, 2661, 2789], [2664, 2665, 2793], [2672, 2673, 2801], [2688, 2689, 2691, 2695, 2703, 2719, 2751], [2690, 2694, 2702, 2718, 2750], [2692, 2693, 2701, 2717, 2749], [2696, 2697, 2699, 2715, 2747], [2698, 2714, 2746], [2700, 2716, 2748], [2704, 2705, 2707, 2711, 2743], [2706, 2710, 2742], [2708, 2709, 2741], [2712, 2713, 2745], [2720, 2721, 2723, 2727, 2735], [2722, 2726, 2734], [2724, 2725, 2733], [2728, 2729, 2731], [2730], [2732], [2736, 2737, 2739], [2738], [2740], [2744], [2752, 2753, 2755, 2759, 2767], [2754, 2758, 2766], [2756, 2757, 2765], [2760, 2761, 2763], [2762], [2764], [2768, 2769, 2771], [2770]],
  [[2772], [2776], [2784, 2785, 2787], [2786], [2788], [2792], [2800], [2816, 2817, 2819, 2823, 2831, 2847, 2879], [2818, 2822, 2830, 2846, 2878], [2820, 2821, 2829, 2845, 2877], [2824, 2825, 2827, 2843, 2875], [2826, 2842, 2874], [2828, 2844, 2876], [2832, 2833, 2835, 2839, 2871], [2834, 2838, 2870], [2836, 2837, 2869], [2840, 2841, 2873], [2848, 2849, 2851, 2855, 2863], [2850, 2854, 2862], [2852, 2853, 2861], [2856, 2857, 2859], [2858], [2860], [2864, 2865, 2867], [2866], [2868], [2872], [2880, 2881, 2883, 2887, 2895], [2882, 2886, 2894], [2884, 2885, 2893], [2888, 2889, 2891]],
  [[2890], [2892], [2896, 2897, 2899], [2898], [2900], [2904], [2912, 2913, 2915], [2914], [2916], [2920], [2928], [2944, 2945, 2947, 2951, 2959], [2946, 2950, 2958], [2948, 2949, 2957], [2952, 2953, 2955], [2954], [2956], [2960, 2961, 2963], [2962], [2964], [2968], [2976, 2977, 2979], [2978], [2980], [2984], [2992], [3008, 3009, 3011], [3010], [3012], [3016], [3024]],
  [[3040], [3072, 3073, 3075, 3079, 3087, 3103, 3135, 3199, 3327], [3074, 3078, 3086, 3102, 3134, 3198, 3326], [3076, 3077, 3085, 3101, 3133, 3197, 3325], [3080, 3081, 3083, 3099, 3131, 3195, 3323], [3082, 3098, 3130, 3194, 3322], [3084, 3100, 3132, 3196, 3324], [3088, 3089, 3091, 3095, 3127, 3191, 3319], [3090, 3094, 3126, 3190, 3318], [3092, 3093, 3125, 3189, 3317], [3096, 3097, 3129, 3193, 3321], [3104, 3105, 3107, 3111, 3119, 3183, 3311], [3106, 3110, 3118, 3182, 3310], [3108, 3109, 3117, 3181, 3309], [3112, 3113, 3115, 3179, 3307], [3114, 3178, 3306], [3116, 3180, 3308], [3120, 3121, 3123, 3187, 3315], [3122, 3186, 3314], [3124, 3188, 3316], [3128, 3192, 3320], [3136, 3137, 3139, 3143, 3151, 3167, 3295], [3138, 3142, 3150, 3166, 3294], [3140, 3141, 3149, 3165, 3293], [3144, 3145, 3147, 3163, 3291], [3146, 3162, 3290], [3148, 3164, 3292], [3152, 3153, 3155, 3159, 3287], [3154, 3158, 3286], [3156, 3157, 3285], [3160, 3161, 3289]],
  [[3168, 3169, 3171, 3175, 3303], [3170, 3174, 3302], [3172, 3173, 3301], [3176, 3177, 3305], [3184, 3185, 3313], [3200, 3201, 3203, 3207, 3215, 3231, 3263], [3202, 3206, 3214, 3230, 3262], [3204, 3205, 3213, 3229, 3261], [3208, 3209, 3211, 3227, 3259], [3210, 3226, 3258], [3212, 3228, 3260], [3216, 3217, 3219, 3223, 3255], [3218, 3222, 3254], [3220, 3221, 3253], [3224, 3225, 3257], [3232, 3233, 3235, 3239, 3247], [3234, 3238, 3246], [3236, 3237, 3245], [3240, 3241, 3243], [3242], [3244], [3248, 3249, 3251], [3250], [3252], [3256], [3264, 3265, 3267, 3271, 3279], [3266, 3270, 3278], [3268, 3269, 3277], [3272, 3273, 3275], [3274], [3276]],
  [[3280, 3281, 3283], [3282], [3284], [3288], [3296, 3297, 3299], [3298], [3300], [3304], [3312], [3328, 3329, 3331, 3335, 3343, 3359, 3391], [3330, 3334, 3342, 3358, 3390], [3332, 3333, 3341, 3357, 3389], [3336, 3337, 3339, 3355, 3387], [3338, 3354, 3386], [3340, 3356, 3388], [3344, 3345, 3347, 3351, 3383], [3346, 3350, 3382], [3348, 3349, 3381], [3352, 3353, 3385], [3360, 3361, 3363, 3367, 3375], [3362, 3366, 3374], [3364, 3365, 3373], [3368, 3369, 3371], [3370], [3372], [3376, 3377, 3379], [3378], [3380], [3384], [3392, 3393, 3395, 3399, 3407], [3394, 3398, 3406]],
  [[3396, 3397, 3405], [3400, 3401, 3403], [3402], [3404], [3408, 3409, 3411], [3410], [3412], [3416], [3424, 3425, 3427], [3426], [3428], [3432], [3440], [3456, 3457, 3459, 3463, 3471], [3458, 3462, 3470], [3460, 3461, 3469], [3464, 3465, 3467], [3466], [3468], [3472, 3473, 3475], [3474], [3476], [3480], [3488, 3489, 3491], [3490], [3492], [3496], [3504], [3520, 3521, 3523], [3522], [3524]],
  [[3528], [3536], [3552], [3584, 3585, 3587, 3591, 3599, 3615, 3647], [3586, 3590, 3598, 3614, 3646], [3588, 3589, 3597, 3613, 3645], [3592, 3593, 3595, 3611, 3643], [3594, 3610, 3642], [3596, 3612, 3644], [3600, 3601, 3603, 3607, 3639], [3602, 3606, 3638], [3604, 3605, 3637], [3608, 3609, 3641], [3616, 3617, 3619, 3623, 3631], [3618, 3622, 3630], [3620, 3621, 3629], [3624, 3625, 3627], [3626], [3628], [3632, 3633, 3635], [3634], [3636], [3640], [3648, 3649, 3651, 3655, 3663], [3650, 3654, 3662], [3652, 3653, 3661], [3656, 3657, 3659], [3658], [3660], [3664, 3665, 3667], [3666]],
  [[3668], [3672], [3680, 3681, 3683], [3682], [3684], [3688], [3696], [3712, 3713, 3715, 3719, 3727], [3714, 3718, 3726], [3716, 3717, 3725], [3720, 3721, 3723], [3722], [3724], [3728, 3729, 3731], [3730], [3732], [3736], [3744, 3745, 3747], [3746], [3748], [3752], [3760], [3776, 3777, 3779], [3778], [3780], [3784], [3792], [3808], [3840, 3841, 3843, 3847, 3855], [3842, 3846, 3854], [3844, 3845, 3853]],
  [[3848, 3849, 3851], [3850], [3852], [3856, 3857, 3859], [3858], [3860], [3864], [3872, 3873, 3875], [3874], [3876], [3880], [3888], [3904, 3905, 3907], [3906], [3908], [3912], [3920], [3936], [3968, 3969, 3971], [3970], [3972], [3976], [3984], [4000], [4032]]]
noncomputable def ns_ch (s : Nat) : Nat := (ns_ct.getD (s / 64) []).getD (s % 64) 0
noncomputable def ns_cm (i : Nat) : List Nat := (ns_cs.getD (i / 31) []).getD (i % 31) []
theorem ns_ch_ok : (List.range 4096).all (fun s => Nat.blt (ns_ch s) 924 && (ns_cm (ns_ch s)).any (fun t => Nat.beq t s)) = true := by decide +kernel
theorem ns_cm_ok : (List.range 924).all (fun i => (ns_cm i).all (fun a => (ns_cm i).all (fun b => Nat.beq (a &&& b) a || Nat.beq (b &&& a) b))) = true := by decide +kernel
theorem ns_ch_sp {s t : Nat} (hs : s < 4096) (ht : t < 4096) (h : ns_ch s = ns_ch t) : s &&& t = s ∨ t &&& s = t := by
  have h1 := List.all_eq_true.mp ns_ch_ok s (List.mem_range.mpr hs)
  have h2 := List.all_eq_true.mp ns_ch_ok t (List.mem_range.mpr ht)
  simp only [Bool.and_eq_true] at h1 h2
  obtain ⟨a, a1, a2⟩ := List.any_eq_true.mp h1.2
  obtain ⟨b, b1, b2⟩ := List.any_eq_true.mp h2.2
  have a2 : a = s := Nat.eq_of_beq_eq_true a2
  have b2 : b = t := Nat.eq_of_beq_eq_true b2
  subst a2
  subst b2
  rw [← h] at b1
  have h3 := List.all_eq_true.mp (List.all_eq_true.mp (List.all_eq_true.mp ns_cm_ok (ns_ch a) (List.mem_range.mpr (Nat.le_of_ble_eq_true h1.1))) a a1) b b1
  rcases (Bool.or_eq_true _ _).mp h3 with y | y
  · exact Or.inl (Nat.eq_of_beq_eq_true y)
  · exact Or.inr (Nat.eq_of_beq_eq_true y)
/-- of 12 rules at most 924 sets none of which holds another -/
theorem ns_924 {V : Nat → Prop} (hV : ∀ s t, V s → V t → s &&& t = s → s = t) {n : Nat} {g : Nat → Nat} (h : ∀ i, i < n → V (g i) ∧ g i < 4096) (hd : ∀ i j, i < j → j < n → g i ≠ g j) : n ≤ 924 := by
  refine ns_php 924 n (fun i => ns_ch (g i)) (fun i hi => ?_) (fun i j hij hj e => ?_)
  · have h1 := List.all_eq_true.mp ns_ch_ok (g i) (List.mem_range.mpr (h i hi).2)
    simp only [Bool.and_eq_true] at h1
    exact Nat.le_of_ble_eq_true h1.1
  · have hi := h i (by omega)
    have hjj := h j hj
    rcases ns_ch_sp hi.2 hjj.2 e with y | y
    · exact hd i j hij hj (hV _ _ hi.1 hjj.1 y)
    · exact hd i j hij hj (hV _ _ hjj.1 hi.1 y).symm
end
section
section NC16
variable {G : nw_G} {σ : nw_S} {D : nd_D}
/-- a truth in a cell -/
def nc_tr (v : Int) (P : Prop) : Prop := (v = 1 ∧ P) ∨ (v = 0 ∧ ¬ P)
theorem nc_tr.to {v : Int} {P Q : Prop} (h : nc_tr v P) (e : P ↔ Q) : nc_tr v Q := by
  rcases h with ⟨a, b⟩ | ⟨a, b⟩
  · exact Or.inl ⟨a, e.mp b⟩
  · exact Or.inr ⟨a, fun z => b (e.mpr z)⟩
theorem nc_tr.r {v : Int} {P : Prop} (h : nc_tr v P) : nw_r v := by
  rcases h with ⟨a, -⟩ | ⟨a, -⟩ <;> rw [a] <;> decide
theorem nc_tr.t {v : Int} {P : Prop} (h : nc_tr v P) (q : v ≠ 0) : P := by
  rcases h with ⟨a, b⟩ | ⟨a, b⟩
  · exact b
  · exact absurd a q
theorem nc_tr.f {v : Int} {P : Prop} (h : nc_tr v P) (q : v = 0) : ¬ P := by
  rcases h with ⟨a, b⟩ | ⟨a, b⟩
  · rw [a] at q; exact absurd q (by decide)
  · exact b
/-- findPossible -/
theorem c61 {Φ : nw_S → Prop} (hw : nd_wf D) (hC : nc_al D σ) {x1 : Int} (h1 : x1 = nd_M D 1) (h : ∀ u : nw_S, (∀ j, j ≠ 19 → u j = σ j) → nc_po D u → Φ u) : nw_TV G 61 [.inl 0, .inr x1] σ Φ := by
  subst h1
  have hR := hw.2.2.2.2.1
  have hP := nd_P_le hw
  have hpw := nd_pw hR
  have hp0 : 0 < 2 ^ nd_r D := Nat.two_pow_pos _
  have hM := (nd_M_lt hw 1).2
  have eR : σ 6 0 = nd_r D := hC.2.1.1
  have eP : σ 1 1 = nd_P D := hC.1.2.1
  -- handing down
  have down : ∀ (w r : Nat) (τ : nw_S) (x3 : Int), r + w = nd_r D → x3 = r → (∀ j, j ≠ 19 → τ j = σ j) → (∀ s, s < 2 ^ nd_r D → nc_tr (τ 19 s) (nd_pr D r s)) → nw_V G 61 (nw_pv Φ) 65 [some (.inl 0), some (.inr (nd_M D 1 : Int)), some (.inr ((2 ^ nd_r D : Nat) : Int)), some (.inr x3), none, none] [] τ := by
    intro w
    induction w with
    | zero =>
      intro r τ x3 hr h3 hj ht
      subst h3
      have hr : r = nd_r D := by omega
      subst hr
      have e : τ 6 0 = nd_r D := by rw [hj 6 (by decide)]; exact eR
      exact bk61_65 ⟨by omega, by omega, fun _ => h τ hj (fun s hs => (ht s hs).to (nd_pr_R hw hs)), fun q => by omega⟩
    | succ w ih =>
      intro r τ x3 hr h3 hj ht
      subst h3
      have e : τ 6 0 = nd_r D := by rw [hj 6 (by decide)]; exact eR
      have h2r : 2 ^ r < 2 ^ nd_r D := Nat.pow_lt_pow_right (by decide) (by omega)
      have inner : ∀ (v j : Nat) (τ : nw_S) (x5 : Int), j + v = 2 ^ nd_r D → x5 = j → (∀ j, j ≠ 19 → τ j = σ j) → (∀ s, s < 2 ^ nd_r D → nc_tr (τ 19 s) (nd_pr D r s ∨ (s.testBit r = false ∧ nd_pr D r (s ^^^ 2 ^ r) ∧ s ^^^ 2 ^ r < j))) → nw_V G 61 (nw_pv Φ) 84 [some (.inl 0), some (.inr (nd_M D 1 : Int)), some (.inr ((2 ^ nd_r D : Nat) : Int)), some (.inr (r : Int)), some (.inr ((2 ^ r : Nat) : Int)), some (.inr x5)] [] τ := by
        intro v
        induction v with
        | zero =>
          intro j τ x5 hj0 h5 hj ht
          subst h5
          have hj0 : j = 2 ^ nd_r D := by omega
          subst hj0
          refine bk61_84 ⟨by omega, by omega, fun _ => ih (r + 1) τ _ (by omega) (by omega) hj (fun s hs => (ht s hs).to ?_), fun q => by omega⟩
          rw [nd_pr_step]
          constructor
          · rintro (y | ⟨y1, y2, -⟩)
            · exact Or.inl y
            · exact Or.inr ⟨y1, y2⟩
          · rintro (y | ⟨y1, y2⟩)
            · exact Or.inl y
            · exact Or.inr ⟨y1, y2, ns_flip_lt hs (by omega)⟩
        | succ v vh =>
          intro j τ x5 hj0 h5 hj ht
          subst h5
          have hjl : j < 2 ^ nd_r D := by omega
          have htj := ht j hjl
          have same : ¬ (j.testBit r = true ∧ nd_pr D r j) → ∀ s, s < 2 ^ nd_r D → nc_tr (τ 19 s) (nd_pr D r s ∨ (s.testBit r = false ∧ nd_pr D r (s ^^^ 2 ^ r) ∧ s ^^^ 2 ^ r < j + 1)) := by
            intro hno s hs
            refine (ht s hs).to ⟨fun y => ?_, fun y => ?_⟩
            · rcases y with y | ⟨y1, y2, y3⟩
              · exact Or.inl y
              · exact Or.inr ⟨y1, y2, by omega⟩
            · rcases y with y | ⟨y1, y2, y3⟩
              · exact Or.inl y
              · refine Or.inr ⟨y1, y2, ?_⟩
                rcases Nat.lt_or_ge (s ^^^ 2 ^ r) j with z | z
                · exact z
                · exfalso
                  have hz : s ^^^ 2 ^ r = j := by omega
                  apply hno
                  rw [← hz]
                  refine ⟨?_, y2⟩
                  rw [ns_flip, y1]
                  simp
          refine bk61_84 ⟨by omega, by omega, fun q => by omega, fun _ => ?_⟩
          simp only [Int.toNat_natCast]
          refine ⟨by omega, htj.r, fun q => vh (j + 1) τ _ (by omega) (by omega) hj (same (fun y => htj.f q (Or.inl y.2))), fun q => ⟨nb_rand _ _, ?_⟩⟩
          rw [nb_and (by omega) (by omega), nb_xor (by omega) (by omega)]
          have hx := ns_flip_lt (r := r) hjl (by omega)
          refine ⟨fun q2 => vh (j + 1) τ _ (by omega) (by omega) hj (same (fun y => ?_)), fun q2 => ⟨by omega, ?_⟩⟩
          · have : j &&& 2 ^ r = 0 := by omega
            rw [(ns_and2 j r).mp this] at y
            exact absurd y.1 (by decide)
          · simp only [Int.toNat_natCast]
            have hb : j.testBit r = true := by
              cases hb : j.testBit r with
              | true => rfl
              | false => exact absurd (by rw [(ns_and2 j r).mpr hb]; rfl) q2
            have hpr : nd_pr D r j := by
              rcases htj.t q with y | ⟨y, -⟩
              · exact y
              · rw [hb] at y; cases y
            refine vh (j + 1) _ _ (by omega) (by omega) (fun l hl => by rw [nu_ne hl]; exact hj l hl) (fun s hs => ?_)
            by_cases y : s = j ^^^ 2 ^ r
            · subst y
              rw [nu_at]
              refine Or.inl ⟨rfl, Or.inr ⟨?_, ?_, ?_⟩⟩
              · rw [ns_flip, hb]; simp
              · rw [ns_flip2]; exact hpr
              · rw [ns_flip2]; omega
            · rw [nu_nj y]
              refine (ht s hs).to ⟨fun z => ?_, fun z => ?_⟩
              · rcases z with z | ⟨z1, z2, z3⟩
                · exact Or.inl z
                · exact Or.inr ⟨z1, z2, by omega⟩
              · rcases z with z | ⟨z1, z2, z3⟩
                · exact Or.inl z
                · refine Or.inr ⟨z1, z2, ?_⟩
                  rcases Nat.lt_or_ge (s ^^^ 2 ^ r) j with z | z
                  · exact z
                  · exfalso
                    apply y
                    have hz : s ^^^ 2 ^ r = j := by omega
                    rw [← hz, ns_flip2]
      refine bk61_65 ⟨by omega, by omega, fun q => by omega, fun _ => ?_⟩
      rw [nb_shl (by omega)]
      refine inner (2 ^ nd_r D) 0 τ _ (by omega) rfl hj (fun s hs => (ht s hs).to ⟨fun y => Or.inl y, fun y => ?_⟩)
      rcases y with y | ⟨-, -, y⟩
      · exact y
      · omega
  -- the plans
  have mark : ∀ (w p : Nat) (τ : nw_S) (x3 : Int), p + w = nd_P D → x3 = p → (∀ j, j ≠ 19 → τ j = σ j) → (∀ s, s < 2 ^ nd_r D → nc_tr (τ 19 s) (∃ q, q < p ∧ nd_kt D q = s)) → nw_V G 61 (nw_pv Φ) 30 [some (.inl 0), some (.inr (nd_M D 1 : Int)), some (.inr ((2 ^ nd_r D : Nat) : Int)), some (.inr x3), none, none] [] τ := by
    intro w
    induction w with
    | zero =>
      intro p τ x3 hp h3 hj ht
      subst h3
      have hp : p = nd_P D := by omega
      subst hp
      have e : τ 1 1 = nd_P D := by rw [hj 1 (by decide)]; exact eP
      exact bk61_30 ⟨by omega, by omega, fun _ => down (nd_r D) 0 τ _ (by omega) rfl hj (fun s hs => (ht s hs).to nd_pr_0.symm), fun q => by omega⟩
    | succ w ih =>
      intro p τ x3 hp h3 hj ht
      subst h3
      have e : τ 1 1 = nd_P D := by rw [hj 1 (by decide)]; exact eP
      have eB : τ 14 p = nd_B D p := by rw [hj 14 (by decide)]; exact hC.2.2.2.2 p (by omega)
      have hB := nd_B_lt hw p
      have hk := nd_kt_lt hw p
      have ek : nw_and (nd_M D 1 : Int) (nw_xor (nd_B D p : Int) (-1)) = (nd_kt D p : Nat) := nb_dif hM hB.2
      refine bk61_30 ⟨by omega, by omega, fun q => by omega, fun _ => ?_⟩
      simp only [Int.toNat_natCast]
      rw [eB, ek]
      simp only [Int.toNat_natCast]
      refine ⟨by omega, by omega, ih (p + 1) _ _ (by omega) (by omega) (fun j a => by rw [nu_ne a]; exact hj j a) (fun s hs => ?_)⟩
      by_cases y : s = nd_kt D p
      · subst y
        rw [nu_at]
        exact Or.inl ⟨rfl, p, by omega, rfl⟩
      · rw [nu_nj y]
        refine (ht s hs).to ⟨fun ⟨q, a, b⟩ => ⟨q, by omega, b⟩, fun ⟨q, a, b⟩ => ⟨q, ?_, b⟩⟩
        have : q ≠ p := fun z => y (by rw [← b, z])
        omega
  have clear : ∀ (w i : Nat) (τ : nw_S) (x3 : Int), i + w = 2 ^ nd_r D → x3 = i → (∀ j, j ≠ 19 → τ j = σ j) → (∀ s, s < i → τ 19 s = 0) → nw_V G 61 (nw_pv Φ) 10 [some (.inl 0), some (.inr (nd_M D 1 : Int)), some (.inr ((2 ^ nd_r D : Nat) : Int)), some (.inr x3), none, none] [] τ := by
    intro w
    induction w with
    | zero =>
      intro i τ x3 hi h3 hj hz
      subst h3
      exact bk61_10 ⟨by omega, by omega, fun _ => mark (nd_P D) 0 τ _ (by omega) rfl hj (fun s hs => Or.inr ⟨hz s (by omega), fun ⟨q, a, _⟩ => by omega⟩), fun q => by omega⟩
    | succ w ih =>
      intro i τ x3 hi h3 hj hz
      subst h3
      refine bk61_10 ⟨by omega, by omega, fun q => by omega, fun _ => ⟨by omega, ?_⟩⟩
      simp only [Int.toNat_natCast]
      refine ih (i + 1) _ _ (by omega) (by omega) (fun j a => by rw [nu_ne a]; exact hj j a) (fun s hs => ?_)
      by_cases y : s = i
      · subst y; exact nu_at
      · rw [nu_nj y]; exact hz s (by omega)
  exact nw_TV_of (by decide) (Nat.le_of_ble_eq_true rfl) (bk61_0 (c14 eR (by omega) (clear (2 ^ nd_r D) 0 σ _ (by omega) rfl (fun _ _ => rfl) (fun s hs => by omega))))
/-- isClash, isRelaxation of the class: for sets of hard rules -/
theorem c63 {Φ : Int → nw_S → Prop} (hw : nd_wf D) (hU : nc_ru D σ) (hO : nc_po D σ) {x1 : Int} {s : Nat} (h1 : x1 = s) (hs : s < 2 ^ nd_r D) (hsub : s &&& nd_M D 1 = s) (ht : nd_cl D s → Φ 1 σ) (hf : ¬ nd_cl D s → Φ 0 σ) : nw_TI G 63 [.inl 0, .inr x1] σ Φ := by
  subst h1
  have hR := hw.2.2.2.2.1
  have hpw := nd_pw hR
  have eR := hU.1
  have key : ¬ nd_can D s → ∀ (w r : Nat) (x2 : Int), r + w = nd_r D → x2 = r → (∀ i, i < r → s.testBit i = true → nd_can D (s ^^^ 2 ^ i)) → nw_V G 63 (nw_pi Φ) 13 [some (.inl 0), some (.inr (s : Int)), some (.inr x2), none] [] σ := by
    intro hno w
    induction w with
    | zero =>
      intro r x2 hr h2 hc
      subst h2
      refine bk63_13 ⟨by omega, by omega, fun _ => ht ⟨hsub, hno, fun i hi hb => hc i ?_ hb⟩, fun q => by omega⟩
      rcases Nat.lt_or_ge i (nd_r D) with y | y
      · omega
      · rw [ns_hi hs y] at hb; cases hb
    | succ w ih =>
      intro r x2 hr h2 hc
      subst h2
      have h2r : 2 ^ r < 2 ^ nd_r D := Nat.pow_lt_pow_right (by decide) (by omega)
      have hx := ns_flip_lt (r := r) hs (by omega)
      have hO2 := hO (s ^^^ 2 ^ r) hx
      refine bk63_13 ⟨by omega, by omega, fun q => by omega, fun _ => ⟨nb_rand _ _, ?_⟩⟩
      rw [nb_shl (by omega), nb_and (by omega) (by omega), nb_xor (by omega) (by omega)]
      simp only [Int.toNat_natCast]
      refine ⟨fun q => ih (r + 1) _ (by omega) (by omega) (fun i hi hb => ?_), fun q => ⟨by omega, nc_tr.r hO2, fun q2 => ih (r + 1) _ (by omega) (by omega) (fun i hi hb => ?_), fun q2 => hf (fun z => ?_)⟩⟩
      · by_cases y : i = r
        · subst y
          have : s &&& 2 ^ i = 0 := by omega
          rw [(ns_and2 s i).mp this] at hb; cases hb
        · exact hc i (by omega) hb
      · by_cases y : i = r
        · subst y; exact nc_tr.t hO2 q2
        · exact hc i (by omega) hb
      · have hb : s.testBit r = true := by
          cases hb : s.testBit r with
          | true => rfl
          | false => exact absurd (by rw [(ns_and2 s r).mpr hb]; rfl) q
        exact nc_tr.f hO2 q2 (z.2.2 r (by omega) hb)
  refine nw_TI_of (by decide) (Nat.le_of_ble_eq_true rfl) (bk63_0 ?_)
  simp only [Int.toNat_natCast]
  refine ⟨by omega, nc_tr.r (hO s hs), fun q => key (nc_tr.f (hO s hs) q) (nd_r D) 0 _ (by omega) rfl (fun i hi => by omega), fun q => hf (fun z => z.2.1 (nc_tr.t (hO s hs) q))⟩
theorem c64 {Φ : Int → nw_S → Prop} (hw : nd_wf D) (hU : nc_ru D σ) (hO : nc_po D σ) {x1 x2 : Int} {s : Nat} (h1 : x1 = s) (h2 : x2 = nd_M D 1) (hs : s < 2 ^ nd_r D) (hsub : s &&& nd_M D 1 = s) (ht : nd_rx D s → Φ 1 σ) (hf : ¬ nd_rx D s → Φ 0 σ) : nw_TI G 64 [.inl 0, .inr x1, .inr x2] σ Φ := by
  subst h1
  subst h2
  have hR := hw.2.2.2.2.1
  have hpw := nd_pw hR
  have eR := hU.1
  have hM := nd_M_lt hw 1
  have hd : nd_M D 1 &&& (4095 ^^^ s) < 2 ^ nd_r D := Nat.lt_of_le_of_lt Nat.and_le_left hM.1
  have key : nd_can D (nd_M D 1 &&& (4095 ^^^ s)) → ∀ (w r : Nat) (x4 : Int), r + w = nd_r D → x4 = r → (∀ i, i < r → s.testBit i = true → ¬ nd_can D ((nd_M D 1 &&& (4095 ^^^ s)) ||| 2 ^ i)) → nw_V G 64 (nw_pi Φ) 20 [some (.inl 0), some (.inr (s : Int)), some (.inr (nd_M D 1 : Int)), some (.inr ((nd_M D 1 &&& (4095 ^^^ s) : Nat) : Int)), some (.inr x4), none] [] σ := by
    intro hyes w
    induction w with
    | zero =>
      intro r x4 hr h4 hc
      subst h4
      refine bk64_20 ⟨by omega, by omega, fun _ => ht ⟨hsub, hyes, fun i hi hb => hc i ?_ hb⟩, fun q => by omega⟩
      rcases Nat.lt_or_ge i (nd_r D) with y | y
      · omega
      · rw [ns_hi hs y] at hb; cases hb
    | succ w ih =>
      intro r x4 hr h4 hc
      subst h4
      have h2r : 2 ^ r < 2 ^ nd_r D := Nat.pow_lt_pow_right (by decide) (by omega)
      have ho : (nd_M D 1 &&& (4095 ^^^ s)) ||| 2 ^ r < 2 ^ nd_r D := Nat.or_lt_two_pow hd h2r
      have hO2 := hO _ ho
      refine bk64_20 ⟨by omega, by omega, fun q => by omega, fun _ => ⟨nb_rand _ _, ?_⟩⟩
      rw [nb_shl (by omega), nb_and (by omega) (by omega), nb_or (by omega) (by omega)]
      simp only [Int.toNat_natCast]
      refine ⟨fun q => ih (r + 1) _ (by omega) (by omega) (fun i hi hb => ?_), fun q => ⟨by omega, nc_tr.r hO2, fun q2 => ih (r + 1) _ (by omega) (by omega) (fun i hi hb => ?_), fun q2 => hf (fun z => ?_)⟩⟩
      · by_cases y : i = r
        · subst y
          have : s &&& 2 ^ i = 0 := by omega
          rw [(ns_and2 s i).mp this] at hb; cases hb
        · exact hc i (by omega) hb
      · by_cases y : i = r
        · subst y; exact nc_tr.f hO2 q2
        · exact hc i (by omega) hb
      · have hb : s.testBit r = true := by
          cases hb : s.testBit r with
          | true => rfl
          | false => exact absurd (by rw [(ns_and2 s r).mpr hb]; rfl) q
        exact z.2.2 r (by omega) hb (nc_tr.t hO2 q2)
  refine nw_TI_of (by decide) (Nat.le_of_ble_eq_true rfl) (bk64_0 ?_)
  rw [nb_dif hM.2 (by omega)]
  simp only [Int.toNat_natCast]
  exact ⟨by omega, nc_tr.r (hO _ hd), fun q => key (nc_tr.t (hO _ hd) q) (nd_r D) 0 _ (by omega) rfl (fun i hi => by omega), fun q => hf (fun z => nc_tr.f (hO _ hd) q z.2.1)⟩
/-- Integer.bitCount -/
def nd_bj (x0 : Int) : Int := (nw_and (((nw_and (((nw_and (x0 - (nw_and (nw_ushr x0 1) 1431655765)) 858993459) + (nw_and (nw_ushr (x0 - (nw_and (nw_ushr x0 1) 1431655765)) 2) 858993459)) + (nw_ushr ((nw_and (x0 - (nw_and (nw_ushr x0 1) 1431655765)) 858993459) + (nw_and (nw_ushr (x0 - (nw_and (nw_ushr x0 1) 1431655765)) 2) 858993459)) 4)) 252645135) + (nw_ushr (nw_and (((nw_and (x0 - (nw_and (nw_ushr x0 1) 1431655765)) 858993459) + (nw_and (nw_ushr (x0 - (nw_and (nw_ushr x0 1) 1431655765)) 2) 858993459)) + (nw_ushr ((nw_and (x0 - (nw_and (nw_ushr x0 1) 1431655765)) 858993459) + (nw_and (nw_ushr (x0 - (nw_and (nw_ushr x0 1) 1431655765)) 2) 858993459)) 4)) 252645135) 8)) + (nw_ushr ((nw_and (((nw_and (x0 - (nw_and (nw_ushr x0 1) 1431655765)) 858993459) + (nw_and (nw_ushr (x0 - (nw_and (nw_ushr x0 1) 1431655765)) 2) 858993459)) + (nw_ushr ((nw_and (x0 - (nw_and (nw_ushr x0 1) 1431655765)) 858993459) + (nw_and (nw_ushr (x0 - (nw_and (nw_ushr x0 1) 1431655765)) 2) 858993459)) 4)) 252645135) + (nw_ushr (nw_and (((nw_and (x0 - (nw_and (nw_ushr x0 1) 1431655765)) 858993459) + (nw_and (nw_ushr (x0 - (nw_and (nw_ushr x0 1) 1431655765)) 2) 858993459)) + (nw_ushr ((nw_and (x0 - (nw_and (nw_ushr x0 1) 1431655765)) 858993459) + (nw_and (nw_ushr (x0 - (nw_and (nw_ushr x0 1) 1431655765)) 2) 858993459)) 4)) 252645135) 8)) 16)) 63)
theorem nd_bj_ok : (List.range 4096).all (fun s => decide (nd_bj (s : Int) = nd_bc s 12)) = true := by decide +kernel
theorem c115 {Φ : Int → nw_S → Prop} {x0 : Int} {s : Nat} (h0 : x0 = s) (hs : s < 4096) (h : Φ (nd_bc s 12) σ) : nw_TI G 115 [.inr x0] σ Φ := by
  subst h0
  refine nw_TI_of (by decide) (Nat.le_of_ble_eq_true rfl) (bk115_0 ?_)
  have e := List.all_eq_true.mp nd_bj_ok s (List.mem_range.mpr hs)
  have e : nd_bj (s : Int) = nd_bc s 12 := by simpa using e
  rw [← e] at h
  exact h
theorem nd_bc_in (s : Nat) : ∀ r, 0 ≤ nd_bc s r ∧ nd_bc s r ≤ r
  | 0 => by simp [nd_bc]
  | r + 1 => by
    have := nd_bc_in s r
    unfold nd_bc
    split <;> omega
end NC16
end
section
section NC17
variable {G : nw_G} {σ : nw_S} {D : nd_D}
theorem nd_cv_t {V : Nat → Prop} {N : Nat} (h : V N) : nd_cv V (N + 1) = nd_cv V N + 1 := by
  show nd_cv V N + @ite Int (V N) (Classical.propDecidable _) 1 0 = _
  rw [if_pos h]
theorem nd_cv_f {V : Nat → Prop} {N : Nat} (h : ¬ V N) : nd_cv V (N + 1) = nd_cv V N := by
  show nd_cv V N + @ite Int (V N) (Classical.propDecidable _) 1 0 = _
  rw [if_neg h, Int.add_zero]
theorem nc_L.skip {V : Nat → Prop} {key : Nat → Int} {N k : Nat} (h : nc_L V key N k σ) (hV : ¬ V N) : nc_L V key (N + 1) k σ := by
  obtain ⟨n, a1, a2, a3, a4, a5, a6⟩ := h
  refine ⟨n, a1, a2, by rw [nd_cv_f hV]; exact a3, fun i hi => ?_, a5, fun s hs hv => ?_⟩
  · obtain ⟨s, b1, b2, b3, b4⟩ := a4 i hi
    exact ⟨s, b1, by omega, b3, b4⟩
  · have : s ≠ N := fun z => hV (z ▸ hv)
    exact a6 s (by omega) hv
/-- a set put in at place a -/
theorem nc_L.ins {V : Nat → Prop} {key : Nat → Int} {N k n a : Nat} {u : nw_S} (e0 : σ k 0 = n) (h924 : n + 1 ≤ 924) (hcv : (n : Int) = nd_cv V N) (hm : ∀ i, i < n → ∃ s : Nat, σ (k + 1) i = s ∧ s < N ∧ V s ∧ σ (k + 2) i = key s) (hs : ∀ i j, i < j → j < n → nd_lt key (σ (k + 1) i).toNat (σ (k + 1) j).toNat) (hc : ∀ s, s < N → V s → ∃ i, i < n ∧ σ (k + 1) i = s) (hV : V N) (ha : a ≤ n) (hend : 0 < a → σ (k + 2) (a - 1) ≤ key N)
    (hgt : ∀ i, a ≤ i → i < n → key N < σ (k + 2) i) (u0 : u k 0 = (n : Int) + 1) (u1 : ∀ i, i < a → u (k + 1) i = σ (k + 1) i ∧ u (k + 2) i = σ (k + 2) i) (u2 : u (k + 1) a = N ∧ u (k + 2) a = key N) (u3 : ∀ i, a ≤ i → i < n → u (k + 1) (i + 1) = σ (k + 1) i ∧ u (k + 2) (i + 1) = σ (k + 2) i) : nc_L V key (N + 1) k u := by
  have kk : ∀ i, i < n → σ (k + 2) i = key (σ (k + 1) i).toNat := fun i hi => by
    obtain ⟨s, b1, b2, b3, b4⟩ := hm i hi
    rw [b1, Int.toNat_natCast]; exact b4
  have mono : ∀ i j, i < j → j < n → σ (k + 2) i ≤ σ (k + 2) j := fun i j hij hj => by
    rw [kk i (by omega), kk j hj]
    rcases hs i j hij hj with y | y
    · omega
    · omega
  refine ⟨n + 1, by rw [u0]; push_cast; rfl, h924, by rw [nd_cv_t hV]; push_cast; omega, fun i hi => ?_, fun i j hij hj => ?_, fun s hsN hv => ?_⟩
  · rcases Nat.lt_trichotomy i a with q | q | q
    · obtain ⟨s, b1, b2, b3, b4⟩ := hm i (by omega)
      exact ⟨s, by rw [(u1 i q).1]; exact b1, by omega, b3, by rw [(u1 i q).2]; exact b4⟩
    · subst q
      exact ⟨N, u2.1, by omega, hV, u2.2⟩
    · obtain ⟨j, rfl⟩ : ∃ j, i = j + 1 := ⟨i - 1, by omega⟩
      obtain ⟨s, b1, b2, b3, b4⟩ := hm j (by omega)
      have := u3 j (by omega) (by omega)
      exact ⟨s, by rw [this.1]; exact b1, by omega, b3, by rw [this.2]; exact b4⟩
  · rcases Nat.lt_trichotomy i a with q | q | q
    · rw [(u1 i q).1]
      rcases Nat.lt_trichotomy j a with y | y | y
      · rw [(u1 j y).1]; exact hs i j hij (by omega)
      · subst y
        rw [u2.1, Int.toNat_natCast]
        obtain ⟨s, b1, b2, b3, b4⟩ := hm i (by omega)
        rw [b1, Int.toNat_natCast]
        have h1 := hend (by omega)
        have h2 : σ (k + 2) i ≤ σ (k + 2) (j - 1) := by
          rcases Nat.lt_or_ge i (j - 1) with z | z
          · exact mono i (j - 1) z (by omega)
          · have : i = j - 1 := by omega
            subst this
            omega
        rw [b4] at h2
        unfold nd_lt
        omega
      · obtain ⟨l, rfl⟩ : ∃ l, j = l + 1 := ⟨j - 1, by omega⟩
        rw [(u3 l (by omega) (by omega)).1]
        exact hs i l (by omega) (by omega)
    · subst q
      obtain ⟨l, rfl⟩ : ∃ l, j = l + 1 := ⟨j - 1, by omega⟩
      rw [(u3 l (by omega) (by omega)).1, u2.1, Int.toNat_natCast]
      left
      rw [← kk l (by omega)]
      exact hgt l (by omega) (by omega)
    · obtain ⟨l, rfl⟩ : ∃ l, j = l + 1 := ⟨j - 1, by omega⟩
      obtain ⟨m, rfl⟩ : ∃ m, i = m + 1 := ⟨i - 1, by omega⟩
      rw [(u3 l (by omega) (by omega)).1, (u3 m (by omega) (by omega)).1]
      exact hs m l (by omega) (by omega)
  · by_cases q : s = N
    · subst q
      exact ⟨a, by omega, u2.1⟩
    · obtain ⟨i, hi, e⟩ := hc s (by omega) hv
      rcases Nat.lt_or_ge i a with y | y
      · exact ⟨i, by omega, by rw [(u1 i y).1]; exact e⟩
      · exact ⟨i + 1, by omega, by rw [(u3 i y hi).1]; exact e⟩
theorem nc_L.cap {V : Nat → Prop} {N k n : Nat} (hV : ∀ s t, V s → V t → s &&& t = s → s = t) (hm : ∀ i, i < n → ∃ s : Nat, σ (k + 1) i = s ∧ s < N ∧ V s) (hd : ∀ i j, i < j → j < n → σ (k + 1) i ≠ σ (k + 1) j) (hVN : V N) (hN : N < 4096) : n + 1 ≤ 924 := by
  refine ns_924 hV (g := fun i => if i < n then (σ (k + 1) i).toNat else N) (fun i hi => ?_) (fun i j hij hj => ?_)
  · try dsimp only
    split
    · rename_i q
      obtain ⟨s, b1, b2, b3⟩ := hm i q
      rw [b1, Int.toNat_natCast]
      exact ⟨b3, by omega⟩
    · exact ⟨hVN, hN⟩
  · try dsimp only
    rw [if_pos (show i < n by omega)]
    obtain ⟨s, b1, b2, b3⟩ := hm i (by omega)
    rw [b1, Int.toNat_natCast]
    split
    · rename_i q
      obtain ⟨t, d1, d2, d3⟩ := hm j q
      rw [d1, Int.toNat_natCast]
      intro e
      apply hd i j hij q
      rw [b1, d1, e]
    · omega
theorem nd_lt_ne {key : Nat → Int} {a b : Nat} (h : nd_lt key a b) : a ≠ b := by
  rintro rfl
  rcases h with h | h
  · omega
  · omega
theorem c9a {Φ : nw_S → Prop} (h : Φ (nw_up σ 20 0 0)) : nw_TV G 9 [.inl 20] σ Φ := nw_TV_of (by decide) (Nat.le_of_ble_eq_true rfl) (bk9_0a h)
theorem c10a {Φ : nw_S → Prop} {V : Nat → Prop} {key : Nat → Int} {N : Nat} (hL : nc_L V key N 20 σ) (hA : ∀ s t, V s → V t → s &&& t = s → s = t) (hV : V N) (hN : N < 4096) (hk : ∀ s, nw_r (key s)) {x1 x2 : Int} (h1 : x1 = N) (h2 : x2 = key N) (h : ∀ u : nw_S, (∀ j, j ≠ 20 → j ≠ 21 → j ≠ 22 → u j = σ j) → nc_L V key (N + 1) 20 u → Φ u) : nw_TV G 10 [.inl 20, .inr x1, .inr x2] σ Φ := by
  subst h1
  subst h2
  obtain ⟨n, e0, l0, hcv, hm, hs, hc⟩ := hL
  have cap : n + 1 ≤ 924 := nc_L.cap (k := 20) hA (fun i hi => by obtain ⟨s, b1, b2, b3, -⟩ := hm i hi; exact ⟨s, b1, b2, b3⟩) (fun i j hij hj e => nd_lt_ne (hs i j hij hj) (by rw [e])) hV hN
  have kr : ∀ i, i < n → nw_r (σ 22 i) := fun i hi => by
    obtain ⟨s, b1, b2, b3, b4⟩ := hm i hi
    have b4 : σ 22 i = key s := b4
    rw [b4]; exact hk s
  have fin : ∀ (a : Nat) (τ : nw_S), a ≤ n → (0 < a → σ 22 (a - 1) ≤ key N) → (∀ j, j ≠ 21 → j ≠ 22 → τ j = σ j) → (∀ i, i < a → τ 21 i = σ 21 i ∧ τ 22 i = σ 22 i) → (∀ i, a ≤ i → i < n → τ 21 (i + 1) = σ 21 i ∧ τ 22 (i + 1) = σ 22 i ∧ key N < σ 22 i) → Φ (nw_up (nw_up (nw_up τ 21 a N) 22 a (key N)) 20 0 (τ 20 0 + 1)) := by
    intro a τ ha hend hj hlo hhi
    refine h _ (fun j b0 b1 b2 => by rw [nu_ne b0, nu_ne b2, nu_ne b1]; exact hj j b1 b2) ?_
    refine nc_L.ins (σ := σ) (k := 20) e0 cap hcv hm hs hc hV ha hend (fun i q q2 => (hhi i q q2).2.2) ?_ (fun i q => ⟨?_, ?_⟩) ⟨?_, ?_⟩ (fun i q q2 => ⟨?_, ?_⟩)
    · rw [nu_at, hj 20 (by decide) (by decide), e0]
    · show nw_up _ 20 0 _ 21 i = σ 21 i
      rw [nu_ne (by decide), nu_ne (by decide), nu_nj (by omega)]; exact (hlo i q).1
    · show nw_up _ 20 0 _ 22 i = σ 22 i
      rw [nu_ne (by decide), nu_nj (by omega), nu_ne (by decide)]; exact (hlo i q).2
    · show nw_up _ 20 0 _ 21 a = _
      rw [nu_ne (by decide), nu_ne (by decide), nu_at]
    · show nw_up _ 20 0 _ 22 a = _
      rw [nu_ne (by decide), nu_at]
    · show nw_up _ 20 0 _ 21 (i + 1) = σ 21 i
      rw [nu_ne (by decide), nu_ne (by decide), nu_nj (by omega)]; exact (hhi i q q2).1
    · show nw_up _ 20 0 _ 22 (i + 1) = σ 22 i
      rw [nu_ne (by decide), nu_nj (by omega), nu_ne (by decide)]; exact (hhi i q q2).2.1
  have key' : ∀ (a : Nat) (τ : nw_S) (x3 : Int), x3 = a → a ≤ n → (∀ j, j ≠ 21 → j ≠ 22 → τ j = σ j) → (∀ i, i < a → τ 21 i = σ 21 i ∧ τ 22 i = σ 22 i) → (∀ i, a ≤ i → i < n → τ 21 (i + 1) = σ 21 i ∧ τ 22 (i + 1) = σ 22 i ∧ key N < σ 22 i) → nw_V G 10 (nw_pv Φ) 16 [some (.inl 20), some (.inr (N : Int)), some (.inr (key N)), some (.inr x3)] [] τ := by
    intro a
    induction a with
    | zero =>
      intro τ x3 h3 ha hj hlo hhi
      subst h3
      refine bk10_16a ⟨by decide, fun _ => ⟨by decide, ?_⟩, fun q => absurd q (by decide)⟩
      exact fin 0 τ ha (fun z => by omega) hj hlo hhi
    | succ a ih =>
      intro τ x3 h3 ha hj hlo hhi
      subst h3
      have ei : (((a + 1 : Nat) : Int) - 1).toNat = a := by omega
      have e2 := hlo a (by omega)
      refine bk10_16a ⟨by omega, fun q => by omega, fun _ => ?_⟩
      rw [ei, e2.1, e2.2, Int.toNat_natCast]
      refine ⟨by omega, kr a (by omega), hk N, fun q => ⟨by omega, fin (a + 1) τ ha (fun _ => q) hj hlo hhi⟩, fun q => ⟨by omega, ih _ _ (by omega) (by omega) (fun j b1 b2 => by rw [nu_ne b2, nu_ne b1]; exact hj j b1 b2) (fun i hi => ?_) (fun i q1 q2 => ?_)⟩⟩
      · refine ⟨?_, ?_⟩
        · rw [nu_ne (by decide), nu_nj (by omega)]; exact (hlo i (by omega)).1
        · rw [nu_nj (by omega), nu_ne (by decide)]; exact (hlo i (by omega)).2
      · by_cases y : i = a
        · subst y
          exact ⟨by rw [nu_ne (by decide), nu_at], by rw [nu_at], q⟩
        · have := hhi i (by omega) q2
          exact ⟨by rw [nu_ne (by decide), nu_nj (by omega)]; exact this.1, by rw [nu_nj (by omega), nu_ne (by decide)]; exact this.2.1, this.2.2⟩
  refine nw_TV_of (by decide) (Nat.le_of_ble_eq_true rfl) (bk10_0a ?_)
  rw [e0]
  exact ⟨by omega, fun _ => key' n σ _ rfl (Nat.le_refl _) (fun _ _ _ => rfl) (fun _ _ => ⟨rfl, rfl⟩) (fun i q q2 => by omega), fun q => by omega⟩
theorem c11a {Φ : Int → nw_S → Prop} {V : Nat → Prop} {key : Nat → Int} {N n : Nat} (e0 : σ 20 0 = n) (l0 : n ≤ 924) {x1 : Int} (h1 : nw_r x1) (h : Φ (if 0 ≤ x1 ∧ x1 < n then σ 21 x1.toNat else -1000004) σ) : nw_TI G 11 [.inl 20, .inr x1] σ Φ := by
  refine nw_TI_of (by decide) (Nat.le_of_ble_eq_true rfl) (bk11_0a ?_)
  rw [e0]
  refine ⟨h1, fun q => ?_, fun q => ⟨by omega, fun q2 => ⟨by omega, ?_⟩, fun q2 => ?_⟩⟩
  · rw [if_neg (by omega)] at h; exact h
  · rw [if_pos ⟨q, q2⟩] at h; exact h
  · rw [if_neg (by omega)] at h; exact h
theorem c9b {Φ : nw_S → Prop} (h : Φ (nw_up σ 23 0 0)) : nw_TV G 9 [.inl 23] σ Φ := nw_TV_of (by decide) (Nat.le_of_ble_eq_true rfl) (bk9_0b h)
theorem c10b {Φ : nw_S → Prop} {V : Nat → Prop} {key : Nat → Int} {N : Nat} (hL : nc_L V key N 23 σ) (hA : ∀ s t, V s → V t → s &&& t = s → s = t) (hV : V N) (hN : N < 4096) (hk : ∀ s, nw_r (key s)) {x1 x2 : Int} (h1 : x1 = N) (h2 : x2 = key N) (h : ∀ u : nw_S, (∀ j, j ≠ 23 → j ≠ 24 → j ≠ 25 → u j = σ j) → nc_L V key (N + 1) 23 u → Φ u) : nw_TV G 10 [.inl 23, .inr x1, .inr x2] σ Φ := by
  subst h1
  subst h2
  obtain ⟨n, e0, l0, hcv, hm, hs, hc⟩ := hL
  have cap : n + 1 ≤ 924 := nc_L.cap (k := 23) hA (fun i hi => by obtain ⟨s, b1, b2, b3, -⟩ := hm i hi; exact ⟨s, b1, b2, b3⟩) (fun i j hij hj e => nd_lt_ne (hs i j hij hj) (by rw [e])) hV hN
  have kr : ∀ i, i < n → nw_r (σ 25 i) := fun i hi => by
    obtain ⟨s, b1, b2, b3, b4⟩ := hm i hi
    have b4 : σ 25 i = key s := b4
    rw [b4]; exact hk s
  have fin : ∀ (a : Nat) (τ : nw_S), a ≤ n → (0 < a → σ 25 (a - 1) ≤ key N) → (∀ j, j ≠ 24 → j ≠ 25 → τ j = σ j) → (∀ i, i < a → τ 24 i = σ 24 i ∧ τ 25 i = σ 25 i) → (∀ i, a ≤ i → i < n → τ 24 (i + 1) = σ 24 i ∧ τ 25 (i + 1) = σ 25 i ∧ key N < σ 25 i) → Φ (nw_up (nw_up (nw_up τ 24 a N) 25 a (key N)) 23 0 (τ 23 0 + 1)) := by
    intro a τ ha hend hj hlo hhi
    refine h _ (fun j b0 b1 b2 => by rw [nu_ne b0, nu_ne b2, nu_ne b1]; exact hj j b1 b2) ?_
    refine nc_L.ins (σ := σ) (k := 23) e0 cap hcv hm hs hc hV ha hend (fun i q q2 => (hhi i q q2).2.2) ?_ (fun i q => ⟨?_, ?_⟩) ⟨?_, ?_⟩ (fun i q q2 => ⟨?_, ?_⟩)
    · rw [nu_at, hj 23 (by decide) (by decide), e0]
    · show nw_up _ 23 0 _ 24 i = σ 24 i
      rw [nu_ne (by decide), nu_ne (by decide), nu_nj (by omega)]; exact (hlo i q).1
    · show nw_up _ 23 0 _ 25 i = σ 25 i
      rw [nu_ne (by decide), nu_nj (by omega), nu_ne (by decide)]; exact (hlo i q).2
    · show nw_up _ 23 0 _ 24 a = _
      rw [nu_ne (by decide), nu_ne (by decide), nu_at]
    · show nw_up _ 23 0 _ 25 a = _
      rw [nu_ne (by decide), nu_at]
    · show nw_up _ 23 0 _ 24 (i + 1) = σ 24 i
      rw [nu_ne (by decide), nu_ne (by decide), nu_nj (by omega)]; exact (hhi i q q2).1
    · show nw_up _ 23 0 _ 25 (i + 1) = σ 25 i
      rw [nu_ne (by decide), nu_nj (by omega), nu_ne (by decide)]; exact (hhi i q q2).2.1
  have key' : ∀ (a : Nat) (τ : nw_S) (x3 : Int), x3 = a → a ≤ n → (∀ j, j ≠ 24 → j ≠ 25 → τ j = σ j) → (∀ i, i < a → τ 24 i = σ 24 i ∧ τ 25 i = σ 25 i) → (∀ i, a ≤ i → i < n → τ 24 (i + 1) = σ 24 i ∧ τ 25 (i + 1) = σ 25 i ∧ key N < σ 25 i) → nw_V G 10 (nw_pv Φ) 16 [some (.inl 23), some (.inr (N : Int)), some (.inr (key N)), some (.inr x3)] [] τ := by
    intro a
    induction a with
    | zero =>
      intro τ x3 h3 ha hj hlo hhi
      subst h3
      refine bk10_16b ⟨by decide, fun _ => ⟨by decide, ?_⟩, fun q => absurd q (by decide)⟩
      exact fin 0 τ ha (fun z => by omega) hj hlo hhi
    | succ a ih =>
      intro τ x3 h3 ha hj hlo hhi
      subst h3
      have ei : (((a + 1 : Nat) : Int) - 1).toNat = a := by omega
      have e2 := hlo a (by omega)
      refine bk10_16b ⟨by omega, fun q => by omega, fun _ => ?_⟩
      rw [ei, e2.1, e2.2, Int.toNat_natCast]
      refine ⟨by omega, kr a (by omega), hk N, fun q => ⟨by omega, fin (a + 1) τ ha (fun _ => q) hj hlo hhi⟩, fun q => ⟨by omega, ih _ _ (by omega) (by omega) (fun j b1 b2 => by rw [nu_ne b2, nu_ne b1]; exact hj j b1 b2) (fun i hi => ?_) (fun i q1 q2 => ?_)⟩⟩
      · refine ⟨?_, ?_⟩
        · rw [nu_ne (by decide), nu_nj (by omega)]; exact (hlo i (by omega)).1
        · rw [nu_nj (by omega), nu_ne (by decide)]; exact (hlo i (by omega)).2
      · by_cases y : i = a
        · subst y
          exact ⟨by rw [nu_ne (by decide), nu_at], by rw [nu_at], q⟩
        · have := hhi i (by omega) q2
          exact ⟨by rw [nu_ne (by decide), nu_nj (by omega)]; exact this.1, by rw [nu_nj (by omega), nu_ne (by decide)]; exact this.2.1, this.2.2⟩
  refine nw_TV_of (by decide) (Nat.le_of_ble_eq_true rfl) (bk10_0b ?_)
  rw [e0]
  exact ⟨by omega, fun _ => key' n σ _ rfl (Nat.le_refl _) (fun _ _ _ => rfl) (fun _ _ => ⟨rfl, rfl⟩) (fun i q q2 => by omega), fun q => by omega⟩
theorem c11b {Φ : Int → nw_S → Prop} {V : Nat → Prop} {key : Nat → Int} {N n : Nat} (e0 : σ 23 0 = n) (l0 : n ≤ 924) {x1 : Int} (h1 : nw_r x1) (h : Φ (if 0 ≤ x1 ∧ x1 < n then σ 24 x1.toNat else -1000004) σ) : nw_TI G 11 [.inl 23, .inr x1] σ Φ := by
  refine nw_TI_of (by decide) (Nat.le_of_ble_eq_true rfl) (bk11_0b ?_)
  rw [e0]
  refine ⟨h1, fun q => ?_, fun q => ⟨by omega, fun q2 => ⟨by omega, ?_⟩, fun q2 => ?_⟩⟩
  · rw [if_neg (by omega)] at h; exact h
  · rw [if_pos ⟨q, q2⟩] at h; exact h
  · rw [if_neg (by omega)] at h; exact h
/-- listSets -/
theorem c62 {Φ : nw_S → Prop} (hw : nd_wf D) (hC : nc_al D σ) (hO : nc_po D σ) {x1 : Int} (h1 : x1 = nd_M D 1) (h : ∀ u : nw_S, (∀ j, j < 20 ∨ 26 ≤ j → u j = σ j) → nc_L (nd_cl D) (fun s => nd_bc s 12) (2 ^ nd_r D) 20 u → nc_L (nd_rx D) (nd_C D) (2 ^ nd_r D) 23 u → Φ u) : nw_TV G 62 [.inl 0, .inr x1] σ Φ := by
  subst h1
  have hR := hw.2.2.2.2.1
  have hpw := nd_pw hR
  have hp0 : 0 < 2 ^ nd_r D := Nat.two_pow_pos _
  have hM := (nd_M_lt hw 1).2
  have eR : σ 6 0 = nd_r D := hC.2.1.1
  have kc : ∀ s, nw_r (nd_C D s) := fun s => by have := nd_C_le hw s; omega
  have kb : ∀ s, nw_r (nd_bc s 12) := fun s => by have := nd_bc_in s 12; omega
  have key : ∀ (w s : Nat) (τ : nw_S) (x3 : Int), s + w = 2 ^ nd_r D → x3 = s → (∀ j, j < 20 ∨ 26 ≤ j → τ j = σ j) → nc_L (nd_cl D) (fun s => nd_bc s 12) s 20 τ → nc_L (nd_rx D) (nd_C D) s 23 τ → nw_V G 62 (nw_pv Φ) 24 [some (.inl 0), some (.inr (nd_M D 1 : Int)), some (.inr ((2 ^ nd_r D : Nat) : Int)), some (.inr x3)] [] τ := by
    intro w
    induction w with
    | zero =>
      intro s τ x3 hs h3 hj hA hB
      subst h3
      have hs : s = 2 ^ nd_r D := by omega
      subst hs
      exact bk62_24 ⟨by omega, by omega, fun _ => h τ hj hA hB, fun q => by omega⟩
    | succ w ih =>
      intro s τ x3 hs h3 hj hA hB
      subst h3
      have hsl : s < 2 ^ nd_r D := by omega
      have keep : ∀ u : nw_S, (∀ j, j < 20 ∨ 26 ≤ j → u j = σ j) → nc_ru D u ∧ nc_po D u ∧ u 13 s = nd_C D s := by
        intro u hu
        refine ⟨⟨by rw [hu 6 (by omega)]; exact eR, fun i r hi hr => by rw [hu (7 + i) (by omega)]; exact hC.2.1.2 i r hi hr⟩, fun t ht => by rw [hu 19 (by omega)]; exact hO t ht, ?_⟩
        rw [hu 13 (by omega)]; exact hC.2.2.2.1 s hsl
      have hsub : (nw_and (s : Int) (nw_xor (nd_M D 1 : Int) (-1)) = 0) ↔ s &&& nd_M D 1 = s := by
        rw [nb_dif (by omega) hM, ← ns_difz (by omega)]
        omega
      -- the relaxation of a set, and on
      have rel : ∀ u : nw_S, (∀ j, j < 20 ∨ 26 ≤ j → u j = σ j) → s &&& nd_M D 1 = s → nc_L (nd_cl D) (fun s => nd_bc s 12) (s + 1) 20 u → nc_L (nd_rx D) (nd_C D) s 23 u → nw_TI G 64 [.inl 0, .inr (s : Int), .inr (nd_M D 1 : Int)] u (fun v2 u2 => (nw_r v2) ∧ ((v2 = 0 → nw_V G 62 (nw_pv Φ) 24 [some (.inl 0), some (.inr (nd_M D 1 : Int)), some (.inr ((2 ^ nd_r D : Nat) : Int)), some (.inr ((s : Int) + 1))] [] u2) ∧ (v2 ≠ 0 → (0 ≤ (s : Int) ∧ (s : Int) < 4096) ∧ (nw_TV G 10 [.inl 23, .inr (s : Int), .inr (u2 13 s)] u2 (fun u3 => nw_V G 62 (nw_pv Φ) 24 [some (.inl 0), some (.inr (nd_M D 1 : Int)), some (.inr ((2 ^ nd_r D : Nat) : Int)), some (.inr ((s : Int) + 1))] [] u3))))) := by
        intro u hu hss hA2 hB2
        obtain ⟨k1, k2, k3⟩ := keep u hu
        refine c64 hw k1 k2 rfl rfl hsl hss (fun z => ?_) (fun z => ?_)
        · refine ⟨by decide, fun y => absurd y (by decide), fun _ => ⟨by omega, c10b hB2 (fun a b => nd_rx_anti hw) z (by omega) kc rfl k3 (fun u3 hu3 hB3 => ih (s + 1) u3 _ (by omega) (by omega) (fun j q => ?_) ?_ hB3)⟩⟩
          · rw [hu3 j (by omega) (by omega) (by omega)]; exact hu j q
          · exact hA2.to (hu3 20 (by decide) (by decide) (by decide)) (hu3 21 (by decide) (by decide) (by decide)) (hu3 22 (by decide) (by decide) (by decide))
        · exact ⟨by decide, fun _ => ih (s + 1) u _ (by omega) (by omega) hu hA2 (hB2.skip z), fun y => absurd rfl y⟩
      refine bk62_24 ⟨by omega, by omega, fun q => by omega, fun _ => ⟨nb_rand _ _, fun q => ?_, fun q => ?_⟩⟩
      · have hno : ¬ s &&& nd_M D 1 = s := fun z => q (hsub.mpr z)
        exact ih (s + 1) τ _ (by omega) (by omega) hj (hA.skip (fun z => hno z.1)) (hB.skip (fun z => hno z.1))
      · have hss := hsub.mp q
        obtain ⟨k1, k2, k3⟩ := keep τ hj
        simp only [Int.toNat_natCast]
        refine c63 hw k1 k2 rfl hsl hss (fun z => ?_) (fun z => ?_)
        · refine ⟨by decide, fun y => absurd y (by decide), fun _ => c115 rfl (by omega) (c10a hA (fun a b => nd_cl_anti hw) z (by omega) kb rfl rfl (fun u hu hA2 => rel u (fun j q => ?_) hss hA2 ?_))⟩
          · rw [hu j (by omega) (by omega) (by omega)]; exact hj j q
          · exact hB.to (hu 23 (by decide) (by decide) (by decide)) (hu 24 (by decide) (by decide) (by decide)) (hu 25 (by decide) (by decide) (by decide))
        · exact ⟨by decide, fun _ => rel τ hj hss (hA.skip z) hB, fun y => absurd rfl y⟩
  refine nw_TV_of (by decide) (Nat.le_of_ble_eq_true rfl) (bk62_0 (c9a (c9b (c14 (by rw [nu_ne (by decide), nu_ne (by decide)]; exact eR) (by omega) (key (2 ^ nd_r D) 0 _ _ (by omega) rfl (fun j q => by rw [nu_ne (by omega), nu_ne (by omega)]) ⟨0, ?_, by omega, rfl, fun i hi => by omega, fun i j _ hj => by omega, fun s hs => by omega⟩ ⟨0, ?_, by omega, rfl, fun i hi => by omega, fun i j _ hj => by omega, fun s hs => by omega⟩)))))
  · rw [nu_ne (by decide), nu_at]; rfl
  · rw [nu_at]; rfl
/-- findSets -/
theorem c60 {Φ : nw_S → Prop} (hw : nd_wf D) (hC : nc_st D σ) (h : ∀ u : nw_S, nc_st D u → nc_li D u → (∀ k, 26 ≤ k → u k = σ k) → Φ u) : nw_TV G 60 [.inl 0] σ Φ := by
  refine nw_TV_of (by decide) (Nat.le_of_ble_eq_true rfl) (bk60_0 ⟨?_, fun q => ?_, fun q => ?_⟩)
  · rcases hC.2.2 with e | e
    · rw [e]; decide
    · rw [e.1]; decide
  · rcases hC.2.2 with e | e
    · rw [e] at q; exact absurd q (by decide)
    · exact h σ hC e.2 (fun _ _ => rfl)
  · refine c17 hw hC.1.2.1 (by decide) (c61 hw hC.1 rfl (fun u1 e1 hO => ?_))
    have hC1 : nc_al D u1 := hC.1.to (fun k a b => e1 k (by omega))
    refine c62 hw hC1 hO rfl (fun u2 e2 hA hB => ?_)
    have hli : nc_li D (nw_up u2 0 11 0) := by
      refine ⟨fun s hs => ?_, hA.to (nu_ne (by decide)) (nu_ne (by decide)) (nu_ne (by decide)), hB.to (nu_ne (by decide)) (nu_ne (by decide)) (nu_ne (by decide))⟩
      rw [nu_ne (by decide), e2 19 (by omega)]
      exact hO s hs
    refine h _ ⟨?_, ?_, Or.inr ⟨nu_at, hli⟩⟩ hli (fun k q => ?_)
    · exact hC1.to (fun k a b => by rw [nu_ne (by omega), e2 k (by omega)])
    · rcases hC.2.1 with y | y
      · exact Or.inl (by rw [nu_nj (by decide), e2 0 (by omega), e1 0 (by omega)]; exact y)
      · exact Or.inr ⟨by rw [nu_nj (by decide), e2 0 (by omega), e1 0 (by omega)]; exact y.1, y.2.to (by rw [nu_ne (by decide), e2 16 (by omega), e1 16 (by omega)])⟩
    · rw [nu_ne (by omega), e2 k (by omega), e1 k (by omega)]
/-! an enumeration of sets in their order; the answers -/
def nd_en (V : Nat → Prop) (key : Nat → Int) (g : Nat → Nat) (n : Nat) : Prop := (n : Int) = nd_cv V 4096 ∧ n ≤ 924 ∧ (∀ i, i < n → V (g i) ∧ g i < 4096) ∧ (∀ i j, i < j → j < n → nd_lt key (g i) (g j)) ∧ ∀ s, s < 4096 → V s → ∃ i, i < n ∧ g i = s
theorem nd_cv_up {V : Nat → Prop} {N : Nat} (hV : ∀ s, N ≤ s → ¬ V s) : ∀ M, N ≤ M → nd_cv V M = nd_cv V N
  | 0, h => by rw [show N = 0 from by omega]
  | M + 1, h => by
    by_cases q : N = M + 1
    · rw [q]
    · rw [nd_cv_f (hV M (by omega))]
      exact nd_cv_up hV M (by omega)
theorem ns_lim (hw : nd_wf D) {s : Nat} (h : s &&& nd_M D 1 = s) : s < 2 ^ nd_r D := Nat.lt_of_le_of_lt (by rw [← h]; exact Nat.and_le_right) (nd_M_lt hw 1).1
theorem nc_L.en (hw : nd_wf D) {V : Nat → Prop} {key : Nat → Int} {k : Nat} (hV : ∀ s, V s → s &&& nd_M D 1 = s) (h : nc_L V key (2 ^ nd_r D) k σ) : ∃ (g : Nat → Nat) (n : Nat), nd_en V key g n ∧ σ k 0 = n ∧ ∀ i, i < n → σ (k + 1) i = g i := by
  have hpw := nd_pw hw.2.2.2.2.1
  obtain ⟨n, a1, a2, a3, a4, a5, a6⟩ := h
  refine ⟨fun i => (σ (k + 1) i).toNat, n, ⟨?_, a2, fun i hi => ?_, a5, fun s hs hv => ?_⟩, a1, fun i hi => ?_⟩
  · rw [nd_cv_up (N := 2 ^ nd_r D) (fun s hs hv => by have := ns_lim hw (hV s hv); omega) 4096 hpw]
    exact a3
  · obtain ⟨s, b1, b2, b3, -⟩ := a4 i hi
    dsimp only
    rw [b1, Int.toNat_natCast]
    exact ⟨b3, by omega⟩
  · obtain ⟨i, hi, e⟩ := a6 s (ns_lim hw (hV s hv)) hv
    exact ⟨i, hi, by dsimp only; rw [e, Int.toNat_natCast]⟩
  · obtain ⟨s, b1, -⟩ := a4 i hi
    dsimp only
    rw [b1, Int.toNat_natCast]
def nd_at (g : Nat → Nat) (n : Nat) (i : Int) : Int := if 0 ≤ i ∧ i < n then (g i.toNat : Int) else -1000004
theorem c44 {Φ : Int → nw_S → Prop} (hw : nd_wf D) (hC : nc_st D σ) {x1 : Int} (h1 : nw_r x1) (h : ∀ (u : nw_S) (g : Nat → Nat) (n : Nat), nd_en (nd_cl D) (fun s => nd_bc s 12) g n → nc_st D u → (∀ k, 26 ≤ k → u k = σ k) → Φ (nd_at g n x1) u) : nw_TI G 44 [.inl 0, .inr x1] σ Φ := by
  refine nw_TI_of (by decide) (Nat.le_of_ble_eq_true rfl) (bk44_0 (c60 hw hC (fun u hu hli hk => ?_)))
  obtain ⟨g, n, hen, e0, e1⟩ := hli.2.1.en hw (fun s hs => hs.1)
  refine c11a (V := nd_cl D) (key := fun s => nd_bc s 12) (N := 0) e0 hen.2.1 h1 ?_
  have := h u g n hen hu hk
  unfold nd_at at this
  by_cases q : 0 ≤ x1 ∧ x1 < n
  · rw [if_pos q] at this ⊢
    have e := e1 x1.toNat (by omega)
    have e : u 21 x1.toNat = g x1.toNat := e
    rw [e]; exact this
  · rw [if_neg q] at this ⊢; exact this
theorem c45 {Φ : Int → nw_S → Prop} (hw : nd_wf D) (hC : nc_st D σ) {x1 : Int} (h1 : nw_r x1) (h : ∀ (u : nw_S) (g : Nat → Nat) (n : Nat), nd_en (nd_rx D) (nd_C D) g n → nc_st D u → (∀ k, 26 ≤ k → u k = σ k) → Φ (nd_at g n x1) u) : nw_TI G 45 [.inl 0, .inr x1] σ Φ := by
  refine nw_TI_of (by decide) (Nat.le_of_ble_eq_true rfl) (bk45_0 (c60 hw hC (fun u hu hli hk => ?_)))
  obtain ⟨g, n, hen, e0, e1⟩ := hli.2.2.en hw (fun s hs => hs.1)
  refine c11b (V := nd_rx D) (key := nd_C D) (N := 0) e0 hen.2.1 h1 ?_
  have := h u g n hen hu hk
  unfold nd_at at this
  by_cases q : 0 ≤ x1 ∧ x1 < n
  · rw [if_pos q] at this ⊢
    have e := e1 x1.toNat (by omega)
    have e : u 24 x1.toNat = g x1.toNat := e
    rw [e]; exact this
  · rw [if_neg q] at this ⊢; exact this
/-- count -/
noncomputable def nq_count (D : nd_D) (a : Int) : Int := if a = 0 then nd_n D else if a = 1 then nd_r D else if a = 2 then nd_P D else if a = 3 then (nd_tw D).1 else if a = 4 then (nd_tw D).2.2.2 else if a = 5 then nd_cv (nd_cl D) 4096 else if a = 6 then nd_cv (nd_rx D) 4096 else -1000002
theorem nq_count_5 : nq_count D 5 = nd_cv (nd_cl D) 4096 := by
  unfold nq_count
  rw [if_neg (by decide), if_neg (by decide), if_neg (by decide), if_neg (by decide), if_neg (by decide), if_pos rfl]
theorem nq_count_6 : nq_count D 6 = nd_cv (nd_rx D) 4096 := by
  unfold nq_count
  rw [if_neg (by decide), if_neg (by decide), if_neg (by decide), if_neg (by decide), if_neg (by decide), if_neg (by decide), if_pos rfl]
theorem c33 {Φ : Int → nw_S → Prop} (hw : nd_wf D) (hC : nc_st D σ) {x1 : Int} (h1 : nw_r x1) (h : ∀ u : nw_S, nc_st D u → (∀ k, 26 ≤ k → u k = σ k) → Φ (nq_count D x1) u) : nw_TI G 33 [.inl 0, .inr x1] σ Φ := by
  refine nw_TI_of (by decide) (Nat.le_of_ble_eq_true rfl) (bk33_0 ⟨h1, fun q => ?_, fun q => ?_, fun q => ?_, fun q => ?_, fun q => ?_, fun q => ?_, fun q => ?_, fun q => ?_⟩)
  · rw [show nq_count D x1 = -1000002 from by unfold nq_count; rw [if_neg (by omega), if_neg (by omega), if_neg (by omega), if_neg (by omega), if_neg (by omega), if_neg (by omega), if_neg (by omega)]] at h
    exact h σ hC (fun _ _ => rfl)
  · subst q; rw [hC.1.1.1]; exact h σ hC (fun _ _ => rfl)
  · subst q; rw [hC.1.2.1.1]; exact h σ hC (fun _ _ => rfl)
  · subst q; rw [hC.1.1.2.1]; exact h σ hC (fun _ _ => rfl)
  · subst q
    refine c58 hw hC.1 hC.2.1 (fun u e e0 e5 ht => ?_)
    rw [ht.1]
    exact h u (hC.whole e e0 e5 ht) (fun k q => e k (by omega) (by omega))
  · subst q
    refine c58 hw hC.1 hC.2.1 (fun u e e0 e5 ht => ?_)
    rw [ht.2.2.2]
    exact h u (hC.whole e e0 e5 ht) (fun k q => e k (by omega) (by omega))
  · subst q
    refine c60 hw hC (fun u hu hli hk => ?_)
    obtain ⟨g, n, hen, e0, -⟩ := hli.2.1.en hw (fun s hs => hs.1)
    rw [e0, hen.1, ← nq_count_5]
    exact h u hu hk
  · subst q
    refine c60 hw hC (fun u hu hli hk => ?_)
    obtain ⟨g, n, hen, e0, -⟩ := hli.2.2.en hw (fun s hs => hs.1)
    rw [e0, hen.1, ← nq_count_6]
    exact h u hu hk
/-- clash: one rule after the other -/
noncomputable def nd_lf (D : nd_D) : Nat → Nat
  | 0 => nd_M D 1
  | r + 1 => @ite Nat (nd_can D (nd_lf D r &&& (4095 ^^^ 2 ^ r))) (Classical.propDecidable _) (nd_lf D r) (nd_lf D r &&& (4095 ^^^ 2 ^ r))
theorem nd_lf_t {r : Nat} (h : nd_can D (nd_lf D r &&& (4095 ^^^ 2 ^ r))) : nd_lf D (r + 1) = nd_lf D r := if_pos h
theorem nd_lf_f {r : Nat} (h : ¬ nd_can D (nd_lf D r &&& (4095 ^^^ 2 ^ r))) : nd_lf D (r + 1) = nd_lf D r &&& (4095 ^^^ 2 ^ r) := if_neg h
theorem nd_lf_le : ∀ r, nd_lf D r ≤ nd_M D 1
  | 0 => Nat.le_refl _
  | r + 1 => by
    have ih := nd_lf_le r
    rcases Classical.em (nd_can D (nd_lf D r &&& (4095 ^^^ 2 ^ r))) with q | q
    · rw [nd_lf_t q]; exact ih
    · rw [nd_lf_f q]; exact Nat.le_trans Nat.and_le_left ih
noncomputable def nq_clash (D : nd_D) : Int := nd_it (nd_can D (nd_M D 1)) 0 (nd_lf D (nd_r D))
theorem c43 {Φ : Int → nw_S → Prop} (hw : nd_wf D) (hC : nc_st D σ) (h : ∀ u : nw_S, nc_st D u → (∀ k, 26 ≤ k → u k = σ k) → Φ (nq_clash D) u) : nw_TI G 43 [.inl 0] σ Φ := by
  have hR := hw.2.2.2.2.1
  have hM := nd_M_lt hw 1
  have hpw := nd_pw hR
  refine nw_TI_of (by decide) (Nat.le_of_ble_eq_true rfl) (bk43_0 (c60 hw hC (fun u hu hli hk => c17 hw hu.1.2.1 (by decide) ?_)))
  have hO := hli.1
  simp only [Int.toNat_natCast]
  have key : ∀ (w r : Nat) (x1 x2 : Int), ¬ nd_can D (nd_M D 1) → r + w = nd_r D → x2 = r → x1 = (nd_lf D r : Nat) → nw_V G 43 (nw_pi Φ) 26 [some (.inl 0), some (.inr x1), some (.inr x2), none] [] u := by
    intro w
    induction w with
    | zero =>
      intro r x1 x2 hno hr h2 h1
      subst h2
      subst h1
      have hr : r = nd_r D := by omega
      subst hr
      have e := hu.1.2.1.1
      rw [nq_clash, nd_it_f hno] at h
      exact bk43_26 ⟨by omega, by omega, fun _ => h u hu hk, fun q => by omega⟩
    | succ w ih =>
      intro r x1 x2 hno hr h2 h1
      subst h2
      subst h1
      have e := hu.1.2.1.1
      have h2r := nd_bit (r := r) (by omega)
      have hlf := nd_lf_le (D := D) r
      have hd : nd_lf D r &&& (4095 ^^^ 2 ^ r) < 2 ^ nd_r D := Nat.lt_of_le_of_lt (Nat.le_trans Nat.and_le_left hlf) hM.1
      refine bk43_26 ⟨by omega, by omega, fun q => by omega, fun _ => ?_⟩
      rw [nb_shl (by omega), nb_dif (by omega) h2r]
      simp only [Int.toNat_natCast]
      exact ⟨by omega, nc_tr.r (hO _ hd), fun q => ih (r + 1) _ _ hno (by omega) (by omega) (by rw [nd_lf_t (nc_tr.t (hO _ hd) q)]), fun q => ih (r + 1) _ _ hno (by omega) (by omega) (by rw [nd_lf_f (nc_tr.f (hO _ hd) q)])⟩
  refine ⟨by omega, nc_tr.r (hO _ hM.1), fun q => key (nd_r D) 0 _ _ (nc_tr.f (hO _ hM.1) q) (by omega) rfl rfl, fun q => ?_⟩
  rw [nq_clash, nd_it_t (nc_tr.t (hO _ hM.1) q)] at h
  exact h u hu hk
end NC17
end
section
section NC18
variable {G : nw_G} {σ : nw_S} {D : nd_D}
def nm_ca (D : nd_D) (u : nw_S) : Prop := ∀ s, s < 4096 → nc_tr (u 36 s) (nd_can D s)
theorem nm_st.c (hC : nm_st D σ) {u : nw_S} (e : ∀ k, k ≠ 36 → u k = σ k) : nm_st D u := by
  have e26 := e 26 (by decide)
  refine ⟨hC.1.to (fun k _ _ _ => e k (by omega)) (by rw [e26]) (by rw [e26]), ?_⟩
  rcases hC.2 with q | q
  · exact Or.inl (by rw [e26]; exact q)
  · exact Or.inr ⟨by rw [e26]; exact q.1, by rw [e 35 (by decide)]; exact q.2⟩
theorem ns_up {s r : Nat} (h : s.testBit r = false) : s < s ^^^ 2 ^ r := by
  have e : s ^^^ 2 ^ r = s ||| 2 ^ r := by
    apply Nat.eq_of_testBit_eq
    intro i
    rw [ns_flip, Nat.testBit_or, Nat.testBit_two_pow]
    by_cases q : r = i
    · subst q; simp [h]
    · simp [q]
  rw [e]
  rcases Nat.lt_or_eq_of_le (Nat.left_le_or (n := s) (m := 2 ^ r)) with y | y
  · exact y
  · rw [y, Nat.testBit_or, Nat.testBit_two_pow] at h
    simp at h
theorem ns_rm1 {s r : Nat} (hs : s < 4096) (h : s.testBit r = true) : s &&& (4095 ^^^ 2 ^ r) = s ^^^ 2 ^ r := by
  apply Nat.eq_of_testBit_eq
  intro i
  rw [ns_dif, ns_flip, Nat.testBit_two_pow]
  by_cases q : r = i
  · subst q
    have : r < 12 := by
      rcases Nat.lt_or_ge r 12 with y | y
      · exact y
      · rw [ns_hi (n := 12) hs y] at h; cases h
    simp [h, this]
  · rcases Nat.lt_or_ge i 12 with y | y
    · simp [q, y]
    · rw [ns_hi (n := 12) hs y]; simp [q]
theorem ns_rm0 {s r : Nat} (hs : s < 4096) (h : s.testBit r = false) : s &&& (4095 ^^^ 2 ^ r) = s := by
  apply Nat.eq_of_testBit_eq
  intro i
  rw [ns_dif, Nat.testBit_two_pow]
  by_cases q : r = i
  · subst q; simp [h]
  · rcases Nat.lt_or_ge i 12 with y | y
    · simp [q, y]
    · rw [ns_hi (n := 12) hs y]; simp
/-- findCan -/
theorem c89 {Φ : nw_S → Prop} (hw : nd_wf D) (hC : nm_st D σ) (h : ∀ u : nw_S, nm_st D u → nm_ca D u → (∀ k, k < 26 → u k = σ k) → Φ u) : nw_TV G 89 [.inl 26] σ Φ := by
  have hP := nd_P_le hw
  have hM := (nd_M_lt hw 1).2
  refine nw_TV_of (by decide) (Nat.le_of_ble_eq_true rfl) (bk89_0 (c81 hw hC (fun u0 hM0 hF0 hj0 _ => c82 hw hM0 (by decide) ?_)))
  have hS0 : nm_st D u0 := ⟨hM0, Or.inr hF0⟩
  -- down from the largest set
  have down : ∀ (i : Nat) (τ : nw_S) (x2 x3 : Int), x3 = (i : Int) - 1 → i ≤ 4096 → (∀ k, k ≠ 36 → τ k = u0 k) → (∀ u, u < 4096 → (τ 36 u = 0 ∨ τ 36 u = 1) ∧ (τ 36 u = 1 → nd_can D u)) → (∀ p, p < nd_P D → τ 36 (nd_kt D p) = 1) → (∀ u r, u < 4096 → r < 12 → u.testBit r = false → nd_can D (u ^^^ 2 ^ r) → i ≤ u ^^^ 2 ^ r → τ 36 u = 1) → nw_V G 89 (nw_pv Φ) 70 [some (.inl 26), some (.inr (nd_M D 1 : Int)), some (.inr x2), some (.inr x3), none] [] τ := by
    intro i
    induction i with
    | zero =>
      intro τ x2 x3 h3 hi hj hsnd hkt hcmp
      refine bk89_70 ⟨by omega, fun _ => h τ (hS0.c hj) (fun s hs => ?_) (fun k q => by rw [hj k (by omega)]; exact hj0 k q), fun q => by omega⟩
      rcases Classical.em (nd_can D s) with y | y
      · refine Or.inl ⟨?_, y⟩
        obtain ⟨p, hp, hsub⟩ := id y
        rcases Classical.em (s = nd_kt D p) with z | z
        · rw [z]; exact hkt p hp
        · obtain ⟨r, r1, r2⟩ := ns_more hsub z
          have hr12 : r < 12 := by
            rcases Nat.lt_or_ge r 12 with w | w
            · exact w
            · rw [ns_hi (n := 12) (nd_kt_lt hw p).2 w] at r1; cases r1
          refine hcmp s r hs hr12 r2 ⟨p, hp, ns_sub.mpr (fun j hjj => ?_)⟩ (Nat.zero_le _)
          rw [ns_flip] at hjj
          by_cases w : r = j
          · subst w; exact r1
          · simp [w] at hjj; exact ns_sub.mp hsub j hjj
      · refine Or.inr ⟨?_, y⟩
        rcases (hsnd s hs).1 with z | z
        · exact z
        · exact absurd ((hsnd s hs).2 z) y
    | succ i ih =>
      intro τ x2 x3 h3 hi hj hsnd hkt hcmp
      have h3 : x3 = (i : Int) := by omega
      subst h3
      have hil : i < 4096 := by omega
      have hti : nc_tr (τ 36 i) (nd_can D i) := by
        rcases Classical.em (nd_can D i) with y | y
        · refine Or.inl ⟨?_, y⟩
          obtain ⟨p, hp, hsub⟩ := id y
          rcases Classical.em (i = nd_kt D p) with z | z
          · rw [z]; exact hkt p hp
          · obtain ⟨r, r1, r2⟩ := ns_more hsub z
            have hr12 : r < 12 := by
              rcases Nat.lt_or_ge r 12 with w | w
              · exact w
              · rw [ns_hi (n := 12) (nd_kt_lt hw p).2 w] at r1; cases r1
            refine hcmp i r hil hr12 r2 ⟨p, hp, ns_sub.mpr (fun j hjj => ?_)⟩ (ns_up r2)
            rw [ns_flip] at hjj
            by_cases w : r = j
            · subst w; exact r1
            · simp [w] at hjj; exact ns_sub.mp hsub j hjj
        · refine Or.inr ⟨?_, y⟩
          rcases (hsnd i hil).1 with z | z
          · exact z
          · exact absurd ((hsnd i hil).2 z) y
      have inner : ∀ (w r : Nat) (τ : nw_S) (x4 : Int), r + w = 12 → x4 = r → (∀ k, k ≠ 36 → τ k = u0 k) → (∀ u, u < 4096 → (τ 36 u = 0 ∨ τ 36 u = 1) ∧ (τ 36 u = 1 → nd_can D u)) → (∀ p, p < nd_P D → τ 36 (nd_kt D p) = 1) → (∀ u r, u < 4096 → r < 12 → u.testBit r = false → nd_can D (u ^^^ 2 ^ r) → i + 1 ≤ u ^^^ 2 ^ r → τ 36 u = 1) → nc_tr (τ 36 i) (nd_can D i) → (nd_can D i → ∀ q, q < r → τ 36 (i &&& (4095 ^^^ 2 ^ q)) = 1) → nw_V G 89 (nw_pv Φ) 77 [some (.inl 26), some (.inr (nd_M D 1 : Int)), some (.inr x2), some (.inr (i : Int)), some (.inr x4)] [] τ := by
        intro w
        induction w with
        | zero =>
          intro r τ x4 hr h4 hj hsnd hkt hcmp hti hrm
          subst h4
          have hr : r = 12 := by omega
          subst hr
          refine bk89_77 ⟨by omega, fun _ => ih τ _ _ (by omega) (by omega) hj hsnd hkt (fun u q hu hq hb hc hle => ?_), fun q => by omega⟩
          rcases Nat.lt_or_ge i (u ^^^ 2 ^ q) with y | y
          · exact hcmp u q hu hq hb hc y
          · have he : u ^^^ 2 ^ q = i := by omega
            rw [he] at hc
            have := hrm hc q (by omega)
            rw [ns_rm1 hil (by rw [← he, ns_flip, hb]; simp), ← he, ns_flip2] at this
            exact this
        | succ w wh =>
          intro r τ x4 hr h4 hj hsnd hkt hcmp hti hrm
          subst h4
          have h2r := nd_bit (r := r) (by omega)
          have hdl : i &&& (4095 ^^^ 2 ^ r) < 4096 := Nat.lt_of_le_of_lt Nat.and_le_left hil
          refine bk89_77 ⟨by omega, fun q => by omega, fun _ => ?_⟩
          simp only [Int.toNat_natCast]
          refine ⟨by omega, hti.r, fun q => ih τ _ _ (by omega) (by omega) hj hsnd hkt (fun u q2 hu hq hb hc hle => ?_), fun q => ?_⟩
          · rcases Nat.lt_or_ge i (u ^^^ 2 ^ q2) with y | y
            · exact hcmp u q2 hu hq hb hc y
            · have he : u ^^^ 2 ^ q2 = i := by omega
              rw [he] at hc
              exact absurd hc (hti.f q)
          · have hci := hti.t q
            rw [nb_shl (by omega), nb_dif hil h2r]
            simp only [Int.toNat_natCast]
            have hup : ∀ u, τ 36 u = 1 → nw_up τ 36 (i &&& (4095 ^^^ 2 ^ r)) 1 36 u = 1 := fun u hu => by
              by_cases y : u = i &&& (4095 ^^^ 2 ^ r)
              · subst y; exact nu_at
              · rw [nu_nj y]; exact hu
            refine ⟨by omega, wh (r + 1) _ _ (by omega) (by omega) (fun k y => by rw [nu_ne y]; exact hj k y) (fun u hu => ?_) (fun p hp => hup _ (hkt p hp)) (fun u q2 a b c d e => hup _ (hcmp u q2 a b c d e)) ?_ (fun _ q2 hq2 => ?_)⟩
            · by_cases y : u = i &&& (4095 ^^^ 2 ^ r)
              · subst y
                rw [nu_at]
                refine ⟨Or.inr rfl, fun _ => nd_can_mono hci (fun j hjj => ?_)⟩
                rw [ns_dif] at hjj
                simp at hjj
                exact hjj.1
              · rw [nu_nj y]; exact hsnd u hu
            · exact Or.inl ⟨hup _ (by rcases hti with z | z; exact z.1; exact absurd z.1 q), hci⟩
            · by_cases y : q2 = r
              · subst y; exact nu_at
              · exact hup _ (hrm hci q2 (by omega))
      exact bk89_70 ⟨by omega, fun q => by omega, fun _ => inner 12 0 τ _ (by omega) rfl hj hsnd hkt hcmp hti (fun _ q hq => by omega)⟩
  have mark : ∀ (w p : Nat) (τ : nw_S) (x3 : Int), p + w = nd_P D → x3 = p → (∀ k, k ≠ 36 → τ k = u0 k) → (∀ u, u < 4096 → (τ 36 u = 0 ∨ τ 36 u = 1) ∧ (τ 36 u = 1 → nd_can D u)) → (∀ q, q < p → τ 36 (nd_kt D q) = 1) → nw_V G 89 (nw_pv Φ) 39 [some (.inl 26), some (.inr (nd_M D 1 : Int)), some (.inr (nd_P D : Int)), some (.inr x3), none] [] τ := by
    intro w
    induction w with
    | zero =>
      intro p τ x3 hp h3 hj hsnd hkt
      subst h3
      have hp : p = nd_P D := by omega
      subst hp
      refine bk89_39 ⟨by omega, by omega, fun _ => down 4096 τ _ _ rfl (Nat.le_refl _) hj hsnd hkt (fun u r hu hr hb hc hle => ?_), fun q => by omega⟩
      have := ns_flip_lt (n := 12) hu hr
      omega
    | succ w ih =>
      intro p τ x3 hp h3 hj hsnd hkt
      subst h3
      have eB : τ 35 p = nd_B D p := by rw [hj 35 (by decide)]; exact hF0.2 p (by omega)
      have hB := nd_B_lt hw p
      have hk := nd_kt_lt hw p
      have ek : nw_and (nd_M D 1 : Int) (nw_xor (nd_B D p : Int) (-1)) = (nd_kt D p : Nat) := nb_dif hM hB.2
      refine bk89_39 ⟨by omega, by omega, fun q => by omega, fun _ => ?_⟩
      simp only [Int.toNat_natCast]
      rw [eB, ek]
      simp only [Int.toNat_natCast]
      refine ⟨by omega, by omega, ih (p + 1) _ _ (by omega) (by omega) (fun k y => by rw [nu_ne y]; exact hj k y) (fun u hu => ?_) (fun q hq => ?_)⟩
      · by_cases y : u = nd_kt D p
        · subst y
          rw [nu_at]
          exact ⟨Or.inr rfl, fun _ => ⟨p, by omega, Nat.and_self _⟩⟩
        · rw [nu_nj y]; exact hsnd u hu
      · by_cases y : nd_kt D q = nd_kt D p
        · rw [y]; exact nu_at
        · rw [nu_nj y]
          have : q ≠ p := fun z => y (by rw [z])
          exact hkt q (by omega)
  have clear : ∀ (w i : Nat) (τ : nw_S) (x2 : Int), i + w = 4096 → x2 = i → (∀ k, k ≠ 36 → τ k = u0 k) → (∀ s, s < i → τ 36 s = 0) → nw_V G 89 (nw_pv Φ) 12 [some (.inl 26), some (.inr (nd_M D 1 : Int)), some (.inr x2), none, none] [] τ := by
    intro w
    induction w with
    | zero =>
      intro i τ x2 hi h2 hj hz
      subst h2
      have hT := hS0.c hj
      exact bk89_12 ⟨by omega, fun _ => c77 hw hT.1 (mark (nd_P D) 0 τ _ (by omega) rfl hj (fun u hu => ⟨Or.inl (hz u (by omega)), fun y => by rw [hz u (by omega)] at y; exact absurd y (by decide)⟩) (fun q hq => by omega)), fun q => by omega⟩
    | succ w ih =>
      intro i τ x2 hi h2 hj hz
      subst h2
      refine bk89_12 ⟨by omega, fun q => by omega, fun _ => ⟨by omega, ?_⟩⟩
      simp only [Int.toNat_natCast]
      refine ih (i + 1) _ _ (by omega) (by omega) (fun k y => by rw [nu_ne y]; exact hj k y) (fun s hs => ?_)
      by_cases y : s = i
      · subst y; exact nu_at
      · rw [nu_nj y]; exact hz s (by omega)
  exact clear 4096 0 u0 _ (by omega) rfl (fun _ _ => rfl) (fun s hs => by omega)
theorem c90 {Φ : Int → nw_S → Prop} (hw : nd_wf D) (hO : nm_ca D σ) {x1 x2 : Int} {s : Nat} (h1 : x1 = s) (h2 : x2 = nd_M D 1) (hs : s < 4096) (ht : nd_cl D s → Φ 1 σ) (hf : ¬ nd_cl D s → Φ 0 σ) : nw_TI G 90 [.inl 26, .inr x1, .inr x2] σ Φ := by
  subst h1
  subst h2
  have hM := (nd_M_lt hw 1).2
  have stop : ¬ nd_cl D s → ∀ x4 : Int, 0 ≤ x4 → x4 ≤ 12 → nw_V G 90 (nw_pi Φ) 26 [some (.inl 26), some (.inr (s : Int)), some (.inr (nd_M D 1 : Int)), some (.inr 0), some (.inr x4)] [] σ := fun hno x4 a b => bk90_26 ⟨by omega, fun _ => ⟨by decide, hf hno⟩, fun _ => ⟨by decide, fun _ => ⟨by decide, hf hno⟩, fun y => absurd rfl y⟩⟩
  have key : s &&& nd_M D 1 = s → ¬ nd_can D s → ∀ (w r : Nat) (x4 : Int), r + w = 12 → x4 = r → (∀ i, i < r → s.testBit i = true → nd_can D (s ^^^ 2 ^ i)) → nw_V G 90 (nw_pi Φ) 26 [some (.inl 26), some (.inr (s : Int)), some (.inr (nd_M D 1 : Int)), some (.inr 1), some (.inr x4)] [] σ := by
    intro hsub hno w
    induction w with
    | zero =>
      intro r x4 hr h4 hc
      subst h4
      exact bk90_26 ⟨by omega, fun _ => ⟨by decide, ht ⟨hsub, hno, fun i hi hb => hc i (by omega) hb⟩⟩, fun q => by omega⟩
    | succ w ih =>
      intro r x4 hr h4 hc
      subst h4
      have h2r := nd_bit (r := r) (by omega)
      have hx := ns_flip_lt (n := 12) (r := r) hs (by omega)
      have hO2 := hO (s ^^^ 2 ^ r) hx
      refine bk90_26 ⟨by omega, fun q => by omega, fun _ => ⟨by decide, fun q => absurd q (by decide), fun _ => ⟨nb_rand _ _, ?_⟩⟩⟩
      rw [nb_bit (by omega) (by omega), nb_shl (by omega), nb_xor (by omega) (by omega)]
      simp only [Int.toNat_natCast]
      cases hb : s.testBit r with
      | false => exact ⟨fun _ => ih (r + 1) _ (by omega) (by omega) (fun i hi hbi => by
          by_cases y : i = r
          · subst y; rw [hb] at hbi; cases hbi
          · exact hc i (by omega) hbi), fun q => absurd rfl q⟩
      | true => exact ⟨fun q => absurd q (by decide), fun _ => ⟨by omega, hO2.r, fun q => stop (fun z => hO2.f q (z.2.2 r (by omega) hb)) _ (by omega) (by omega), fun q => ih (r + 1) _ (by omega) (by omega) (fun i hi hbi => by
          by_cases y : i = r
          · subst y; exact hO2.t q
          · exact hc i (by omega) hbi)⟩⟩
  refine nw_TI_of (by decide) (Nat.le_of_ble_eq_true rfl) (bk90_0 ?_)
  have hsub : (nw_and (s : Int) (nw_xor (nd_M D 1 : Int) (-1)) = 0) ↔ s &&& nd_M D 1 = s := by
    rw [nb_dif hs hM, ← ns_difz hs]
    omega
  simp only [Int.toNat_natCast]
  exact ⟨nb_rand _ _, fun q => stop (fun z => q (hsub.mpr z.1)) _ (by decide) (by decide), fun q => ⟨by omega, (hO s hs).r, fun q2 => stop (fun z => z.2.1 ((hO s hs).t q2)) _ (by decide) (by decide), fun q2 => key (hsub.mp q) ((hO s hs).f q2) 12 0 _ (by omega) rfl (fun i hi => by omega)⟩⟩
theorem c91 {Φ : Int → nw_S → Prop} (hw : nd_wf D) (hO : nm_ca D σ) {x1 x2 : Int} {s : Nat} (h1 : x1 = s) (h2 : x2 = nd_M D 1) (hs : s < 4096) (ht : nd_rx D s → Φ 1 σ) (hf : ¬ nd_rx D s → Φ 0 σ) : nw_TI G 91 [.inl 26, .inr x1, .inr x2] σ Φ := by
  subst h1
  subst h2
  have hM := (nd_M_lt hw 1).2
  have hd : nd_M D 1 &&& (4095 ^^^ s) < 4096 := Nat.lt_of_le_of_lt Nat.and_le_left hM
  have stop : ¬ nd_rx D s → ∀ x4 : Int, 0 ≤ x4 → x4 ≤ 12 → nw_V G 91 (nw_pi Φ) 30 [some (.inl 26), some (.inr (s : Int)), some (.inr (nd_M D 1 : Int)), some (.inr 0), some (.inr x4)] [] σ := fun hno x4 a b => bk91_30 ⟨by omega, fun _ => ⟨by decide, hf hno⟩, fun _ => ⟨by decide, fun _ => ⟨by decide, hf hno⟩, fun y => absurd rfl y⟩⟩
  have key : s &&& nd_M D 1 = s → nd_can D (nd_M D 1 &&& (4095 ^^^ s)) → ∀ (w r : Nat) (x4 : Int), r + w = 12 → x4 = r → (∀ i, i < r → s.testBit i = true → ¬ nd_can D ((nd_M D 1 &&& (4095 ^^^ s)) ||| 2 ^ i)) → nw_V G 91 (nw_pi Φ) 30 [some (.inl 26), some (.inr (s : Int)), some (.inr (nd_M D 1 : Int)), some (.inr 1), some (.inr x4)] [] σ := by
    intro hsub hyes w
    induction w with
    | zero =>
      intro r x4 hr h4 hc
      subst h4
      exact bk91_30 ⟨by omega, fun _ => ⟨by decide, ht ⟨hsub, hyes, fun i hi hb => hc i (by omega) hb⟩⟩, fun q => by omega⟩
    | succ w ih =>
      intro r x4 hr h4 hc
      subst h4
      have h2r := nd_bit (r := r) (by omega)
      have hx : (nd_M D 1 &&& (4095 ^^^ s)) ||| 2 ^ r < 4096 := Nat.or_lt_two_pow (n := 12) hd h2r
      have hO2 := hO _ hx
      refine bk91_30 ⟨by omega, fun q => by omega, fun _ => ⟨by decide, fun q => absurd q (by decide), fun _ => ⟨nb_rand _ _, ?_⟩⟩⟩
      rw [nb_bit (by omega) (by omega), nb_shl (by omega), nb_dif hM hs, nb_or (by omega) (by omega)]
      simp only [Int.toNat_natCast]
      cases hb : s.testBit r with
      | false => exact ⟨fun _ => ih (r + 1) _ (by omega) (by omega) (fun i hi hbi => by
          by_cases y : i = r
          · subst y; rw [hb] at hbi; cases hbi
          · exact hc i (by omega) hbi), fun q => absurd rfl q⟩
      | true => exact ⟨fun q => absurd q (by decide), fun _ => ⟨by omega, hO2.r, fun q => stop (fun z => z.2.2 r (by omega) hb (hO2.t q)) _ (by omega) (by omega), fun q => ih (r + 1) _ (by omega) (by omega) (fun i hi hbi => by
          by_cases y : i = r
          · subst y; exact hO2.f q
          · exact hc i (by omega) hbi)⟩⟩
  refine nw_TI_of (by decide) (Nat.le_of_ble_eq_true rfl) (bk91_0 ?_)
  have hsub : (nw_and (s : Int) (nw_xor (nd_M D 1 : Int) (-1)) = 0) ↔ s &&& nd_M D 1 = s := by
    rw [nb_dif hs hM, ← ns_difz hs]
    omega
  refine ⟨nb_rand _ _, fun q => stop (fun z => q (hsub.mpr z.1)) _ (by decide) (by decide), fun q => ?_⟩
  rw [nb_dif hM hs]
  simp only [Int.toNat_natCast]
  exact ⟨by omega, (hO _ hd).r, fun q2 => stop (fun z => (hO _ hd).f q2 z.2.1) _ (by decide) (by decide), fun q2 => key (hsub.mp q) ((hO _ hd).t q2) 12 0 _ (by omega) rfl (fun i hi => by omega)⟩
theorem c92 {Φ : Int → nw_S → Prop} {x0 : Int} {s : Nat} (h0 : x0 = s) (hs : s < 4096) (h : Φ (nd_bc s 12) σ) : nw_TI G 92 [.inr x0] σ Φ := by
  subst h0
  have key : ∀ (w r : Nat) (x1 x2 : Int), r + w = 12 → x2 = r → x1 = nd_bc s r → nw_V G 92 (nw_pi Φ) 4 [some (.inr (s : Int)), some (.inr x1), some (.inr x2)] [] σ := by
    intro w
    induction w with
    | zero =>
      intro r x1 x2 hr h2 h1
      subst h2
      subst h1
      have hr : r = 12 := by omega
      subst hr
      exact bk92_4 ⟨by omega, fun _ => h, fun q => by omega⟩
    | succ w ih =>
      intro r x1 x2 hr h2 h1
      subst h2
      subst h1
      refine bk92_4 ⟨by omega, fun q => by omega, fun _ => ih (r + 1) _ _ (by omega) (by omega) ?_⟩
      rw [nb_bit (by omega) (by omega)]
      rfl
  exact nw_TI_of (by decide) (Nat.le_of_ble_eq_true rfl) (bk92_0 (key 12 0 _ _ (by omega) rfl rfl))
/-- the rank of a set: x2 1 its size, 0 its cost -/
def nd_rk (D : nd_D) (b : Int) (s : Nat) : Int := if b = 0 then nd_C D s else nd_bc s 12
theorem nd_rk_r (hw : nd_wf D) (b : Int) (s : Nat) : nw_r (nd_rk D b s) := by
  have h1 := nd_C_le hw s
  have h2 := nd_bc_in s 12
  unfold nd_rk
  split <;> omega
theorem c93 {Φ : Int → nw_S → Prop} (hw : nd_wf D) (hC : nm_st D σ) {x1 x2 : Int} {s : Nat} (h1 : x1 = s) (hs : s < 4096) (h2 : x2 = 0 ∨ x2 = 1) (h : Φ (nd_rk D x2 s) σ) : nw_TI G 93 [.inl 26, .inr x1, .inr x2] σ Φ := by
  refine nw_TI_of (by decide) (Nat.le_of_ble_eq_true rfl) (bk93_0 ⟨by omega, fun q => c83 hw hC.1 h1 hs ?_, fun q => c92 h1 hs ?_⟩)
  · rw [nd_rk, if_pos q] at h; exact h
  · rw [nd_rk, if_neg q] at h; exact h
/-- what is sought: x2 1 the clashes, 0 the relaxations -/
def nd_vv (D : nd_D) (b : Int) (s : Nat) : Prop := (b = 0 → nd_rx D s) ∧ (b ≠ 0 → nd_cl D s)
theorem nd_vv_0 : nd_vv D 0 = nd_rx D := by
  funext s
  exact propext ⟨fun z => z.1 rfl, fun z => ⟨fun _ => z, fun y => absurd rfl y⟩⟩
theorem nd_vv_1 : nd_vv D 1 = nd_cl D := by
  funext s
  exact propext ⟨fun z => z.2 (by decide), fun z => ⟨fun y => absurd y (by decide), fun _ => z⟩⟩
theorem c94 {Φ : Int → nw_S → Prop} (hw : nd_wf D) (hC : nm_st D σ) {x1 : Int} (h1 : x1 = 0 ∨ x1 = 1) (h : ∀ u : nw_S, nm_st D u → (∀ k, k < 26 → u k = σ k) → Φ (nd_cv (nd_vv D x1) 4096) u) : nw_TI G 94 [.inl 26, .inr x1] σ Φ := by
  refine nw_TI_of (by decide) (Nat.le_of_ble_eq_true rfl) (bk94_0 (c89 hw hC (fun u hu hO hk => c82 hw hu.1 (by decide) ?_)))
  have h := h u hu hk
  obtain ⟨N, hN⟩ : ∃ N : Nat, N = 4096 := ⟨_, rfl⟩
  rw [← hN] at h
  have key : ∀ (w s : Nat) (x3 x4 : Int), s + w = N → x4 = s → x3 = nd_cv (nd_vv D x1) s → nw_V G 94 (nw_pi Φ) 15 [some (.inl 26), some (.inr x1), some (.inr (nd_M D 1 : Int)), some (.inr x3), some (.inr x4)] [] u := by
    intro w
    induction w with
    | zero =>
      intro s x3 x4 hs h4 h3
      subst h4
      have hs : s = N := by omega
      rw [hs] at h3
      rw [← h3] at h
      exact bk94_15 ⟨by omega, fun _ => h, fun q => by omega⟩
    | succ w ih =>
      intro s x3 x4 hs h4 h3
      subst h4
      refine bk94_15 ⟨by omega, fun q => by omega, fun _ => ⟨by omega, fun q => c91 hw hO rfl rfl (by omega) (fun z => ?_) (fun z => ?_), fun q => c90 hw hO rfl rfl (by omega) (fun z => ?_) (fun z => ?_)⟩⟩
      · exact ⟨by decide, fun y => absurd y (by decide), fun _ => ih (s + 1) _ _ (by omega) (by omega) (by rw [nd_cv_t (show nd_vv D x1 s from ⟨fun _ => z, fun y => absurd q y⟩), h3])⟩
      · exact ⟨by decide, fun _ => ih (s + 1) _ _ (by omega) (by omega) (by rw [nd_cv_f (show ¬ nd_vv D x1 s from fun y => z (y.1 q)), h3, Int.add_zero]), fun y => absurd rfl y⟩
      · exact ⟨by decide, fun y => absurd y (by decide), fun _ => ih (s + 1) _ _ (by omega) (by omega) (by rw [nd_cv_t (show nd_vv D x1 s from ⟨fun y => absurd y q, fun _ => z⟩), h3])⟩
      · exact ⟨by decide, fun _ => ih (s + 1) _ _ (by omega) (by omega) (by rw [nd_cv_f (show ¬ nd_vv D x1 s from fun y => z (y.2 q)), h3, Int.add_zero]), fun y => absurd rfl y⟩
  exact key N 0 _ _ (by omega) rfl rfl
end NC18
end
section
section NC19
variable {G : nw_G} {σ : nw_S} {D : nd_D}
/-- the least one seen so far among those behind -/
def nv_I (V Bh : Nat → Prop) (key : Nat → Int) (s : Nat) (x : Int) : Prop := (x = -1 ∧ ∀ t, t < s → V t → ¬ Bh t) ∨ ∃ a : Nat, x = a ∧ a < s ∧ V a ∧ Bh a ∧ ∀ t, t < s → V t → Bh t → ¬ nd_lt key t a
theorem nv_I.r {V Bh : Nat → Prop} {key : Nat → Int} {s : Nat} {x : Int} (h : nv_I V Bh key s x) (hs : s ≤ 4096) : nw_r x := by
  rcases h with ⟨a, -⟩ | ⟨a, e, b, -⟩ <;> omega
theorem nv_I.skip {V Bh : Nat → Prop} {key : Nat → Int} {s : Nat} {x : Int} (h : nv_I V Bh key s x) (hn : ¬ (V s ∧ Bh s)) : nv_I V Bh key (s + 1) x := by
  rcases h with ⟨a, b⟩ | ⟨a, e, b, c, d, f⟩
  · refine Or.inl ⟨a, fun t ht v w => ?_⟩
    by_cases q : t = s
    · subst q; exact hn ⟨v, w⟩
    · exact b t (by omega) v w
  · refine Or.inr ⟨a, e, by omega, c, d, fun t ht v w => ?_⟩
    by_cases q : t = s
    · subst q; exact absurd ⟨v, w⟩ hn
    · exact f t (by omega) v w
theorem nv_I.new {V Bh : Nat → Prop} {key : Nat → Int} {s : Nat} {x : Int} (h : nv_I V Bh key s x) (hx : x = -1) (hV : V s) (hB : Bh s) : nv_I V Bh key (s + 1) s := by
  rcases h with ⟨a, b⟩ | ⟨a, e, b, c, d, f⟩
  · refine Or.inr ⟨s, rfl, by omega, hV, hB, fun t ht v w => ?_⟩
    by_cases q : t = s
    · subst q; intro z; exact absurd rfl (nd_lt_ne z)
    · exact absurd w (b t (by omega) v)
  · omega
theorem nv_I.keep {V Bh : Nat → Prop} {key : Nat → Int} {s : Nat} {x : Int} (h : nv_I V Bh key s x) (hx : x ≠ -1) (hk : key x.toNat ≤ key s) : nv_I V Bh key (s + 1) x := by
  rcases h with ⟨a, b⟩ | ⟨a, e, b, c, d, f⟩
  · exact absurd a hx
  · subst e
    rw [Int.toNat_natCast] at hk
    refine Or.inr ⟨a, rfl, by omega, c, d, fun t ht v w => ?_⟩
    by_cases q : t = s
    · subst q; intro z; rcases z with z | z <;> omega
    · exact f t (by omega) v w
theorem nv_I.rep {V Bh : Nat → Prop} {key : Nat → Int} {s : Nat} {x : Int} (h : nv_I V Bh key s x) (hx : x ≠ -1) (hV : V s) (hB : Bh s) (hk : key s < key x.toNat) : nv_I V Bh key (s + 1) s := by
  rcases h with ⟨a, b⟩ | ⟨a, e, b, c, d, f⟩
  · exact absurd a hx
  · subst e
    rw [Int.toNat_natCast] at hk
    refine Or.inr ⟨s, rfl, by omega, hV, hB, fun t ht v w => ?_⟩
    by_cases q : t = s
    · subst q; intro z; exact absurd rfl (nd_lt_ne z)
    · intro z
      refine f t (by omega) v w (Or.inl ?_)
      rcases z with z | z <;> omega
theorem nv_I.lt {V Bh : Nat → Prop} {key : Nat → Int} {s : Nat} {x : Int} (h : nv_I V Bh key s x) (hx : x ≠ -1) : x = (x.toNat : Int) ∧ x.toNat < s := by
  rcases h with ⟨a, b⟩ | ⟨a, e, b, c, d, f⟩
  · exact absurd a hx
  · subst e; exact ⟨by rw [Int.toNat_natCast], by rw [Int.toNat_natCast]; exact b⟩
/-- behind the last one -/
def nv_B (key : Nat → Int) (g : Nat → Nat) (k t : Nat) : Prop := ∀ j, k = j + 1 → nd_lt key (g j) t
theorem nd_at_no {g : Nat → Nat} {n : Nat} {x : Int} (h : ¬ (0 ≤ x ∧ x < n)) : nd_at g n x = -1000004 := if_neg h
theorem nd_at_yes {g : Nat → Nat} {n : Nat} {x : Int} (h : 0 ≤ x ∧ x < n) : nd_at g n x = g x.toNat := if_pos h
theorem nd_lt_as {key : Nat → Int} {a b : Nat} (h : nd_lt key a b) (q : nd_lt key b a) : False := by
  rcases h with h | h <;> rcases q with q | q <;> omega
theorem c95 {Φ : Int → nw_S → Prop} (hw : nd_wf D) (hC : nm_st D σ) {x1 x2 : Int} (h1 : nw_r x1) (h2 : x2 = 0 ∨ x2 = 1) {g : Nat → Nat} {n : Nat} (hen : nd_en (nd_vv D x2) (nd_rk D x2) g n) (h : ∀ u : nw_S, nm_st D u → (∀ k, k < 26 → u k = σ k) → Φ (nd_at g n x1) u) : nw_TI G 95 [.inl 26, .inr x1, .inr x2] σ Φ := by
  obtain ⟨-, hn, hg, hlt, hall⟩ := hen
  refine nw_TI_of (by decide) (Nat.le_of_ble_eq_true rfl) (bk95_0 ⟨h1, fun q0 => c89 hw hC (fun u hu hO hk => c82 hw hu.1 (by decide) ?_), fun q => ?_⟩)
  case refine_2 =>
    rw [nd_at_no (by omega)] at h
    exact h σ hC (fun _ _ => rfl)
  have h := h u hu hk
  have rkr : ∀ s, nw_r (nd_rk D x2 s) := fun s => nd_rk_r hw x2 s
  have outer : ∀ (w k : Nat) (x4 x5 : Int), k + w = x1.toNat + 1 → x5 = k → k ≤ n → (k = 0 → x4 = -1) → (∀ j, k = j + 1 → x4 = g j) → nw_V G 95 (nw_pi Φ) 23 [some (.inl 26), some (.inr x1), some (.inr x2), some (.inr (nd_M D 1 : Int)), some (.inr x4), some (.inr x5), none, none, none, none] [] u := by
    intro w
    induction w with
    | zero =>
      intro k x4 x5 hkw h5 hkn h40 h4j
      subst h5
      rw [nd_at_yes (by omega), ← h4j x1.toNat (by omega)] at h
      exact bk95_23 ⟨by omega, h1, fun _ => h, fun q => by omega⟩
    | succ w wh =>
      intro k x4 x5 hkw h5 hkn h40 h4j
      subst h5
      have inner : ∀ (v s : Nat) (x6 x7 : Int), s + v = 4096 → x7 = s → nv_I (nd_vv D x2) (nv_B (nd_rk D x2) g k) (nd_rk D x2) s x6 → nw_V G 95 (nw_pi Φ) 35 [some (.inl 26), some (.inr x1), some (.inr x2), some (.inr (nd_M D 1 : Int)), some (.inr x4), some (.inr (k : Int)), some (.inr x6), some (.inr x7), none, none] [] u := by
        intro v
        induction v with
        | zero =>
          intro s x6 x7 hsv h7 hI
          subst h7
          refine bk95_35 ⟨by omega, fun _ => ⟨hI.r (by omega), fun q => ?_, fun q => ?_⟩, fun q => by omega⟩
          · rcases hI with ⟨a, b⟩ | ⟨a, e, b, c, d, f⟩
            · exact absurd a q
            · obtain ⟨i, hi, ei⟩ := hall a (by omega) c
              have hik : i = k := by
                rcases Nat.lt_trichotomy i k with z | z | z
                · obtain ⟨j, hj⟩ : ∃ j, k = j + 1 := ⟨k - 1, by omega⟩
                  have hb := d j hj
                  rw [← ei] at hb
                  rcases Nat.lt_or_ge i j with y | y
                  · exact (nd_lt_as hb (hlt i j y (by omega))).elim
                  · have : i = j := by omega
                    rw [this] at hb
                    exact absurd rfl (nd_lt_ne hb)
                · exact z
                · have hk2 := hg k (by omega)
                  refine absurd (hlt k i z hi) ?_
                  rw [ei]
                  exact f (g k) (by omega) hk2.1 (fun j hj => hlt j k (by omega) (by omega))
              subst hik
              exact wh (i + 1) _ _ (by omega) (by omega) (by omega) (fun y => by omega) (fun j hj => by
                have : j = i := by omega
                rw [this, ei]; exact e)
          · rcases hI with ⟨a, b⟩ | ⟨a, e, b, c, d, f⟩
            · have hkn2 : ¬ k < n := fun z => by
                have hk2 := hg k z
                exact b (g k) (by omega) hk2.1 (fun j hj => hlt j k (by omega) z)
              rw [nd_at_no (by omega)] at h
              exact h
            · omega
        | succ v ih =>
          intro s x6 x7 hsv h7 hI
          subst h7
          have go : ∀ x, nv_I (nd_vv D x2) (nv_B (nd_rk D x2) g k) (nd_rk D x2) (s + 1) x → nw_V G 95 (nw_pi Φ) 35 [some (.inl 26), some (.inr x1), some (.inr x2), some (.inr (nd_M D 1 : Int)), some (.inr x4), some (.inr (k : Int)), some (.inr x), some (.inr ((s : Int) + 1)), none, none] [] u := fun x hx => ih (s + 1) x _ (by omega) (by omega) hx
          have hr6 := hI.r (by omega)
          have pk : nd_vv D x2 s → nv_B (nd_rk D x2) g k s → (nw_r x6) ∧ ((x6 = (-1) → nw_V G 95 (nw_pi Φ) 35 [some (.inl 26), some (.inr x1), some (.inr x2), some (.inr (nd_M D 1 : Int)), some (.inr x4), some (.inr (k : Int)), some (.inr (s : Int)), some (.inr ((s : Int) + 1)), none, none] [] u) ∧ (x6 ≠ (-1) → nw_TI G 93 [.inl 26, .inr x6, .inr x2] u (fun v5 v5u => (nw_r v5) ∧ ((v5 ≤ nd_rk D x2 s → nw_V G 95 (nw_pi Φ) 35 [some (.inl 26), some (.inr x1), some (.inr x2), some (.inr (nd_M D 1 : Int)), some (.inr x4), some (.inr (k : Int)), some (.inr x6), some (.inr ((s : Int) + 1)), none, none] [] v5u) ∧ (nd_rk D x2 s < v5 → nw_V G 95 (nw_pi Φ) 35 [some (.inl 26), some (.inr x1), some (.inr x2), some (.inr (nd_M D 1 : Int)), some (.inr x4), some (.inr (k : Int)), some (.inr (s : Int)), some (.inr ((s : Int) + 1)), none, none] [] v5u))))) := by
            intro hV hB
            refine ⟨hr6, fun q => go _ (hI.new q hV hB), fun q => ?_⟩
            obtain ⟨a, b⟩ := hI.lt q
            exact c93 hw hu a (by omega) h2 ⟨rkr _, fun y => go _ (hI.keep q y), fun y => go _ (hI.rep q hV hB y)⟩
          have body : nd_vv D x2 s → (nw_r x4) ∧ ((x4 = (-1) → (nw_r x6) ∧ ((x6 = (-1) → nw_V G 95 (nw_pi Φ) 35 [some (.inl 26), some (.inr x1), some (.inr x2), some (.inr (nd_M D 1 : Int)), some (.inr x4), some (.inr (k : Int)), some (.inr (s : Int)), some (.inr ((s : Int) + 1)), none, none] [] u) ∧ (x6 ≠ (-1) → nw_TI G 93 [.inl 26, .inr x6, .inr x2] u (fun v3 v3u => (nw_r (nd_rk D x2 s)) ∧ ((nw_r v3) ∧ ((v3 ≤ nd_rk D x2 s → nw_V G 95 (nw_pi Φ) 35 [some (.inl 26), some (.inr x1), some (.inr x2), some (.inr (nd_M D 1 : Int)), some (.inr x4), some (.inr (k : Int)), some (.inr x6), some (.inr ((s : Int) + 1)), none, none] [] v3u) ∧ (nd_rk D x2 s < v3 → nw_V G 95 (nw_pi Φ) 35 [some (.inl 26), some (.inr x1), some (.inr x2), some (.inr (nd_M D 1 : Int)), some (.inr x4), some (.inr (k : Int)), some (.inr (s : Int)), some (.inr ((s : Int) + 1)), none, none] [] v3u))))))) ∧ (x4 ≠ (-1) → nw_TI G 93 [.inl 26, .inr x4, .inr x2] u (fun v4 u4 => (nw_r (nd_rk D x2 s)) ∧ ((nw_r v4) ∧ ((v4 < nd_rk D x2 s → (nw_r x6) ∧ ((x6 = (-1) → nw_V G 95 (nw_pi Φ) 35 [some (.inl 26), some (.inr x1), some (.inr x2), some (.inr (nd_M D 1 : Int)), some (.inr x4), some (.inr (k : Int)), some (.inr (s : Int)), some (.inr ((s : Int) + 1)), none, none] [] u4) ∧ (x6 ≠ (-1) → nw_TI G 93 [.inl 26, .inr x6, .inr x2] u4 (fun v5 v5u => (nw_r v5) ∧ ((v5 ≤ nd_rk D x2 s → nw_V G 95 (nw_pi Φ) 35 [some (.inl 26), some (.inr x1), some (.inr x2), some (.inr (nd_M D 1 : Int)), some (.inr x4), some (.inr (k : Int)), some (.inr x6), some (.inr ((s : Int) + 1)), none, none] [] v5u) ∧ (nd_rk D x2 s < v5 → nw_V G 95 (nw_pi Φ) 35 [some (.inl 26), some (.inr x1), some (.inr x2), some (.inr (nd_M D 1 : Int)), some (.inr x4), some (.inr (k : Int)), some (.inr (s : Int)), some (.inr ((s : Int) + 1)), none, none] [] v5u)))))) ∧ (nd_rk D x2 s ≤ v4 → nw_TI G 93 [.inl 26, .inr x4, .inr x2] u4 (fun v6 u6 => (nw_r v6) ∧ ((nd_rk D x2 s ≠ v6 → nw_V G 95 (nw_pi Φ) 35 [some (.inl 26), some (.inr x1), some (.inr x2), some (.inr (nd_M D 1 : Int)), some (.inr x4), some (.inr (k : Int)), some (.inr x6), some (.inr ((s : Int) + 1)), none, none] [] u6) ∧ (nd_rk D x2 s = v6 → ((s : Int) ≤ x4 → nw_V G 95 (nw_pi Φ) 35 [some (.inl 26), some (.inr x1), some (.inr x2), some (.inr (nd_M D 1 : Int)), some (.inr x4), some (.inr (k : Int)), some (.inr x6), some (.inr ((s : Int) + 1)), none, none] [] u6) ∧ (x4 < (s : Int) → (nw_r x6) ∧ ((x6 = (-1) → nw_V G 95 (nw_pi Φ) 35 [some (.inl 26), some (.inr x1), some (.inr x2), some (.inr (nd_M D 1 : Int)), some (.inr x4), some (.inr (k : Int)), some (.inr (s : Int)), some (.inr ((s : Int) + 1)), none, none] [] u6) ∧ (x6 ≠ (-1) → nw_TI G 93 [.inl 26, .inr x6, .inr x2] u6 (fun v7 v7u => (nw_r v7) ∧ ((v7 ≤ nd_rk D x2 s → nw_V G 95 (nw_pi Φ) 35 [some (.inl 26), some (.inr x1), some (.inr x2), some (.inr (nd_M D 1 : Int)), some (.inr x4), some (.inr (k : Int)), some (.inr x6), some (.inr ((s : Int) + 1)), none, none] [] v7u) ∧ (nd_rk D x2 s < v7 → nw_V G 95 (nw_pi Φ) 35 [some (.inl 26), some (.inr x1), some (.inr x2), some (.inr (nd_M D 1 : Int)), some (.inr x4), some (.inr (k : Int)), some (.inr (s : Int)), some (.inr ((s : Int) + 1)), none, none] [] v7u))))))))))))))) := by
            intro hV
            rcases Nat.eq_zero_or_pos k with k0 | k0
            · have e4 := h40 k0
              have hB : nv_B (nd_rk D x2) g k s := fun j hj => by omega
              refine ⟨by omega, fun _ => ⟨hr6, fun q => go _ (hI.new q hV hB), fun q => ?_⟩, fun q => absurd e4 q⟩
              obtain ⟨a, b⟩ := hI.lt q
              exact c93 hw hu a (by omega) h2 ⟨rkr _, rkr _, fun y => go _ (hI.keep q y), fun y => go _ (hI.rep q hV hB y)⟩
            · obtain ⟨j, hj⟩ : ∃ j, k = j + 1 := ⟨k - 1, by omega⟩
              have e4 := h4j j hj
              have hgj := hg j (by omega)
              have no : nd_rk D x2 s < nd_rk D x2 (g j) ∨ (nd_rk D x2 s = nd_rk D x2 (g j) ∧ s ≤ g j) → ¬ (nd_vv D x2 s ∧ nv_B (nd_rk D x2) g k s) := fun z y => by
                have := y.2 j hj
                rcases this with t | t <;> omega
              have yes : nd_lt (nd_rk D x2) (g j) s → nv_B (nd_rk D x2) g k s := fun z i hi => by
                have : i = j := by omega
                rw [this]; exact z
              exact ⟨by omega, fun q => by omega, fun _ => c93 hw hu e4 hgj.2 h2 ⟨rkr _, rkr _, fun y => pk hV (yes (Or.inl y)), fun y => c93 hw hu e4 hgj.2 h2 ⟨rkr _, fun z => go _ (hI.skip (no (Or.inl (by omega)))), fun z => ⟨fun t => go _ (hI.skip (no (Or.inr ⟨z, by omega⟩))), fun t => pk hV (yes (Or.inr ⟨z.symm, by omega⟩))⟩⟩⟩⟩
          refine bk95_35 ⟨by omega, fun q => by omega, fun _ => ⟨by omega, fun q => c91 hw hO rfl rfl (by omega) (fun z => ?_) (fun z => ?_), fun q => c90 hw hO rfl rfl (by omega) (fun z => ?_) (fun z => ?_)⟩⟩
          · exact ⟨by decide, fun y => absurd y (by decide), fun _ => c93 hw hu rfl (by omega) h2 (body ⟨fun _ => z, fun y => absurd q y⟩)⟩
          · exact ⟨by decide, fun _ => go _ (hI.skip (fun y => z (y.1.1 q))), fun y => absurd rfl y⟩
          · exact ⟨by decide, fun y => absurd y (by decide), fun _ => c93 hw hu rfl (by omega) h2 (body ⟨fun y => absurd y q, fun _ => z⟩)⟩
          · exact ⟨by decide, fun _ => go _ (hI.skip (fun y => z (y.1.2 q))), fun y => absurd rfl y⟩
      exact bk95_23 ⟨by omega, h1, fun q => by omega, fun _ => inner 4096 0 _ _ (by omega) rfl (Or.inl ⟨rfl, fun t ht => by omega⟩)⟩
  exact outer (x1.toNat + 1) 0 _ _ (by omega) rfl (by omega) (fun _ => rfl) (fun j hj => by omega)
theorem nd_rk_0 : nd_rk D 0 = nd_C D := by
  funext s
  exact if_pos rfl
theorem nd_rk_1 : nd_rk D 1 = fun s => nd_bc s 12 := by
  funext s
  exact if_neg (by decide)
theorem m108 {Φ : Int → nw_S → Prop} (hw : nd_wf D) (hC : nm_st D σ) {x1 : Int} (h1 : nw_r x1) {g : Nat → Nat} {n : Nat} (hen : nd_en (nd_cl D) (fun s => nd_bc s 12) g n) (h : ∀ u : nw_S, nm_st D u → (∀ k, k < 26 → u k = σ k) → Φ (nd_at g n x1) u) : nw_TI G 108 [.inl 26, .inr x1] σ Φ := by
  rw [← nd_vv_1, ← nd_rk_1 (D := D)] at hen
  exact nw_TI_of (by decide) (Nat.le_of_ble_eq_true rfl) (bk108_0 (c95 hw hC h1 (Or.inr rfl) hen h))
theorem m109 {Φ : Int → nw_S → Prop} (hw : nd_wf D) (hC : nm_st D σ) {x1 : Int} (h1 : nw_r x1) {g : Nat → Nat} {n : Nat} (hen : nd_en (nd_rx D) (nd_C D) g n) (h : ∀ u : nw_S, nm_st D u → (∀ k, k < 26 → u k = σ k) → Φ (nd_at g n x1) u) : nw_TI G 109 [.inl 26, .inr x1] σ Φ := by
  rw [← nd_vv_0, ← nd_rk_0 (D := D)] at hen
  exact nw_TI_of (by decide) (Nat.le_of_ble_eq_true rfl) (bk109_0 (c95 hw hC h1 (Or.inl rfl) hen h))
theorem m97 {Φ : Int → nw_S → Prop} (hw : nd_wf D) (hC : nm_st D σ) {x1 : Int} (h1 : nw_r x1) (h : ∀ u : nw_S, nm_st D u → (∀ k, k < 26 → u k = σ k) → Φ (nq_count D x1) u) : nw_TI G 97 [.inl 26, .inr x1] σ Φ := by
  refine nw_TI_of (by decide) (Nat.le_of_ble_eq_true rfl) (bk97_0 ⟨h1, fun q => ?_, fun q => ?_, fun q => ?_, fun q => ?_, fun q => ?_, fun q => ?_, fun q => ?_, fun q => ?_⟩)
  · rw [show nq_count D x1 = -1000002 from by unfold nq_count; rw [if_neg (by omega), if_neg (by omega), if_neg (by omega), if_neg (by omega), if_neg (by omega), if_neg (by omega), if_neg (by omega)]] at h
    exact h σ hC (fun _ _ => rfl)
  · subst q; rw [hC.1.1]; exact h σ hC (fun _ _ => rfl)
  · subst q; rw [hC.1.2.1]; exact h σ hC (fun _ _ => rfl)
  · subst q; exact c77 hw hC.1 (h σ hC (fun _ _ => rfl))
  · subst q
    exact c96 hw hC (Or.inl rfl) (by decide) (fun u a b c => h u ⟨a, Or.inr b⟩ c)
  · subst q
    have hb := nd_tq_in hw (nd_M D 1) (nd_M D 2) 0 0 0
    have hal := nd_tp_alike (S := nd_Se D (nd_M D 1) 0 0 0) (sc := nd_sc D (nd_M D 2)) (nd_sc_le hw _) (nd_P D)
    refine c88 hw hC (fun u hM hF hj hg => ?_)
    have hi := nd_bp_iff (t := nd_tw D) hb.2.2.1.1
    refine ⟨nd_bp_r ⟨hb.2.2.1.1, hb.2.2.1.2.2⟩, fun q => ?_, fun q => ?_⟩
    · have q0 : (nd_tw D).1 ≠ 0 := fun z => q (hi.mpr z)
      rw [hg q0]
      have hb1 : -17000 ≤ (nd_tw D).2.1 ∧ (nd_tw D).2.1 ≤ 5000 := hb.2.1
      refine c96 hw ⟨hM, Or.inr hF⟩ (Or.inr rfl) ⟨by omega, by omega⟩ (fun u2 a b c => ?_)
      · rw [if_neg (by decide)]
        have e : (nd_tw D).2.2.2 = nd_cq (nd_Se D (nd_M D 1) 0 0 0) (nd_sc D (nd_M D 2)) (nd_tw D).2.1 (nd_P D) := (hal.2 q0).1
        rw [← e]
        exact h u2 ⟨a, Or.inr b⟩ (fun k y => by rw [c k y]; exact hj k y)
    · have e : (nd_tw D).2.2.2 = 0 := (hal.1 (hi.mp q)).1
      have h := h u ⟨hM, Or.inr hF⟩ hj
      rw [show nq_count D 4 = (nd_tw D).2.2.2 from rfl, e] at h
      exact h
  · subst q
    refine c94 hw hC (Or.inr rfl) (fun u a b => ?_)
    rw [nd_vv_1, ← nq_count_5]
    exact h u a b
  · subst q
    refine c94 hw hC (Or.inl rfl) (fun u a b => ?_)
    rw [nd_vv_0, ← nq_count_6]
    exact h u a b
theorem m107 {Φ : Int → nw_S → Prop} (hw : nd_wf D) (hC : nm_st D σ) (h : ∀ u : nw_S, nm_st D u → (∀ k, k < 26 → u k = σ k) → Φ (nq_clash D) u) : nw_TI G 107 [.inl 26] σ Φ := by
  have hR := hw.2.2.2.2.1
  have hM := nd_M_lt hw 1
  refine nw_TI_of (by decide) (Nat.le_of_ble_eq_true rfl) (bk107_0 (c89 hw hC (fun u hu hO hk => c82 hw hu.1 (by decide) ?_)))
  simp only [Int.toNat_natCast]
  have e := hu.1.2.1
  have key : ∀ (w r : Nat) (x1 x2 : Int), ¬ nd_can D (nd_M D 1) → r + w = nd_r D → x2 = r → x1 = (nd_lf D r : Nat) → nw_V G 107 (nw_pi Φ) 23 [some (.inl 26), some (.inr x1), some (.inr x2)] [] u := by
    intro w
    induction w with
    | zero =>
      intro r x1 x2 hno hr h2 h1
      subst h2
      subst h1
      have hr : r = nd_r D := by omega
      subst hr
      rw [nq_clash, nd_it_f hno] at h
      exact bk107_23 ⟨by omega, by omega, fun _ => h u hu hk, fun q => by omega⟩
    | succ w ih =>
      intro r x1 x2 hno hr h2 h1
      subst h2
      subst h1
      have h2r := nd_bit (r := r) (by omega)
      have hlf := nd_lf_le (D := D) r
      have hl : nd_lf D r < 4096 := by omega
      have hx := ns_flip_lt (n := 12) (r := r) hl (by omega)
      have hO2 := hO (nd_lf D r ^^^ 2 ^ r) hx
      refine bk107_23 ⟨by omega, by omega, fun q => by omega, fun _ => ⟨nb_rand _ _, ?_⟩⟩
      rw [nb_bit (by omega) (by omega), nb_shl (by omega), nb_xor (by omega) (by omega)]
      simp only [Int.toNat_natCast]
      cases hb : (nd_lf D r).testBit r with
      | false =>
        refine ⟨fun _ => ih (r + 1) _ _ hno (by omega) (by omega) ?_, fun q => absurd q (by decide)⟩
        rcases Classical.em (nd_can D (nd_lf D r &&& (4095 ^^^ 2 ^ r))) with y | y
        · rw [nd_lf_t y]
        · rw [nd_lf_f y, ns_rm0 hl hb]
      | true =>
        refine ⟨fun q => absurd rfl q, fun _ => ⟨by omega, hO2.r, fun q => ih (r + 1) _ _ hno (by omega) (by omega) ?_, fun q => ih (r + 1) _ _ hno (by omega) (by omega) ?_⟩⟩
        · rw [nd_lf_t (by rw [ns_rm1 hl hb]; exact hO2.t q)]
        · rw [nd_lf_f (by rw [ns_rm1 hl hb]; exact hO2.f q), ns_rm1 hl hb]
  refine ⟨by omega, (hO _ hM.2).r, fun q => key (nd_r D) 0 _ _ ((hO _ hM.2).f q) (by omega) rfl rfl, fun q => ?_⟩
  rw [nq_clash, nd_it_t ((hO _ hM.2).t q)] at h
  exact h u hu hk
end NC19
end
section
/-! the law, stretch by stretch -/
def nl_cuts : List (Nat × Nat) := [(18, 4), (140, 4), (158, 4), (163, 4), (201, 4), (206, 4), (264, 4), (269, 4), (297, 4), (302, 4), (330, 4), (335, 4), (363, 4), (368, 4), (386, 4), (391, 4), (399, 4), (404, 4), (422, 4), (427, 4), (445, 4), (450, 4), (478, 4), (483, 4), (521, 4), (526, 4), (554, 4), (559, 4), (587, 4), (592, 4), (620, 4), (625, 4), (653, 4), (658, 4), (666, 4), (671, 4), (689, 4), (694, 4), (712, 4), (717, 4), (735, 4), (740, 4), (758, 4), (763, 4), (821, 4), (826, 4), (884, 4), (889, 4)]
set_option maxRecDepth 100000 in
theorem bk118_18 {G : nw_G} {Φ : Int → nw_S → Prop} {σ : nw_S} {x3 : Int} (h : (nw_r x3) ∧ ((nw_r ((nw_len G : Int) - 6)) ∧ ((((nw_len G : Int) - 6) < x3 → Φ 1 σ) ∧ (x3 ≤ ((nw_len G : Int) - 6) → (0 ≤ x3 ∧ x3 < (nw_len G : Int)) ∧ (nw_r (nw_and ((nw_xs G (x3.toNat)).toInt) 31) ∧ ((nw_and ((nw_xs G (x3.toNat)).toInt) 31) < 0 ∨ 22 < (nw_and ((nw_xs G (x3.toNat)).toInt) 31) → nw_V G 118 (nw_pi Φ) 889 [some (.inl 38), some (.inl 0), some (.inl 26), some (.inr x3)] [] σ) ∧ ((nw_and ((nw_xs G (x3.toNat)).toInt) 31) = 0 → nw_V G 118 (nw_pi Φ) 140 [some (.inl 38), some (.inl 0), some (.inl 26), some (.inr x3)] [] σ) ∧ ((nw_and ((nw_xs G (x3.toNat)).toInt) 31) = 1 → nw_V G 118 (nw_pi Φ) 163 [some (.inl 38), some (.inl 0), some (.inl 26), some (.inr x3)] [] σ) ∧ ((nw_and ((nw_xs G (x3.toNat)).toInt) 31) = 2 → nw_V G 118 (nw_pi Φ) 206 [some (.inl 38), some (.inl 0), some (.inl 26), some (.inr x3)] [] σ) ∧ ((nw_and ((nw_xs G (x3.toNat)).toInt) 31) = 3 → nw_V G 118 (nw_pi Φ) 269 [some (.inl 38), some (.inl 0), some (.inl 26), some (.inr x3)] [] σ) ∧ ((nw_and ((nw_xs G (x3.toNat)).toInt) 31) = 4 → nw_V G 118 (nw_pi Φ) 302 [some (.inl 38), some (.inl 0), some (.inl 26), some (.inr x3)] [] σ) ∧ ((nw_and ((nw_xs G (x3.toNat)).toInt) 31) = 5 → nw_V G 118 (nw_pi Φ) 335 [some (.inl 38), some (.inl 0), some (.inl 26), some (.inr x3)] [] σ) ∧ ((nw_and ((nw_xs G (x3.toNat)).toInt) 31) = 6 → nw_V G 118 (nw_pi Φ) 368 [some (.inl 38), some (.inl 0), some (.inl 26), some (.inr x3)] [] σ) ∧ ((nw_and ((nw_xs G (x3.toNat)).toInt) 31) = 7 → nw_V G 118 (nw_pi Φ) 391 [some (.inl 38), some (.inl 0), some (.inl 26), some (.inr x3)] [] σ) ∧ ((nw_and ((nw_xs G (x3.toNat)).toInt) 31) = 8 → nw_V G 118 (nw_pi Φ) 404 [some (.inl 38), some (.inl 0), some (.inl 26), some (.inr x3)] [] σ) ∧ ((nw_and ((nw_xs G (x3.toNat)).toInt) 31) = 9 → nw_V G 118 (nw_pi Φ) 427 [some (.inl 38), some (.inl 0), some (.inl 26), some (.inr x3)] [] σ) ∧ ((nw_and ((nw_xs G (x3.toNat)).toInt) 31) = 10 → nw_V G 118 (nw_pi Φ) 450 [some (.inl 38), some (.inl 0), some (.inl 26), some (.inr x3)] [] σ) ∧ ((nw_and ((nw_xs G (x3.toNat)).toInt) 31) = 11 → nw_V G 118 (nw_pi Φ) 483 [some (.inl 38), some (.inl 0), some (.inl 26), some (.inr x3)] [] σ) ∧ ((nw_and ((nw_xs G (x3.toNat)).toInt) 31) = 12 → nw_V G 118 (nw_pi Φ) 526 [some (.inl 38), some (.inl 0), some (.inl 26), some (.inr x3)] [] σ) ∧ ((nw_and ((nw_xs G (x3.toNat)).toInt) 31) = 13 → nw_V G 118 (nw_pi Φ) 559 [some (.inl 38), some (.inl 0), some (.inl 26), some (.inr x3)] [] σ) ∧ ((nw_and ((nw_xs G (x3.toNat)).toInt) 31) = 14 → nw_V G 118 (nw_pi Φ) 592 [some (.inl 38), some (.inl 0), some (.inl 26), some (.inr x3)] [] σ) ∧ ((nw_and ((nw_xs G (x3.toNat)).toInt) 31) = 15 → nw_V G 118 (nw_pi Φ) 625 [some (.inl 38), some (.inl 0), some (.inl 26), some (.inr x3)] [] σ) ∧ ((nw_and ((nw_xs G (x3.toNat)).toInt) 31) = 16 → nw_V G 118 (nw_pi Φ) 658 [some (.inl 38), some (.inl 0), some (.inl 26), some (.inr x3)] [] σ) ∧ ((nw_and ((nw_xs G (x3.toNat)).toInt) 31) = 17 → nw_V G 118 (nw_pi Φ) 671 [some (.inl 38), some (.inl 0), some (.inl 26), some (.inr x3)] [] σ) ∧ ((nw_and ((nw_xs G (x3.toNat)).toInt) 31) = 18 → nw_V G 118 (nw_pi Φ) 694 [some (.inl 38), some (.inl 0), some (.inl 26), some (.inr x3)] [] σ) ∧ ((nw_and ((nw_xs G (x3.toNat)).toInt) 31) = 19 → nw_V G 118 (nw_pi Φ) 717 [some (.inl 38), some (.inl 0), some (.inl 26), some (.inr x3)] [] σ) ∧ ((nw_and ((nw_xs G (x3.toNat)).toInt) 31) = 20 → nw_V G 118 (nw_pi Φ) 740 [some (.inl 38), some (.inl 0), some (.inl 26), some (.inr x3)] [] σ) ∧ ((nw_and ((nw_xs G (x3.toNat)).toInt) 31) = 21 → nw_V G 118 (nw_pi Φ) 763 [some (.inl 38), some (.inl 0), some (.inl 26), some (.inr x3)] [] σ) ∧ ((nw_and ((nw_xs G (x3.toNat)).toInt) 31) = 22 → nw_V G 118 (nw_pi Φ) 826 [some (.inl 38), some (.inl 0), some (.inl 26), some (.inr x3)] [] σ)))))) : nw_V G 118 (nw_pi Φ) 18 [some (.inl 38), some (.inl 0), some (.inl 26), some (.inr x3)] [] σ := nw_run (cd := nw_cd118) rfl nl_cuts 13 (And.intro h.1 (And.intro (h.2).1 (And.intro (fun q1 => And.intro (by decide) ((((h.2).2).1 q1))) (fun q1 => And.intro (((h.2).2).2 q1).1 (And.intro ((((h.2).2).2 q1).2).1 (And.intro (fun q2 => (((((h.2).2).2 q1).2).2.1 q2)) (And.intro (fun q2 => (((((h.2).2).2 q1).2).2.2.1 q2)) (And.intro (fun q2 => (((((h.2).2).2 q1).2).2.2.2.1 q2)) (And.intro (fun q2 => (((((h.2).2).2 q1).2).2.2.2.2.1 q2)) (And.intro (fun q2 => (((((h.2).2).2 q1).2).2.2.2.2.2.1 q2)) (And.intro (fun q2 => (((((h.2).2).2 q1).2).2.2.2.2.2.2.1 q2)) (And.intro (fun q2 => (((((h.2).2).2 q1).2).2.2.2.2.2.2.2.1 q2)) (And.intro (fun q2 => (((((h.2).2).2 q1).2).2.2.2.2.2.2.2.2.1 q2)) (And.intro (fun q2 => (((((h.2).2).2 q1).2).2.2.2.2.2.2.2.2.2.1 q2)) (And.intro (fun q2 => (((((h.2).2).2 q1).2).2.2.2.2.2.2.2.2.2.2.1 q2)) (And.intro (fun q2 => (((((h.2).2).2 q1).2).2.2.2.2.2.2.2.2.2.2.2.1 q2)) (And.intro (fun q2 => (((((h.2).2).2 q1).2).2.2.2.2.2.2.2.2.2.2.2.2.1 q2)) (And.intro (fun q2 => (((((h.2).2).2 q1).2).2.2.2.2.2.2.2.2.2.2.2.2.2.1 q2)) (And.intro (fun q2 => (((((h.2).2).2 q1).2).2.2.2.2.2.2.2.2.2.2.2.2.2.2.1 q2)) (And.intro (fun q2 => (((((h.2).2).2 q1).2).2.2.2.2.2.2.2.2.2.2.2.2.2.2.2.1 q2)) (And.intro (fun q2 => (((((h.2).2).2 q1).2).2.2.2.2.2.2.2.2.2.2.2.2.2.2.2.2.1 q2)) (And.intro (fun q2 => (((((h.2).2).2 q1).2).2.2.2.2.2.2.2.2.2.2.2.2.2.2.2.2.2.1 q2)) (And.intro (fun q2 => (((((h.2).2).2 q1).2).2.2.2.2.2.2.2.2.2.2.2.2.2.2.2.2.2.2.1 q2)) (And.intro (fun q2 => (((((h.2).2).2 q1).2).2.2.2.2.2.2.2.2.2.2.2.2.2.2.2.2.2.2.2.1 q2)) (And.intro (fun q2 => (((((h.2).2).2 q1).2).2.2.2.2.2.2.2.2.2.2.2.2.2.2.2.2.2.2.2.2.1 q2)) (And.intro (fun q2 => (((((h.2).2).2 q1).2).2.2.2.2.2.2.2.2.2.2.2.2.2.2.2.2.2.2.2.2.2.1 q2)) (And.intro (fun q2 => (((((h.2).2).2 q1).2).2.2.2.2.2.2.2.2.2.2.2.2.2.2.2.2.2.2.2.2.2.2.1 q2)) (And.intro (fun q2 => (((((h.2).2).2 q1).2).2.2.2.2.2.2.2.2.2.2.2.2.2.2.2.2.2.2.2.2.2.2.2.1 q2)) (And.intro (fun q2 => (((((h.2).2).2 q1).2).2.2.2.2.2.2.2.2.2.2.2.2.2.2.2.2.2.2.2.2.2.2.2.2 q2)) (True.intro))))))))))))))))))))))))))))))
set_option maxRecDepth 100000 in
theorem bk118_140 {G : nw_G} {Φ : Int → nw_S → Prop} {σ : nw_S} {x3 : Int} (h : (0 ≤ (x3 + 1) ∧ (x3 + 1) < (nw_len G : Int)) ∧ (nw_TI G 27 [.inl 0, .inr ((nw_xs G ((x3 + 1).toNat)).toInt)] σ (fun v1 u1 => nw_TI G 70 [.inl 26, .inr ((nw_xs G ((x3 + 1).toNat)).toInt)] u1 (fun v2 u2 => nw_V G 118 (nw_pi Φ) 158 [some (.inl 38), some (.inl 0), some (.inl 26), some (.inr x3)] [.inr v2, .inr v1] u2)))) : nw_V G 118 (nw_pi Φ) 140 [some (.inl 38), some (.inl 0), some (.inl 26), some (.inr x3)] [] σ := nw_run (cd := nw_cd118) rfl nl_cuts 15 (And.intro h.1 (nw_TI.mono (h.2) (fun _ _ q_1 => And.intro h.1 (q_1))))
set_option maxRecDepth 100000 in
theorem bk118_163 {G : nw_G} {Φ : Int → nw_S → Prop} {σ : nw_S} {x3 : Int} (h : (0 ≤ (x3 + 1) ∧ (x3 + 1) < (nw_len G : Int)) ∧ ((0 ≤ (x3 + 2) ∧ (x3 + 2) < (nw_len G : Int)) ∧ ((0 ≤ (x3 + 3) ∧ (x3 + 3) < (nw_len G : Int)) ∧ (nw_TI G 28 [.inl 0, .inr ((nw_xs G ((x3 + 1).toNat)).toInt), .inr ((nw_xs G ((x3 + 2).toNat)).toInt), .inr ((nw_xs G ((x3 + 3).toNat)).toInt)] σ (fun v1 u1 => nw_TI G 71 [.inl 26, .inr ((nw_xs G ((x3 + 1).toNat)).toInt), .inr ((nw_xs G ((x3 + 2).toNat)).toInt), .inr ((nw_xs G ((x3 + 3).toNat)).toInt)] u1 (fun v2 u2 => nw_V G 118 (nw_pi Φ) 201 [some (.inl 38), some (.inl 0), some (.inl 26), some (.inr x3)] [.inr v2, .inr v1] u2)))))) : nw_V G 118 (nw_pi Φ) 163 [some (.inl 38), some (.inl 0), some (.inl 26), some (.inr x3)] [] σ := nw_run (cd := nw_cd118) rfl nl_cuts 35 (And.intro h.1 (And.intro (h.2).1 (And.intro ((h.2).2).1 (nw_TI.mono (((h.2).2).2) (fun _ _ q_1 => And.intro h.1 (And.intro (h.2).1 (And.intro ((h.2).2).1 (q_1))))))))
set_option maxRecDepth 100000 in
theorem bk118_206 {G : nw_G} {Φ : Int → nw_S → Prop} {σ : nw_S} {x3 : Int} (h : (0 ≤ (x3 + 1) ∧ (x3 + 1) < (nw_len G : Int)) ∧ ((0 ≤ (x3 + 2) ∧ (x3 + 2) < (nw_len G : Int)) ∧ ((0 ≤ (x3 + 3) ∧ (x3 + 3) < (nw_len G : Int)) ∧ ((0 ≤ (x3 + 4) ∧ (x3 + 4) < (nw_len G : Int)) ∧ ((0 ≤ (x3 + 5) ∧ (x3 + 5) < (nw_len G : Int)) ∧ (nw_TI G 29 [.inl 0, .inr ((nw_xs G ((x3 + 1).toNat)).toInt), .inr ((nw_xs G ((x3 + 2).toNat)).toInt), .inr ((nw_xs G ((x3 + 3).toNat)).toInt), .inr ((nw_xs G ((x3 + 4).toNat)).toInt), .inr ((nw_xs G ((x3 + 5).toNat)).toInt)] σ (fun v1 u1 => nw_TI G 73 [.inl 26, .inr ((nw_xs G ((x3 + 1).toNat)).toInt), .inr ((nw_xs G ((x3 + 2).toNat)).toInt), .inr ((nw_xs G ((x3 + 3).toNat)).toInt), .inr ((nw_xs G ((x3 + 4).toNat)).toInt), .inr ((nw_xs G ((x3 + 5).toNat)).toInt)] u1 (fun v2 u2 => nw_V G 118 (nw_pi Φ) 264 [some (.inl 38), some (.inl 0), some (.inl 26), some (.inr x3)] [.inr v2, .inr v1] u2)))))))) : nw_V G 118 (nw_pi Φ) 206 [some (.inl 38), some (.inl 0), some (.inl 26), some (.inr x3)] [] σ := nw_run (cd := nw_cd118) rfl nl_cuts 55 (And.intro h.1 (And.intro (h.2).1 (And.intro ((h.2).2).1 (And.intro (((h.2).2).2).1 (And.intro ((((h.2).2).2).2).1 (nw_TI.mono (((((h.2).2).2).2).2) (fun _ _ q_1 => And.intro h.1 (And.intro (h.2).1 (And.intro ((h.2).2).1 (And.intro (((h.2).2).2).1 (And.intro ((((h.2).2).2).2).1 (q_1))))))))))))
set_option maxRecDepth 100000 in
theorem bk118_269 {G : nw_G} {Φ : Int → nw_S → Prop} {σ : nw_S} {x3 : Int} (h : (0 ≤ (x3 + 1) ∧ (x3 + 1) < (nw_len G : Int)) ∧ ((0 ≤ (x3 + 2) ∧ (x3 + 2) < (nw_len G : Int)) ∧ (nw_TI G 30 [.inl 0, .inr ((nw_xs G ((x3 + 1).toNat)).toInt), .inr ((nw_xs G ((x3 + 2).toNat)).toInt)] σ (fun v1 u1 => nw_TI G 74 [.inl 26, .inr ((nw_xs G ((x3 + 1).toNat)).toInt), .inr ((nw_xs G ((x3 + 2).toNat)).toInt)] u1 (fun v2 u2 => nw_V G 118 (nw_pi Φ) 297 [some (.inl 38), some (.inl 0), some (.inl 26), some (.inr x3)] [.inr v2, .inr v1] u2))))) : nw_V G 118 (nw_pi Φ) 269 [some (.inl 38), some (.inl 0), some (.inl 26), some (.inr x3)] [] σ := nw_run (cd := nw_cd118) rfl nl_cuts 25 (And.intro h.1 (And.intro (h.2).1 (nw_TI.mono ((h.2).2) (fun _ _ q_1 => And.intro h.1 (And.intro (h.2).1 (q_1))))))
set_option maxRecDepth 100000 in
theorem bk118_302 {G : nw_G} {Φ : Int → nw_S → Prop} {σ : nw_S} {x3 : Int} (h : (0 ≤ (x3 + 1) ∧ (x3 + 1) < (nw_len G : Int)) ∧ ((0 ≤ (x3 + 2) ∧ (x3 + 2) < (nw_len G : Int)) ∧ (nw_TI G 31 [.inl 0, .inr ((nw_xs G ((x3 + 1).toNat)).toInt), .inr ((nw_xs G ((x3 + 2).toNat)).toInt)] σ (fun v1 u1 => nw_TI G 75 [.inl 26, .inr ((nw_xs G ((x3 + 1).toNat)).toInt), .inr ((nw_xs G ((x3 + 2).toNat)).toInt)] u1 (fun v2 u2 => nw_V G 118 (nw_pi Φ) 330 [some (.inl 38), some (.inl 0), some (.inl 26), some (.inr x3)] [.inr v2, .inr v1] u2))))) : nw_V G 118 (nw_pi Φ) 302 [some (.inl 38), some (.inl 0), some (.inl 26), some (.inr x3)] [] σ := nw_run (cd := nw_cd118) rfl nl_cuts 25 (And.intro h.1 (And.intro (h.2).1 (nw_TI.mono ((h.2).2) (fun _ _ q_1 => And.intro h.1 (And.intro (h.2).1 (q_1))))))
set_option maxRecDepth 100000 in
theorem bk118_335 {G : nw_G} {Φ : Int → nw_S → Prop} {σ : nw_S} {x3 : Int} (h : (0 ≤ (x3 + 1) ∧ (x3 + 1) < (nw_len G : Int)) ∧ ((0 ≤ (x3 + 2) ∧ (x3 + 2) < (nw_len G : Int)) ∧ (nw_TI G 32 [.inl 0, .inr ((nw_xs G ((x3 + 1).toNat)).toInt), .inr ((nw_xs G ((x3 + 2).toNat)).toInt)] σ (fun v1 u1 => nw_TI G 76 [.inl 26, .inr ((nw_xs G ((x3 + 1).toNat)).toInt), .inr ((nw_xs G ((x3 + 2).toNat)).toInt)] u1 (fun v2 u2 => nw_V G 118 (nw_pi Φ) 363 [some (.inl 38), some (.inl 0), some (.inl 26), some (.inr x3)] [.inr v2, .inr v1] u2))))) : nw_V G 118 (nw_pi Φ) 335 [some (.inl 38), some (.inl 0), some (.inl 26), some (.inr x3)] [] σ := nw_run (cd := nw_cd118) rfl nl_cuts 25 (And.intro h.1 (And.intro (h.2).1 (nw_TI.mono ((h.2).2) (fun _ _ q_1 => And.intro h.1 (And.intro (h.2).1 (q_1))))))
set_option maxRecDepth 100000 in
theorem bk118_368 {G : nw_G} {Φ : Int → nw_S → Prop} {σ : nw_S} {x3 : Int} (h : (0 ≤ (x3 + 1) ∧ (x3 + 1) < (nw_len G : Int)) ∧ (nw_TI G 33 [.inl 0, .inr ((nw_xs G ((x3 + 1).toNat)).toInt)] σ (fun v1 u1 => nw_TI G 97 [.inl 26, .inr ((nw_xs G ((x3 + 1).toNat)).toInt)] u1 (fun v2 u2 => nw_V G 118 (nw_pi Φ) 386 [some (.inl 38), some (.inl 0), some (.inl 26), some (.inr x3)] [.inr v2, .inr v1] u2)))) : nw_V G 118 (nw_pi Φ) 368 [some (.inl 38), some (.inl 0), some (.inl 26), some (.inr x3)] [] σ := nw_run (cd := nw_cd118) rfl nl_cuts 15 (And.intro h.1 (nw_TI.mono (h.2) (fun _ _ q_1 => And.intro h.1 (q_1))))
set_option maxRecDepth 100000 in
theorem bk118_391 {G : nw_G} {Φ : Int → nw_S → Prop} {σ : nw_S} {x3 : Int} (h : nw_TI G 34 [.inl 0] σ (fun v1 u1 => nw_TI G 98 [.inl 26] u1 (fun v2 u2 => nw_V G 118 (nw_pi Φ) 399 [some (.inl 38), some (.inl 0), some (.inl 26), some (.inr x3)] [.inr v2, .inr v1] u2))) : nw_V G 118 (nw_pi Φ) 391 [some (.inl 38), some (.inl 0), some (.inl 26), some (.inr x3)] [] σ := nw_run (cd := nw_cd118) rfl nl_cuts 5 (h)
set_option maxRecDepth 100000 in
theorem bk118_404 {G : nw_G} {Φ : Int → nw_S → Prop} {σ : nw_S} {x3 : Int} (h : (0 ≤ (x3 + 1) ∧ (x3 + 1) < (nw_len G : Int)) ∧ (nw_TI G 35 [.inl 0, .inr ((nw_xs G ((x3 + 1).toNat)).toInt)] σ (fun v1 u1 => nw_TI G 99 [.inl 26, .inr ((nw_xs G ((x3 + 1).toNat)).toInt)] u1 (fun v2 u2 => nw_V G 118 (nw_pi Φ) 422 [some (.inl 38), some (.inl 0), some (.inl 26), some (.inr x3)] [.inr v2, .inr v1] u2)))) : nw_V G 118 (nw_pi Φ) 404 [some (.inl 38), some (.inl 0), some (.inl 26), some (.inr x3)] [] σ := nw_run (cd := nw_cd118) rfl nl_cuts 15 (And.intro h.1 (nw_TI.mono (h.2) (fun _ _ q_1 => And.intro h.1 (q_1))))
set_option maxRecDepth 100000 in
theorem bk118_427 {G : nw_G} {Φ : Int → nw_S → Prop} {σ : nw_S} {x3 : Int} (h : (0 ≤ (x3 + 1) ∧ (x3 + 1) < (nw_len G : Int)) ∧ (nw_TI G 36 [.inl 0, .inr ((nw_xs G ((x3 + 1).toNat)).toInt)] σ (fun v1 u1 => nw_TI G 100 [.inl 26, .inr ((nw_xs G ((x3 + 1).toNat)).toInt)] u1 (fun v2 u2 => nw_V G 118 (nw_pi Φ) 445 [some (.inl 38), some (.inl 0), some (.inl 26), some (.inr x3)] [.inr v2, .inr v1] u2)))) : nw_V G 118 (nw_pi Φ) 427 [some (.inl 38), some (.inl 0), some (.inl 26), some (.inr x3)] [] σ := nw_run (cd := nw_cd118) rfl nl_cuts 15 (And.intro h.1 (nw_TI.mono (h.2) (fun _ _ q_1 => And.intro h.1 (q_1))))
set_option maxRecDepth 100000 in
theorem bk118_450 {G : nw_G} {Φ : Int → nw_S → Prop} {σ : nw_S} {x3 : Int} (h : (0 ≤ (x3 + 1) ∧ (x3 + 1) < (nw_len G : Int)) ∧ ((0 ≤ (x3 + 2) ∧ (x3 + 2) < (nw_len G : Int)) ∧ (nw_TI G 37 [.inl 0, .inr ((nw_xs G ((x3 + 1).toNat)).toInt), .inr ((nw_xs G ((x3 + 2).toNat)).toInt)] σ (fun v1 u1 => nw_TI G 101 [.inl 26, .inr ((nw_xs G ((x3 + 1).toNat)).toInt), .inr ((nw_xs G ((x3 + 2).toNat)).toInt)] u1 (fun v2 u2 => nw_V G 118 (nw_pi Φ) 478 [some (.inl 38), some (.inl 0), some (.inl 26), some (.inr x3)] [.inr v2, .inr v1] u2))))) : nw_V G 118 (nw_pi Φ) 450 [some (.inl 38), some (.inl 0), some (.inl 26), some (.inr x3)] [] σ := nw_run (cd := nw_cd118) rfl nl_cuts 25 (And.intro h.1 (And.intro (h.2).1 (nw_TI.mono ((h.2).2) (fun _ _ q_1 => And.intro h.1 (And.intro (h.2).1 (q_1))))))
set_option maxRecDepth 100000 in
theorem bk118_483 {G : nw_G} {Φ : Int → nw_S → Prop} {σ : nw_S} {x3 : Int} (h : (0 ≤ (x3 + 1) ∧ (x3 + 1) < (nw_len G : Int)) ∧ ((0 ≤ (x3 + 2) ∧ (x3 + 2) < (nw_len G : Int)) ∧ ((0 ≤ (x3 + 3) ∧ (x3 + 3) < (nw_len G : Int)) ∧ (nw_TI G 38 [.inl 0, .inr ((nw_xs G ((x3 + 1).toNat)).toInt), .inr ((nw_xs G ((x3 + 2).toNat)).toInt), .inr ((nw_xs G ((x3 + 3).toNat)).toInt)] σ (fun v1 u1 => nw_TI G 102 [.inl 26, .inr ((nw_xs G ((x3 + 1).toNat)).toInt), .inr ((nw_xs G ((x3 + 2).toNat)).toInt), .inr ((nw_xs G ((x3 + 3).toNat)).toInt)] u1 (fun v2 u2 => nw_V G 118 (nw_pi Φ) 521 [some (.inl 38), some (.inl 0), some (.inl 26), some (.inr x3)] [.inr v2, .inr v1] u2)))))) : nw_V G 118 (nw_pi Φ) 483 [some (.inl 38), some (.inl 0), some (.inl 26), some (.inr x3)] [] σ := nw_run (cd := nw_cd118) rfl nl_cuts 35 (And.intro h.1 (And.intro (h.2).1 (And.intro ((h.2).2).1 (nw_TI.mono (((h.2).2).2) (fun _ _ q_1 => And.intro h.1 (And.intro (h.2).1 (And.intro ((h.2).2).1 (q_1))))))))
set_option maxRecDepth 100000 in
theorem bk118_526 {G : nw_G} {Φ : Int → nw_S → Prop} {σ : nw_S} {x3 : Int} (h : (0 ≤ (x3 + 1) ∧ (x3 + 1) < (nw_len G : Int)) ∧ ((0 ≤ (x3 + 2) ∧ (x3 + 2) < (nw_len G : Int)) ∧ (nw_TI G 39 [.inl 0, .inr ((nw_xs G ((x3 + 1).toNat)).toInt), .inr ((nw_xs G ((x3 + 2).toNat)).toInt)] σ (fun v1 u1 => nw_TI G 103 [.inl 26, .inr ((nw_xs G ((x3 + 1).toNat)).toInt), .inr ((nw_xs G ((x3 + 2).toNat)).toInt)] u1 (fun v2 u2 => nw_V G 118 (nw_pi Φ) 554 [some (.inl 38), some (.inl 0), some (.inl 26), some (.inr x3)] [.inr v2, .inr v1] u2))))) : nw_V G 118 (nw_pi Φ) 526 [some (.inl 38), some (.inl 0), some (.inl 26), some (.inr x3)] [] σ := nw_run (cd := nw_cd118) rfl nl_cuts 25 (And.intro h.1 (And.intro (h.2).1 (nw_TI.mono ((h.2).2) (fun _ _ q_1 => And.intro h.1 (And.intro (h.2).1 (q_1))))))
set_option maxRecDepth 100000 in
theorem bk118_559 {G : nw_G} {Φ : Int → nw_S → Prop} {σ : nw_S} {x3 : Int} (h : (0 ≤ (x3 + 1) ∧ (x3 + 1) < (nw_len G : Int)) ∧ ((0 ≤ (x3 + 2) ∧ (x3 + 2) < (nw_len G : Int)) ∧ (nw_TI G 40 [.inl 0, .inr ((nw_xs G ((x3 + 1).toNat)).toInt), .inr ((nw_xs G ((x3 + 2).toNat)).toInt)] σ (fun v1 u1 => nw_TI G 104 [.inl 26, .inr ((nw_xs G ((x3 + 1).toNat)).toInt), .inr ((nw_xs G ((x3 + 2).toNat)).toInt)] u1 (fun v2 u2 => nw_V G 118 (nw_pi Φ) 587 [some (.inl 38), some (.inl 0), some (.inl 26), some (.inr x3)] [.inr v2, .inr v1] u2))))) : nw_V G 118 (nw_pi Φ) 559 [some (.inl 38), some (.inl 0), some (.inl 26), some (.inr x3)] [] σ := nw_run (cd := nw_cd118) rfl nl_cuts 25 (And.intro h.1 (And.intro (h.2).1 (nw_TI.mono ((h.2).2) (fun _ _ q_1 => And.intro h.1 (And.intro (h.2).1 (q_1))))))
set_option maxRecDepth 100000 in
theorem bk118_592 {G : nw_G} {Φ : Int → nw_S → Prop} {σ : nw_S} {x3 : Int} (h : (0 ≤ (x3 + 1) ∧ (x3 + 1) < (nw_len G : Int)) ∧ ((0 ≤ (x3 + 2) ∧ (x3 + 2) < (nw_len G : Int)) ∧ (nw_TI G 41 [.inl 0, .inr ((nw_xs G ((x3 + 1).toNat)).toInt), .inr ((nw_xs G ((x3 + 2).toNat)).toInt)] σ (fun v1 u1 => nw_TI G 105 [.inl 26, .inr ((nw_xs G ((x3 + 1).toNat)).toInt), .inr ((nw_xs G ((x3 + 2).toNat)).toInt)] u1 (fun v2 u2 => nw_V G 118 (nw_pi Φ) 620 [some (.inl 38), some (.inl 0), some (.inl 26), some (.inr x3)] [.inr v2, .inr v1] u2))))) : nw_V G 118 (nw_pi Φ) 592 [some (.inl 38), some (.inl 0), some (.inl 26), some (.inr x3)] [] σ := nw_run (cd := nw_cd118) rfl nl_cuts 25 (And.intro h.1 (And.intro (h.2).1 (nw_TI.mono ((h.2).2) (fun _ _ q_1 => And.intro h.1 (And.intro (h.2).1 (q_1))))))
set_option maxRecDepth 100000 in
theorem bk118_625 {G : nw_G} {Φ : Int → nw_S → Prop} {σ : nw_S} {x3 : Int} (h : (0 ≤ (x3 + 1) ∧ (x3 + 1) < (nw_len G : Int)) ∧ ((0 ≤ (x3 + 2) ∧ (x3 + 2) < (nw_len G : Int)) ∧ (nw_TI G 42 [.inl 0, .inr ((nw_xs G ((x3 + 1).toNat)).toInt), .inr ((nw_xs G ((x3 + 2).toNat)).toInt)] σ (fun v1 u1 => nw_TI G 106 [.inl 26, .inr ((nw_xs G ((x3 + 1).toNat)).toInt), .inr ((nw_xs G ((x3 + 2).toNat)).toInt)] u1 (fun v2 u2 => nw_V G 118 (nw_pi Φ) 653 [some (.inl 38), some (.inl 0), some (.inl 26), some (.inr x3)] [.inr v2, .inr v1] u2))))) : nw_V G 118 (nw_pi Φ) 625 [some (.inl 38), some (.inl 0), some (.inl 26), some (.inr x3)] [] σ := nw_run (cd := nw_cd118) rfl nl_cuts 25 (And.intro h.1 (And.intro (h.2).1 (nw_TI.mono ((h.2).2) (fun _ _ q_1 => And.intro h.1 (And.intro (h.2).1 (q_1))))))
set_option maxRecDepth 100000 in
theorem bk118_658 {G : nw_G} {Φ : Int → nw_S → Prop} {σ : nw_S} {x3 : Int} (h : nw_TI G 43 [.inl 0] σ (fun v1 u1 => nw_TI G 107 [.inl 26] u1 (fun v2 u2 => nw_V G 118 (nw_pi Φ) 666 [some (.inl 38), some (.inl 0), some (.inl 26), some (.inr x3)] [.inr v2, .inr v1] u2))) : nw_V G 118 (nw_pi Φ) 658 [some (.inl 38), some (.inl 0), some (.inl 26), some (.inr x3)] [] σ := nw_run (cd := nw_cd118) rfl nl_cuts 5 (h)
set_option maxRecDepth 100000 in
theorem bk118_671 {G : nw_G} {Φ : Int → nw_S → Prop} {σ : nw_S} {x3 : Int} (h : (0 ≤ (x3 + 1) ∧ (x3 + 1) < (nw_len G : Int)) ∧ (nw_TI G 44 [.inl 0, .inr ((nw_xs G ((x3 + 1).toNat)).toInt)] σ (fun v1 u1 => nw_TI G 108 [.inl 26, .inr ((nw_xs G ((x3 + 1).toNat)).toInt)] u1 (fun v2 u2 => nw_V G 118 (nw_pi Φ) 689 [some (.inl 38), some (.inl 0), some (.inl 26), some (.inr x3)] [.inr v2, .inr v1] u2)))) : nw_V G 118 (nw_pi Φ) 671 [some (.inl 38), some (.inl 0), some (.inl 26), some (.inr x3)] [] σ := nw_run (cd := nw_cd118) rfl nl_cuts 15 (And.intro h.1 (nw_TI.mono (h.2) (fun _ _ q_1 => And.intro h.1 (q_1))))
set_option maxRecDepth 100000 in
theorem bk118_694 {G : nw_G} {Φ : Int → nw_S → Prop} {σ : nw_S} {x3 : Int} (h : (0 ≤ (x3 + 1) ∧ (x3 + 1) < (nw_len G : Int)) ∧ (nw_TI G 45 [.inl 0, .inr ((nw_xs G ((x3 + 1).toNat)).toInt)] σ (fun v1 u1 => nw_TI G 109 [.inl 26, .inr ((nw_xs G ((x3 + 1).toNat)).toInt)] u1 (fun v2 u2 => nw_V G 118 (nw_pi Φ) 712 [some (.inl 38), some (.inl 0), some (.inl 26), some (.inr x3)] [.inr v2, .inr v1] u2)))) : nw_V G 118 (nw_pi Φ) 694 [some (.inl 38), some (.inl 0), some (.inl 26), some (.inr x3)] [] σ := nw_run (cd := nw_cd118) rfl nl_cuts 15 (And.intro h.1 (nw_TI.mono (h.2) (fun _ _ q_1 => And.intro h.1 (q_1))))
set_option maxRecDepth 100000 in
theorem bk118_717 {G : nw_G} {Φ : Int → nw_S → Prop} {σ : nw_S} {x3 : Int} (h : (0 ≤ (x3 + 1) ∧ (x3 + 1) < (nw_len G : Int)) ∧ (nw_TI G 46 [.inl 0, .inr ((nw_xs G ((x3 + 1).toNat)).toInt)] σ (fun v1 u1 => nw_TI G 110 [.inl 26, .inr ((nw_xs G ((x3 + 1).toNat)).toInt)] u1 (fun v2 u2 => nw_V G 118 (nw_pi Φ) 735 [some (.inl 38), some (.inl 0), some (.inl 26), some (.inr x3)] [.inr v2, .inr v1] u2)))) : nw_V G 118 (nw_pi Φ) 717 [some (.inl 38), some (.inl 0), some (.inl 26), some (.inr x3)] [] σ := nw_run (cd := nw_cd118) rfl nl_cuts 15 (And.intro h.1 (nw_TI.mono (h.2) (fun _ _ q_1 => And.intro h.1 (q_1))))
set_option maxRecDepth 100000 in
theorem bk118_740 {G : nw_G} {Φ : Int → nw_S → Prop} {σ : nw_S} {x3 : Int} (h : (0 ≤ (x3 + 1) ∧ (x3 + 1) < (nw_len G : Int)) ∧ (nw_TI G 47 [.inl 0, .inr ((nw_xs G ((x3 + 1).toNat)).toInt)] σ (fun v1 u1 => nw_TI G 111 [.inl 26, .inr ((nw_xs G ((x3 + 1).toNat)).toInt)] u1 (fun v2 u2 => nw_V G 118 (nw_pi Φ) 758 [some (.inl 38), some (.inl 0), some (.inl 26), some (.inr x3)] [.inr v2, .inr v1] u2)))) : nw_V G 118 (nw_pi Φ) 740 [some (.inl 38), some (.inl 0), some (.inl 26), some (.inr x3)] [] σ := nw_run (cd := nw_cd118) rfl nl_cuts 15 (And.intro h.1 (nw_TI.mono (h.2) (fun _ _ q_1 => And.intro h.1 (q_1))))
set_option maxRecDepth 100000 in
theorem bk118_763 {G : nw_G} {Φ : Int → nw_S → Prop} {σ : nw_S} {x3 : Int} (h : (0 ≤ (x3 + 1) ∧ (x3 + 1) < (nw_len G : Int)) ∧ ((0 ≤ (x3 + 2) ∧ (x3 + 2) < (nw_len G : Int)) ∧ ((0 ≤ (x3 + 3) ∧ (x3 + 3) < (nw_len G : Int)) ∧ ((0 ≤ (x3 + 4) ∧ (x3 + 4) < (nw_len G : Int)) ∧ ((0 ≤ (x3 + 5) ∧ (x3 + 5) < (nw_len G : Int)) ∧ (nw_TI G 48 [.inl 0, .inr ((nw_xs G ((x3 + 1).toNat)).toInt), .inr ((nw_xs G ((x3 + 2).toNat)).toInt), .inr ((nw_xs G ((x3 + 3).toNat)).toInt), .inr ((nw_xs G ((x3 + 4).toNat)).toInt), .inr ((nw_xs G ((x3 + 5).toNat)).toInt)] σ (fun v1 u1 => nw_TI G 113 [.inl 26, .inr ((nw_xs G ((x3 + 1).toNat)).toInt), .inr ((nw_xs G ((x3 + 2).toNat)).toInt), .inr ((nw_xs G ((x3 + 3).toNat)).toInt), .inr ((nw_xs G ((x3 + 4).toNat)).toInt), .inr ((nw_xs G ((x3 + 5).toNat)).toInt)] u1 (fun v2 u2 => nw_V G 118 (nw_pi Φ) 821 [some (.inl 38), some (.inl 0), some (.inl 26), some (.inr x3)] [.inr v2, .inr v1] u2)))))))) : nw_V G 118 (nw_pi Φ) 763 [some (.inl 38), some (.inl 0), some (.inl 26), some (.inr x3)] [] σ := nw_run (cd := nw_cd118) rfl nl_cuts 55 (And.intro h.1 (And.intro (h.2).1 (And.intro ((h.2).2).1 (And.intro (((h.2).2).2).1 (And.intro ((((h.2).2).2).2).1 (nw_TI.mono (((((h.2).2).2).2).2) (fun _ _ q_1 => And.intro h.1 (And.intro (h.2).1 (And.intro ((h.2).2).1 (And.intro (((h.2).2).2).1 (And.intro ((((h.2).2).2).2).1 (q_1))))))))))))
set_option maxRecDepth 100000 in
theorem bk118_826 {G : nw_G} {Φ : Int → nw_S → Prop} {σ : nw_S} {x3 : Int} (h : (0 ≤ (x3 + 1) ∧ (x3 + 1) < (nw_len G : Int)) ∧ ((0 ≤ (x3 + 2) ∧ (x3 + 2) < (nw_len G : Int)) ∧ ((0 ≤ (x3 + 3) ∧ (x3 + 3) < (nw_len G : Int)) ∧ ((0 ≤ (x3 + 4) ∧ (x3 + 4) < (nw_len G : Int)) ∧ ((0 ≤ (x3 + 5) ∧ (x3 + 5) < (nw_len G : Int)) ∧ (nw_TI G 49 [.inl 0, .inr ((nw_xs G ((x3 + 1).toNat)).toInt), .inr ((nw_xs G ((x3 + 2).toNat)).toInt), .inr ((nw_xs G ((x3 + 3).toNat)).toInt), .inr ((nw_xs G ((x3 + 4).toNat)).toInt), .inr ((nw_xs G ((x3 + 5).toNat)).toInt)] σ (fun v1 u1 => nw_TI G 114 [.inl 26, .inr ((nw_xs G ((x3 + 1).toNat)).toInt), .inr ((nw_xs G ((x3 + 2).toNat)).toInt), .inr ((nw_xs G ((x3 + 3).toNat)).toInt), .inr ((nw_xs G ((x3 + 4).toNat)).toInt), .inr ((nw_xs G ((x3 + 5).toNat)).toInt)] u1 (fun v2 u2 => nw_V G 118 (nw_pi Φ) 884 [some (.inl 38), some (.inl 0), some (.inl 26), some (.inr x3)] [.inr v2, .inr v1] u2)))))))) : nw_V G 118 (nw_pi Φ) 826 [some (.inl 38), some (.inl 0), some (.inl 26), some (.inr x3)] [] σ := nw_run (cd := nw_cd118) rfl nl_cuts 55 (And.intro h.1 (And.intro (h.2).1 (And.intro ((h.2).2).1 (And.intro (((h.2).2).2).1 (And.intro ((((h.2).2).2).2).1 (nw_TI.mono (((((h.2).2).2).2).2) (fun _ _ q_1 => And.intro h.1 (And.intro (h.2).1 (And.intro ((h.2).2).1 (And.intro (((h.2).2).2).1 (And.intro ((((h.2).2).2).2).1 (q_1))))))))))))
set_option maxRecDepth 100000 in
theorem bk118_158 {G : nw_G} {Φ : Int → nw_S → Prop} {σ : nw_S} {x3 y0 y1 : Int} (h : (nw_r y1) ∧ ((nw_r y0) ∧ ((y1 = y0 → nw_V G 118 (nw_pi Φ) 889 [some (.inl 38), some (.inl 0), some (.inl 26), some (.inr x3)] [] σ) ∧ (y1 ≠ y0 → Φ 0 σ)))) : nw_V G 118 (nw_pi Φ) 158 [some (.inl 38), some (.inl 0), some (.inl 26), some (.inr x3)] [.inr y0, .inr y1] σ := nw_run (cd := nw_cd118) rfl nl_cuts 3 (And.intro h.1 (And.intro (h.2).1 (And.intro (fun q1 => (((h.2).2).1 q1)) (fun q1 => And.intro (by decide) ((((h.2).2).2 q1))))))
set_option maxRecDepth 100000 in
theorem bk118_201 {G : nw_G} {Φ : Int → nw_S → Prop} {σ : nw_S} {x3 y0 y1 : Int} (h : (nw_r y1) ∧ ((nw_r y0) ∧ ((y1 = y0 → nw_V G 118 (nw_pi Φ) 889 [some (.inl 38), some (.inl 0), some (.inl 26), some (.inr x3)] [] σ) ∧ (y1 ≠ y0 → Φ 0 σ)))) : nw_V G 118 (nw_pi Φ) 201 [some (.inl 38), some (.inl 0), some (.inl 26), some (.inr x3)] [.inr y0, .inr y1] σ := nw_run (cd := nw_cd118) rfl nl_cuts 3 (And.intro h.1 (And.intro (h.2).1 (And.intro (fun q1 => (((h.2).2).1 q1)) (fun q1 => And.intro (by decide) ((((h.2).2).2 q1))))))
set_option maxRecDepth 100000 in
theorem bk118_264 {G : nw_G} {Φ : Int → nw_S → Prop} {σ : nw_S} {x3 y0 y1 : Int} (h : (nw_r y1) ∧ ((nw_r y0) ∧ ((y1 = y0 → nw_V G 118 (nw_pi Φ) 889 [some (.inl 38), some (.inl 0), some (.inl 26), some (.inr x3)] [] σ) ∧ (y1 ≠ y0 → Φ 0 σ)))) : nw_V G 118 (nw_pi Φ) 264 [some (.inl 38), some (.inl 0), some (.inl 26), some (.inr x3)] [.inr y0, .inr y1] σ := nw_run (cd := nw_cd118) rfl nl_cuts 3 (And.intro h.1 (And.intro (h.2).1 (And.intro (fun q1 => (((h.2).2).1 q1)) (fun q1 => And.intro (by decide) ((((h.2).2).2 q1))))))
set_option maxRecDepth 100000 in
theorem bk118_297 {G : nw_G} {Φ : Int → nw_S → Prop} {σ : nw_S} {x3 y0 y1 : Int} (h : (nw_r y1) ∧ ((nw_r y0) ∧ ((y1 = y0 → nw_V G 118 (nw_pi Φ) 889 [some (.inl 38), some (.inl 0), some (.inl 26), some (.inr x3)] [] σ) ∧ (y1 ≠ y0 → Φ 0 σ)))) : nw_V G 118 (nw_pi Φ) 297 [some (.inl 38), some (.inl 0), some (.inl 26), some (.inr x3)] [.inr y0, .inr y1] σ := nw_run (cd := nw_cd118) rfl nl_cuts 3 (And.intro h.1 (And.intro (h.2).1 (And.intro (fun q1 => (((h.2).2).1 q1)) (fun q1 => And.intro (by decide) ((((h.2).2).2 q1))))))
set_option maxRecDepth 100000 in
theorem bk118_330 {G : nw_G} {Φ : Int → nw_S → Prop} {σ : nw_S} {x3 y0 y1 : Int} (h : (nw_r y1) ∧ ((nw_r y0) ∧ ((y1 = y0 → nw_V G 118 (nw_pi Φ) 889 [some (.inl 38), some (.inl 0), some (.inl 26), some (.inr x3)] [] σ) ∧ (y1 ≠ y0 → Φ 0 σ)))) : nw_V G 118 (nw_pi Φ) 330 [some (.inl 38), some (.inl 0), some (.inl 26), some (.inr x3)] [.inr y0, .inr y1] σ := nw_run (cd := nw_cd118) rfl nl_cuts 3 (And.intro h.1 (And.intro (h.2).1 (And.intro (fun q1 => (((h.2).2).1 q1)) (fun q1 => And.intro (by decide) ((((h.2).2).2 q1))))))
set_option maxRecDepth 100000 in
theorem bk118_363 {G : nw_G} {Φ : Int → nw_S → Prop} {σ : nw_S} {x3 y0 y1 : Int} (h : (nw_r y1) ∧ ((nw_r y0) ∧ ((y1 = y0 → nw_V G 118 (nw_pi Φ) 889 [some (.inl 38), some (.inl 0), some (.inl 26), some (.inr x3)] [] σ) ∧ (y1 ≠ y0 → Φ 0 σ)))) : nw_V G 118 (nw_pi Φ) 363 [some (.inl 38), some (.inl 0), some (.inl 26), some (.inr x3)] [.inr y0, .inr y1] σ := nw_run (cd := nw_cd118) rfl nl_cuts 3 (And.intro h.1 (And.intro (h.2).1 (And.intro (fun q1 => (((h.2).2).1 q1)) (fun q1 => And.intro (by decide) ((((h.2).2).2 q1))))))
set_option maxRecDepth 100000 in
theorem bk118_386 {G : nw_G} {Φ : Int → nw_S → Prop} {σ : nw_S} {x3 y0 y1 : Int} (h : (nw_r y1) ∧ ((nw_r y0) ∧ ((y1 = y0 → nw_V G 118 (nw_pi Φ) 889 [some (.inl 38), some (.inl 0), some (.inl 26), some (.inr x3)] [] σ) ∧ (y1 ≠ y0 → Φ 0 σ)))) : nw_V G 118 (nw_pi Φ) 386 [some (.inl 38), some (.inl 0), some (.inl 26), some (.inr x3)] [.inr y0, .inr y1] σ := nw_run (cd := nw_cd118) rfl nl_cuts 3 (And.intro h.1 (And.intro (h.2).1 (And.intro (fun q1 => (((h.2).2).1 q1)) (fun q1 => And.intro (by decide) ((((h.2).2).2 q1))))))
set_option maxRecDepth 100000 in
theorem bk118_399 {G : nw_G} {Φ : Int → nw_S → Prop} {σ : nw_S} {x3 y0 y1 : Int} (h : (nw_r y1) ∧ ((nw_r y0) ∧ ((y1 = y0 → nw_V G 118 (nw_pi Φ) 889 [some (.inl 38), some (.inl 0), some (.inl 26), some (.inr x3)] [] σ) ∧ (y1 ≠ y0 → Φ 0 σ)))) : nw_V G 118 (nw_pi Φ) 399 [some (.inl 38), some (.inl 0), some (.inl 26), some (.inr x3)] [.inr y0, .inr y1] σ := nw_run (cd := nw_cd118) rfl nl_cuts 3 (And.intro h.1 (And.intro (h.2).1 (And.intro (fun q1 => (((h.2).2).1 q1)) (fun q1 => And.intro (by decide) ((((h.2).2).2 q1))))))
set_option maxRecDepth 100000 in
theorem bk118_422 {G : nw_G} {Φ : Int → nw_S → Prop} {σ : nw_S} {x3 y0 y1 : Int} (h : (nw_r y1) ∧ ((nw_r y0) ∧ ((y1 = y0 → nw_V G 118 (nw_pi Φ) 889 [some (.inl 38), some (.inl 0), some (.inl 26), some (.inr x3)] [] σ) ∧ (y1 ≠ y0 → Φ 0 σ)))) : nw_V G 118 (nw_pi Φ) 422 [some (.inl 38), some (.inl 0), some (.inl 26), some (.inr x3)] [.inr y0, .inr y1] σ := nw_run (cd := nw_cd118) rfl nl_cuts 3 (And.intro h.1 (And.intro (h.2).1 (And.intro (fun q1 => (((h.2).2).1 q1)) (fun q1 => And.intro (by decide) ((((h.2).2).2 q1))))))
set_option maxRecDepth 100000 in
theorem bk118_445 {G : nw_G} {Φ : Int → nw_S → Prop} {σ : nw_S} {x3 y0 y1 : Int} (h : (nw_r y1) ∧ ((nw_r y0) ∧ ((y1 = y0 → nw_V G 118 (nw_pi Φ) 889 [some (.inl 38), some (.inl 0), some (.inl 26), some (.inr x3)] [] σ) ∧ (y1 ≠ y0 → Φ 0 σ)))) : nw_V G 118 (nw_pi Φ) 445 [some (.inl 38), some (.inl 0), some (.inl 26), some (.inr x3)] [.inr y0, .inr y1] σ := nw_run (cd := nw_cd118) rfl nl_cuts 3 (And.intro h.1 (And.intro (h.2).1 (And.intro (fun q1 => (((h.2).2).1 q1)) (fun q1 => And.intro (by decide) ((((h.2).2).2 q1))))))
set_option maxRecDepth 100000 in
theorem bk118_478 {G : nw_G} {Φ : Int → nw_S → Prop} {σ : nw_S} {x3 y0 y1 : Int} (h : (nw_r y1) ∧ ((nw_r y0) ∧ ((y1 = y0 → nw_V G 118 (nw_pi Φ) 889 [some (.inl 38), some (.inl 0), some (.inl 26), some (.inr x3)] [] σ) ∧ (y1 ≠ y0 → Φ 0 σ)))) : nw_V G 118 (nw_pi Φ) 478 [some (.inl 38), some (.inl 0), some (.inl 26), some (.inr x3)] [.inr y0, .inr y1] σ := nw_run (cd := nw_cd118) rfl nl_cuts 3 (And.intro h.1 (And.intro (h.2).1 (And.intro (fun q1 => (((h.2).2).1 q1)) (fun q1 => And.intro (by decide) ((((h.2).2).2 q1))))))
set_option maxRecDepth 100000 in
theorem bk118_521 {G : nw_G} {Φ : Int → nw_S → Prop} {σ : nw_S} {x3 y0 y1 : Int} (h : (nw_r y1) ∧ ((nw_r y0) ∧ ((y1 = y0 → nw_V G 118 (nw_pi Φ) 889 [some (.inl 38), some (.inl 0), some (.inl 26), some (.inr x3)] [] σ) ∧ (y1 ≠ y0 → Φ 0 σ)))) : nw_V G 118 (nw_pi Φ) 521 [some (.inl 38), some (.inl 0), some (.inl 26), some (.inr x3)] [.inr y0, .inr y1] σ := nw_run (cd := nw_cd118) rfl nl_cuts 3 (And.intro h.1 (And.intro (h.2).1 (And.intro (fun q1 => (((h.2).2).1 q1)) (fun q1 => And.intro (by decide) ((((h.2).2).2 q1))))))
set_option maxRecDepth 100000 in
theorem bk118_554 {G : nw_G} {Φ : Int → nw_S → Prop} {σ : nw_S} {x3 y0 y1 : Int} (h : (nw_r y1) ∧ ((nw_r y0) ∧ ((y1 = y0 → nw_V G 118 (nw_pi Φ) 889 [some (.inl 38), some (.inl 0), some (.inl 26), some (.inr x3)] [] σ) ∧ (y1 ≠ y0 → Φ 0 σ)))) : nw_V G 118 (nw_pi Φ) 554 [some (.inl 38), some (.inl 0), some (.inl 26), some (.inr x3)] [.inr y0, .inr y1] σ := nw_run (cd := nw_cd118) rfl nl_cuts 3 (And.intro h.1 (And.intro (h.2).1 (And.intro (fun q1 => (((h.2).2).1 q1)) (fun q1 => And.intro (by decide) ((((h.2).2).2 q1))))))
set_option maxRecDepth 100000 in
theorem bk118_587 {G : nw_G} {Φ : Int → nw_S → Prop} {σ : nw_S} {x3 y0 y1 : Int} (h : (nw_r y1) ∧ ((nw_r y0) ∧ ((y1 = y0 → nw_V G 118 (nw_pi Φ) 889 [some (.inl 38), some (.inl 0), some (.inl 26), some (.inr x3)] [] σ) ∧ (y1 ≠ y0 → Φ 0 σ)))) : nw_V G 118 (nw_pi Φ) 587 [some (.inl 38), some (.inl 0), some (.inl 26), some (.inr x3)] [.inr y0, .inr y1] σ := nw_run (cd := nw_cd118) rfl nl_cuts 3 (And.intro h.1 (And.intro (h.2).1 (And.intro (fun q1 => (((h.2).2).1 q1)) (fun q1 => And.intro (by decide) ((((h.2).2).2 q1))))))
set_option maxRecDepth 100000 in
theorem bk118_620 {G : nw_G} {Φ : Int → nw_S → Prop} {σ : nw_S} {x3 y0 y1 : Int} (h : (nw_r y1) ∧ ((nw_r y0) ∧ ((y1 = y0 → nw_V G 118 (nw_pi Φ) 889 [some (.inl 38), some (.inl 0), some (.inl 26), some (.inr x3)] [] σ) ∧ (y1 ≠ y0 → Φ 0 σ)))) : nw_V G 118 (nw_pi Φ) 620 [some (.inl 38), some (.inl 0), some (.inl 26), some (.inr x3)] [.inr y0, .inr y1] σ := nw_run (cd := nw_cd118) rfl nl_cuts 3 (And.intro h.1 (And.intro (h.2).1 (And.intro (fun q1 => (((h.2).2).1 q1)) (fun q1 => And.intro (by decide) ((((h.2).2).2 q1))))))
set_option maxRecDepth 100000 in
theorem bk118_653 {G : nw_G} {Φ : Int → nw_S → Prop} {σ : nw_S} {x3 y0 y1 : Int} (h : (nw_r y1) ∧ ((nw_r y0) ∧ ((y1 = y0 → nw_V G 118 (nw_pi Φ) 889 [some (.inl 38), some (.inl 0), some (.inl 26), some (.inr x3)] [] σ) ∧ (y1 ≠ y0 → Φ 0 σ)))) : nw_V G 118 (nw_pi Φ) 653 [some (.inl 38), some (.inl 0), some (.inl 26), some (.inr x3)] [.inr y0, .inr y1] σ := nw_run (cd := nw_cd118) rfl nl_cuts 3 (And.intro h.1 (And.intro (h.2).1 (And.intro (fun q1 => (((h.2).2).1 q1)) (fun q1 => And.intro (by decide) ((((h.2).2).2 q1))))))
set_option maxRecDepth 100000 in
theorem bk118_666 {G : nw_G} {Φ : Int → nw_S → Prop} {σ : nw_S} {x3 y0 y1 : Int} (h : (nw_r y1) ∧ ((nw_r y0) ∧ ((y1 = y0 → nw_V G 118 (nw_pi Φ) 889 [some (.inl 38), some (.inl 0), some (.inl 26), some (.inr x3)] [] σ) ∧ (y1 ≠ y0 → Φ 0 σ)))) : nw_V G 118 (nw_pi Φ) 666 [some (.inl 38), some (.inl 0), some (.inl 26), some (.inr x3)] [.inr y0, .inr y1] σ := nw_run (cd := nw_cd118) rfl nl_cuts 3 (And.intro h.1 (And.intro (h.2).1 (And.intro (fun q1 => (((h.2).2).1 q1)) (fun q1 => And.intro (by decide) ((((h.2).2).2 q1))))))
set_option maxRecDepth 100000 in
theorem bk118_689 {G : nw_G} {Φ : Int → nw_S → Prop} {σ : nw_S} {x3 y0 y1 : Int} (h : (nw_r y1) ∧ ((nw_r y0) ∧ ((y1 = y0 → nw_V G 118 (nw_pi Φ) 889 [some (.inl 38), some (.inl 0), some (.inl 26), some (.inr x3)] [] σ) ∧ (y1 ≠ y0 → Φ 0 σ)))) : nw_V G 118 (nw_pi Φ) 689 [some (.inl 38), some (.inl 0), some (.inl 26), some (.inr x3)] [.inr y0, .inr y1] σ := nw_run (cd := nw_cd118) rfl nl_cuts 3 (And.intro h.1 (And.intro (h.2).1 (And.intro (fun q1 => (((h.2).2).1 q1)) (fun q1 => And.intro (by decide) ((((h.2).2).2 q1))))))
set_option maxRecDepth 100000 in
theorem bk118_712 {G : nw_G} {Φ : Int → nw_S → Prop} {σ : nw_S} {x3 y0 y1 : Int} (h : (nw_r y1) ∧ ((nw_r y0) ∧ ((y1 = y0 → nw_V G 118 (nw_pi Φ) 889 [some (.inl 38), some (.inl 0), some (.inl 26), some (.inr x3)] [] σ) ∧ (y1 ≠ y0 → Φ 0 σ)))) : nw_V G 118 (nw_pi Φ) 712 [some (.inl 38), some (.inl 0), some (.inl 26), some (.inr x3)] [.inr y0, .inr y1] σ := nw_run (cd := nw_cd118) rfl nl_cuts 3 (And.intro h.1 (And.intro (h.2).1 (And.intro (fun q1 => (((h.2).2).1 q1)) (fun q1 => And.intro (by decide) ((((h.2).2).2 q1))))))
set_option maxRecDepth 100000 in
theorem bk118_735 {G : nw_G} {Φ : Int → nw_S → Prop} {σ : nw_S} {x3 y0 y1 : Int} (h : (nw_r y1) ∧ ((nw_r y0) ∧ ((y1 = y0 → nw_V G 118 (nw_pi Φ) 889 [some (.inl 38), some (.inl 0), some (.inl 26), some (.inr x3)] [] σ) ∧ (y1 ≠ y0 → Φ 0 σ)))) : nw_V G 118 (nw_pi Φ) 735 [some (.inl 38), some (.inl 0), some (.inl 26), some (.inr x3)] [.inr y0, .inr y1] σ := nw_run (cd := nw_cd118) rfl nl_cuts 3 (And.intro h.1 (And.intro (h.2).1 (And.intro (fun q1 => (((h.2).2).1 q1)) (fun q1 => And.intro (by decide) ((((h.2).2).2 q1))))))
set_option maxRecDepth 100000 in
theorem bk118_758 {G : nw_G} {Φ : Int → nw_S → Prop} {σ : nw_S} {x3 y0 y1 : Int} (h : (nw_r y1) ∧ ((nw_r y0) ∧ ((y1 = y0 → nw_V G 118 (nw_pi Φ) 889 [some (.inl 38), some (.inl 0), some (.inl 26), some (.inr x3)] [] σ) ∧ (y1 ≠ y0 → Φ 0 σ)))) : nw_V G 118 (nw_pi Φ) 758 [some (.inl 38), some (.inl 0), some (.inl 26), some (.inr x3)] [.inr y0, .inr y1] σ := nw_run (cd := nw_cd118) rfl nl_cuts 3 (And.intro h.1 (And.intro (h.2).1 (And.intro (fun q1 => (((h.2).2).1 q1)) (fun q1 => And.intro (by decide) ((((h.2).2).2 q1))))))
set_option maxRecDepth 100000 in
theorem bk118_821 {G : nw_G} {Φ : Int → nw_S → Prop} {σ : nw_S} {x3 y0 y1 : Int} (h : (nw_r y1) ∧ ((nw_r y0) ∧ ((y1 = y0 → nw_V G 118 (nw_pi Φ) 889 [some (.inl 38), some (.inl 0), some (.inl 26), some (.inr x3)] [] σ) ∧ (y1 ≠ y0 → Φ 0 σ)))) : nw_V G 118 (nw_pi Φ) 821 [some (.inl 38), some (.inl 0), some (.inl 26), some (.inr x3)] [.inr y0, .inr y1] σ := nw_run (cd := nw_cd118) rfl nl_cuts 3 (And.intro h.1 (And.intro (h.2).1 (And.intro (fun q1 => (((h.2).2).1 q1)) (fun q1 => And.intro (by decide) ((((h.2).2).2 q1))))))
set_option maxRecDepth 100000 in
theorem bk118_884 {G : nw_G} {Φ : Int → nw_S → Prop} {σ : nw_S} {x3 y0 y1 : Int} (h : (nw_r y1) ∧ ((nw_r y0) ∧ ((y1 = y0 → nw_V G 118 (nw_pi Φ) 889 [some (.inl 38), some (.inl 0), some (.inl 26), some (.inr x3)] [] σ) ∧ (y1 ≠ y0 → Φ 0 σ)))) : nw_V G 118 (nw_pi Φ) 884 [some (.inl 38), some (.inl 0), some (.inl 26), some (.inr x3)] [.inr y0, .inr y1] σ := nw_run (cd := nw_cd118) rfl nl_cuts 3 (And.intro h.1 (And.intro (h.2).1 (And.intro (fun q1 => (((h.2).2).1 q1)) (fun q1 => And.intro (by decide) ((((h.2).2).2 q1))))))
set_option maxRecDepth 100000 in
theorem bk118_889 {G : nw_G} {Φ : Int → nw_S → Prop} {σ : nw_S} {x3 : Int} (h : nw_V G 118 (nw_pi Φ) 18 [some (.inl 38), some (.inl 0), some (.inl 26), some (.inr (x3 + 6))] [] σ) : nw_V G 118 (nw_pi Φ) 889 [some (.inl 38), some (.inl 0), some (.inl 26), some (.inr x3)] [] σ := nw_run (cd := nw_cd118) rfl nl_cuts 3 (h)
end
section
section NL1
variable {G : nw_G} {σ : nw_S} {D : nd_D}
theorem nl_fr1 {u : nw_S} (h : nm_st D σ) (e : ∀ k, 26 ≤ k → u k = σ k) : nm_st D u := by
  have e26 := e 26 (by decide)
  refine ⟨h.1.to (fun k _ _ _ => e k (by omega)) (by rw [e26]) (by rw [e26]), ?_⟩
  rcases h.2 with q | q
  · exact Or.inl (by rw [e26]; exact q)
  · exact Or.inr ⟨by rw [e26]; exact q.1, by rw [e 35 (by decide)]; exact q.2⟩
theorem nl_fr0 {u : nw_S} (h : nc_st D σ) (e : ∀ k, k < 26 → u k = σ k) : nc_st D u := by
  refine ⟨h.1.to (fun k _ _ => e k (by omega)), ?_, h.2.2.to (by rw [e 0 (by decide)]) (fun k _ _ => e k (by omega))⟩
  have e0 := e 0 (by decide)
  have e16 := e 16 (by decide)
  rcases h.2.1 with q | q
  · exact Or.inl (by rw [e0]; exact q)
  · exact Or.inr ⟨by rw [e0]; exact q.1, by unfold nc_tp; rw [e16]; exact q.2⟩
theorem nl_r (x : Int32) : nw_r x.toInt := nb_r x
theorem nl_two {μ : Nat} {Ψ : Option Int → nw_S → Prop} {pc : Nat} {ls : nw_L} {v : Int} (h : nw_V G μ Ψ pc ls [.inr (Int32.ofInt v).toInt, .inr (Int32.ofInt v).toInt] σ) : nw_V G μ Ψ pc ls [.inr v, .inr v] σ := by
  intro p e s m args below meth c cs ss Q R A hG H locs la hl hP hS
  have := h p e s m args below meth c cs ss Q R A hG H locs la hl hP hS
  simp only [List.map_cons, List.map_nil, nw_cv, Int32.ofInt_toInt] at this ⊢
  exact this
theorem nl_q158 {Φ : Int → nw_S → Prop} {x3 v : Int} (h : nw_V G 118 (nw_pi Φ) 889 [some (.inl 38), some (.inl 0), some (.inl 26), some (.inr x3)] [] σ) : nw_V G 118 (nw_pi Φ) 158 [some (.inl 38), some (.inl 0), some (.inl 26), some (.inr x3)] [.inr v, .inr v] σ := nl_two (bk118_158 ⟨nl_r _, nl_r _, fun _ => h, fun y => absurd rfl y⟩)
theorem nl_q201 {Φ : Int → nw_S → Prop} {x3 v : Int} (h : nw_V G 118 (nw_pi Φ) 889 [some (.inl 38), some (.inl 0), some (.inl 26), some (.inr x3)] [] σ) : nw_V G 118 (nw_pi Φ) 201 [some (.inl 38), some (.inl 0), some (.inl 26), some (.inr x3)] [.inr v, .inr v] σ := nl_two (bk118_201 ⟨nl_r _, nl_r _, fun _ => h, fun y => absurd rfl y⟩)
theorem nl_q264 {Φ : Int → nw_S → Prop} {x3 v : Int} (h : nw_V G 118 (nw_pi Φ) 889 [some (.inl 38), some (.inl 0), some (.inl 26), some (.inr x3)] [] σ) : nw_V G 118 (nw_pi Φ) 264 [some (.inl 38), some (.inl 0), some (.inl 26), some (.inr x3)] [.inr v, .inr v] σ := nl_two (bk118_264 ⟨nl_r _, nl_r _, fun _ => h, fun y => absurd rfl y⟩)
theorem nl_q297 {Φ : Int → nw_S → Prop} {x3 v : Int} (h : nw_V G 118 (nw_pi Φ) 889 [some (.inl 38), some (.inl 0), some (.inl 26), some (.inr x3)] [] σ) : nw_V G 118 (nw_pi Φ) 297 [some (.inl 38), some (.inl 0), some (.inl 26), some (.inr x3)] [.inr v, .inr v] σ := nl_two (bk118_297 ⟨nl_r _, nl_r _, fun _ => h, fun y => absurd rfl y⟩)
theorem nl_q330 {Φ : Int → nw_S → Prop} {x3 v : Int} (h : nw_V G 118 (nw_pi Φ) 889 [some (.inl 38), some (.inl 0), some (.inl 26), some (.inr x3)] [] σ) : nw_V G 118 (nw_pi Φ) 330 [some (.inl 38), some (.inl 0), some (.inl 26), some (.inr x3)] [.inr v, .inr v] σ := nl_two (bk118_330 ⟨nl_r _, nl_r _, fun _ => h, fun y => absurd rfl y⟩)
theorem nl_q363 {Φ : Int → nw_S → Prop} {x3 v : Int} (h : nw_V G 118 (nw_pi Φ) 889 [some (.inl 38), some (.inl 0), some (.inl 26), some (.inr x3)] [] σ) : nw_V G 118 (nw_pi Φ) 363 [some (.inl 38), some (.inl 0), some (.inl 26), some (.inr x3)] [.inr v, .inr v] σ := nl_two (bk118_363 ⟨nl_r _, nl_r _, fun _ => h, fun y => absurd rfl y⟩)
theorem nl_q386 {Φ : Int → nw_S → Prop} {x3 v : Int} (h : nw_V G 118 (nw_pi Φ) 889 [some (.inl 38), some (.inl 0), some (.inl 26), some (.inr x3)] [] σ) : nw_V G 118 (nw_pi Φ) 386 [some (.inl 38), some (.inl 0), some (.inl 26), some (.inr x3)] [.inr v, .inr v] σ := nl_two (bk118_386 ⟨nl_r _, nl_r _, fun _ => h, fun y => absurd rfl y⟩)
theorem nl_q399 {Φ : Int → nw_S → Prop} {x3 v : Int} (h : nw_V G 118 (nw_pi Φ) 889 [some (.inl 38), some (.inl 0), some (.inl 26), some (.inr x3)] [] σ) : nw_V G 118 (nw_pi Φ) 399 [some (.inl 38), some (.inl 0), some (.inl 26), some (.inr x3)] [.inr v, .inr v] σ := nl_two (bk118_399 ⟨nl_r _, nl_r _, fun _ => h, fun y => absurd rfl y⟩)
theorem nl_q422 {Φ : Int → nw_S → Prop} {x3 v : Int} (h : nw_V G 118 (nw_pi Φ) 889 [some (.inl 38), some (.inl 0), some (.inl 26), some (.inr x3)] [] σ) : nw_V G 118 (nw_pi Φ) 422 [some (.inl 38), some (.inl 0), some (.inl 26), some (.inr x3)] [.inr v, .inr v] σ := nl_two (bk118_422 ⟨nl_r _, nl_r _, fun _ => h, fun y => absurd rfl y⟩)
theorem nl_q445 {Φ : Int → nw_S → Prop} {x3 v : Int} (h : nw_V G 118 (nw_pi Φ) 889 [some (.inl 38), some (.inl 0), some (.inl 26), some (.inr x3)] [] σ) : nw_V G 118 (nw_pi Φ) 445 [some (.inl 38), some (.inl 0), some (.inl 26), some (.inr x3)] [.inr v, .inr v] σ := nl_two (bk118_445 ⟨nl_r _, nl_r _, fun _ => h, fun y => absurd rfl y⟩)
theorem nl_q478 {Φ : Int → nw_S → Prop} {x3 v : Int} (h : nw_V G 118 (nw_pi Φ) 889 [some (.inl 38), some (.inl 0), some (.inl 26), some (.inr x3)] [] σ) : nw_V G 118 (nw_pi Φ) 478 [some (.inl 38), some (.inl 0), some (.inl 26), some (.inr x3)] [.inr v, .inr v] σ := nl_two (bk118_478 ⟨nl_r _, nl_r _, fun _ => h, fun y => absurd rfl y⟩)
theorem nl_q521 {Φ : Int → nw_S → Prop} {x3 v : Int} (h : nw_V G 118 (nw_pi Φ) 889 [some (.inl 38), some (.inl 0), some (.inl 26), some (.inr x3)] [] σ) : nw_V G 118 (nw_pi Φ) 521 [some (.inl 38), some (.inl 0), some (.inl 26), some (.inr x3)] [.inr v, .inr v] σ := nl_two (bk118_521 ⟨nl_r _, nl_r _, fun _ => h, fun y => absurd rfl y⟩)
theorem nl_q554 {Φ : Int → nw_S → Prop} {x3 v : Int} (h : nw_V G 118 (nw_pi Φ) 889 [some (.inl 38), some (.inl 0), some (.inl 26), some (.inr x3)] [] σ) : nw_V G 118 (nw_pi Φ) 554 [some (.inl 38), some (.inl 0), some (.inl 26), some (.inr x3)] [.inr v, .inr v] σ := nl_two (bk118_554 ⟨nl_r _, nl_r _, fun _ => h, fun y => absurd rfl y⟩)
theorem nl_q587 {Φ : Int → nw_S → Prop} {x3 v : Int} (h : nw_V G 118 (nw_pi Φ) 889 [some (.inl 38), some (.inl 0), some (.inl 26), some (.inr x3)] [] σ) : nw_V G 118 (nw_pi Φ) 587 [some (.inl 38), some (.inl 0), some (.inl 26), some (.inr x3)] [.inr v, .inr v] σ := nl_two (bk118_587 ⟨nl_r _, nl_r _, fun _ => h, fun y => absurd rfl y⟩)
theorem nl_q620 {Φ : Int → nw_S → Prop} {x3 v : Int} (h : nw_V G 118 (nw_pi Φ) 889 [some (.inl 38), some (.inl 0), some (.inl 26), some (.inr x3)] [] σ) : nw_V G 118 (nw_pi Φ) 620 [some (.inl 38), some (.inl 0), some (.inl 26), some (.inr x3)] [.inr v, .inr v] σ := nl_two (bk118_620 ⟨nl_r _, nl_r _, fun _ => h, fun y => absurd rfl y⟩)
theorem nl_q653 {Φ : Int → nw_S → Prop} {x3 v : Int} (h : nw_V G 118 (nw_pi Φ) 889 [some (.inl 38), some (.inl 0), some (.inl 26), some (.inr x3)] [] σ) : nw_V G 118 (nw_pi Φ) 653 [some (.inl 38), some (.inl 0), some (.inl 26), some (.inr x3)] [.inr v, .inr v] σ := nl_two (bk118_653 ⟨nl_r _, nl_r _, fun _ => h, fun y => absurd rfl y⟩)
theorem nl_q666 {Φ : Int → nw_S → Prop} {x3 v : Int} (h : nw_V G 118 (nw_pi Φ) 889 [some (.inl 38), some (.inl 0), some (.inl 26), some (.inr x3)] [] σ) : nw_V G 118 (nw_pi Φ) 666 [some (.inl 38), some (.inl 0), some (.inl 26), some (.inr x3)] [.inr v, .inr v] σ := nl_two (bk118_666 ⟨nl_r _, nl_r _, fun _ => h, fun y => absurd rfl y⟩)
theorem nl_q689 {Φ : Int → nw_S → Prop} {x3 v : Int} (h : nw_V G 118 (nw_pi Φ) 889 [some (.inl 38), some (.inl 0), some (.inl 26), some (.inr x3)] [] σ) : nw_V G 118 (nw_pi Φ) 689 [some (.inl 38), some (.inl 0), some (.inl 26), some (.inr x3)] [.inr v, .inr v] σ := nl_two (bk118_689 ⟨nl_r _, nl_r _, fun _ => h, fun y => absurd rfl y⟩)
theorem nl_q712 {Φ : Int → nw_S → Prop} {x3 v : Int} (h : nw_V G 118 (nw_pi Φ) 889 [some (.inl 38), some (.inl 0), some (.inl 26), some (.inr x3)] [] σ) : nw_V G 118 (nw_pi Φ) 712 [some (.inl 38), some (.inl 0), some (.inl 26), some (.inr x3)] [.inr v, .inr v] σ := nl_two (bk118_712 ⟨nl_r _, nl_r _, fun _ => h, fun y => absurd rfl y⟩)
theorem nl_q735 {Φ : Int → nw_S → Prop} {x3 v : Int} (h : nw_V G 118 (nw_pi Φ) 889 [some (.inl 38), some (.inl 0), some (.inl 26), some (.inr x3)] [] σ) : nw_V G 118 (nw_pi Φ) 735 [some (.inl 38), some (.inl 0), some (.inl 26), some (.inr x3)] [.inr v, .inr v] σ := nl_two (bk118_735 ⟨nl_r _, nl_r _, fun _ => h, fun y => absurd rfl y⟩)
theorem nl_q758 {Φ : Int → nw_S → Prop} {x3 v : Int} (h : nw_V G 118 (nw_pi Φ) 889 [some (.inl 38), some (.inl 0), some (.inl 26), some (.inr x3)] [] σ) : nw_V G 118 (nw_pi Φ) 758 [some (.inl 38), some (.inl 0), some (.inl 26), some (.inr x3)] [.inr v, .inr v] σ := nl_two (bk118_758 ⟨nl_r _, nl_r _, fun _ => h, fun y => absurd rfl y⟩)
theorem nl_q821 {Φ : Int → nw_S → Prop} {x3 v : Int} (h : nw_V G 118 (nw_pi Φ) 889 [some (.inl 38), some (.inl 0), some (.inl 26), some (.inr x3)] [] σ) : nw_V G 118 (nw_pi Φ) 821 [some (.inl 38), some (.inl 0), some (.inl 26), some (.inr x3)] [.inr v, .inr v] σ := nl_two (bk118_821 ⟨nl_r _, nl_r _, fun _ => h, fun y => absurd rfl y⟩)
theorem nl_q884 {Φ : Int → nw_S → Prop} {x3 v : Int} (h : nw_V G 118 (nw_pi Φ) 889 [some (.inl 38), some (.inl 0), some (.inl 26), some (.inr x3)] [] σ) : nw_V G 118 (nw_pi Φ) 884 [some (.inl 38), some (.inl 0), some (.inl 26), some (.inr x3)] [.inr v, .inr v] σ := nl_two (bk118_884 ⟨nl_r _, nl_r _, fun _ => h, fun y => absurd rfl y⟩)
theorem nl_c0 {Φ : Int → nw_S → Prop} {x3 : Int} (hw : nd_wf D) (hC : nc_st D σ) (hM : nm_st D σ) (h0 : 0 ≤ x3) (h1 : x3 + 6 ≤ (nw_len G : Int)) (go : (∀ (D : nd_D) (u : nw_S), nd_wf D → nc_st D u → nm_st D u → nw_V G 118 (nw_pi Φ) 889 [some (.inl 38), some (.inl 0), some (.inl 26), some (.inr x3)] [] u)) : nw_V G 118 (nw_pi Φ) 140 [some (.inl 38), some (.inl 0), some (.inl 26), some (.inr x3)] [] σ := bk118_140 ⟨by omega, c27 hw hC (nl_r _) (fun u hu hk => m70 hw (nl_fr1 hM hk) (nl_r _) (fun w hv hl => nl_q158 (go _ w (nu_choice_wf hw _) (nl_fr0 hu hl) hv)))⟩
theorem nl_c1 {Φ : Int → nw_S → Prop} {x3 : Int} (hw : nd_wf D) (hC : nc_st D σ) (hM : nm_st D σ) (h0 : 0 ≤ x3) (h1 : x3 + 6 ≤ (nw_len G : Int)) (go : (∀ (D : nd_D) (u : nw_S), nd_wf D → nc_st D u → nm_st D u → nw_V G 118 (nw_pi Φ) 889 [some (.inl 38), some (.inl 0), some (.inl 26), some (.inr x3)] [] u)) : nw_V G 118 (nw_pi Φ) 163 [some (.inl 38), some (.inl 0), some (.inl 26), some (.inr x3)] [] σ := bk118_163 ⟨by omega, by omega, by omega, c28 hw hC (nl_r _) (nl_r _) (nl_r _) (fun u hu hk => m71 hw (nl_fr1 hM hk) (nl_r _) (nl_r _) (nl_r _) (fun w hv hl => nl_q201 (go _ w (nu_worth_wf hw _ _ _) (nl_fr0 hu hl) hv)))⟩
theorem nl_c2 {Φ : Int → nw_S → Prop} {x3 : Int} (hw : nd_wf D) (hC : nc_st D σ) (hM : nm_st D σ) (h0 : 0 ≤ x3) (h1 : x3 + 6 ≤ (nw_len G : Int)) (go : (∀ (D : nd_D) (u : nw_S), nd_wf D → nc_st D u → nm_st D u → nw_V G 118 (nw_pi Φ) 889 [some (.inl 38), some (.inl 0), some (.inl 26), some (.inr x3)] [] u)) : nw_V G 118 (nw_pi Φ) 206 [some (.inl 38), some (.inl 0), some (.inl 26), some (.inr x3)] [] σ := bk118_206 ⟨by omega, by omega, by omega, by omega, by omega, c29 hw hC (nl_r _) (nl_r _) (nl_r _) (nl_r _) (nl_r _) (fun u hu hk => m73 hw (nl_fr1 hM hk) (nl_r _) (nl_r _) (nl_r _) (nl_r _) (nl_r _) (fun w hv hl => nl_q264 (go _ w (nu_rule_wf hw (nl_r _) (nl_r _) (nl_r _) (nl_r _)) (nl_fr0 hu hl) hv)))⟩
theorem nl_c3 {Φ : Int → nw_S → Prop} {x3 : Int} (hw : nd_wf D) (hC : nc_st D σ) (hM : nm_st D σ) (h0 : 0 ≤ x3) (h1 : x3 + 6 ≤ (nw_len G : Int)) (go : (∀ (D : nd_D) (u : nw_S), nd_wf D → nc_st D u → nm_st D u → nw_V G 118 (nw_pi Φ) 889 [some (.inl 38), some (.inl 0), some (.inl 26), some (.inr x3)] [] u)) : nw_V G 118 (nw_pi Φ) 269 [some (.inl 38), some (.inl 0), some (.inl 26), some (.inr x3)] [] σ := bk118_269 ⟨by omega, by omega, c30 hw hC (nl_r _) (nl_r _) (fun u hu hk => m74 hw (nl_fr1 hM hk) (nl_r _) (nl_r _) (fun w hv hl => nl_q297 (go _ w (nu_mode_wf hw _ _) (nl_fr0 hu hl) hv)))⟩
theorem nl_c4 {Φ : Int → nw_S → Prop} {x3 : Int} (hw : nd_wf D) (hC : nc_st D σ) (hM : nm_st D σ) (h0 : 0 ≤ x3) (h1 : x3 + 6 ≤ (nw_len G : Int)) (go : (∀ (D : nd_D) (u : nw_S), nd_wf D → nc_st D u → nm_st D u → nw_V G 118 (nw_pi Φ) 889 [some (.inl 38), some (.inl 0), some (.inl 26), some (.inr x3)] [] u)) : nw_V G 118 (nw_pi Φ) 302 [some (.inl 38), some (.inl 0), some (.inl 26), some (.inr x3)] [] σ := bk118_302 ⟨by omega, by omega, c31 hw hC (nl_r _) (nl_r _) (fun u hu hk => m75 hw (nl_fr1 hM hk) (nl_r _) (nl_r _) (fun w hv hl => nl_q330 (go _ w (nu_weigh_wf hw _ _) (nl_fr0 hu hl) hv)))⟩
theorem nl_c5 {Φ : Int → nw_S → Prop} {x3 : Int} (hw : nd_wf D) (hC : nc_st D σ) (hM : nm_st D σ) (h0 : 0 ≤ x3) (h1 : x3 + 6 ≤ (nw_len G : Int)) (go : (∀ (D : nd_D) (u : nw_S), nd_wf D → nc_st D u → nm_st D u → nw_V G 118 (nw_pi Φ) 889 [some (.inl 38), some (.inl 0), some (.inl 26), some (.inr x3)] [] u)) : nw_V G 118 (nw_pi Φ) 335 [some (.inl 38), some (.inl 0), some (.inl 26), some (.inr x3)] [] σ := bk118_335 ⟨by omega, by omega, c32 hw hC (nl_r _) (nl_r _) (m76 hw hM (nl_r _) (nl_r _) (nl_q363 (go D σ hw hC hM)))⟩
theorem nl_c6 {Φ : Int → nw_S → Prop} {x3 : Int} (hw : nd_wf D) (hC : nc_st D σ) (hM : nm_st D σ) (h0 : 0 ≤ x3) (h1 : x3 + 6 ≤ (nw_len G : Int)) (go : (∀ (D : nd_D) (u : nw_S), nd_wf D → nc_st D u → nm_st D u → nw_V G 118 (nw_pi Φ) 889 [some (.inl 38), some (.inl 0), some (.inl 26), some (.inr x3)] [] u)) : nw_V G 118 (nw_pi Φ) 368 [some (.inl 38), some (.inl 0), some (.inl 26), some (.inr x3)] [] σ := bk118_368 ⟨by omega, c33 hw hC (nl_r _) (fun u hu hk => m97 hw (nl_fr1 hM hk) (nl_r _) (fun w hv hl => nl_q386 (go D w hw (nl_fr0 hu hl) hv)))⟩
theorem nl_c7 {Φ : Int → nw_S → Prop} {x3 : Int} (hw : nd_wf D) (hC : nc_st D σ) (hM : nm_st D σ) (h0 : 0 ≤ x3) (h1 : x3 + 6 ≤ (nw_len G : Int)) (go : (∀ (D : nd_D) (u : nw_S), nd_wf D → nc_st D u → nm_st D u → nw_V G 118 (nw_pi Φ) 889 [some (.inl 38), some (.inl 0), some (.inl 26), some (.inr x3)] [] u)) : nw_V G 118 (nw_pi Φ) 391 [some (.inl 38), some (.inl 0), some (.inl 26), some (.inr x3)] [] σ := bk118_391 (c34 hw hC  (fun u hu hk => m98 hw (nl_fr1 hM hk)  (fun w hv hl => nl_q399 (go D w hw (nl_fr0 hu hl) hv))))
theorem nl_c8 {Φ : Int → nw_S → Prop} {x3 : Int} (hw : nd_wf D) (hC : nc_st D σ) (hM : nm_st D σ) (h0 : 0 ≤ x3) (h1 : x3 + 6 ≤ (nw_len G : Int)) (go : (∀ (D : nd_D) (u : nw_S), nd_wf D → nc_st D u → nm_st D u → nw_V G 118 (nw_pi Φ) 889 [some (.inl 38), some (.inl 0), some (.inl 26), some (.inr x3)] [] u)) : nw_V G 118 (nw_pi Φ) 404 [some (.inl 38), some (.inl 0), some (.inl 26), some (.inr x3)] [] σ := bk118_404 ⟨by omega, c35 hw hC (nl_r _) (fun u hu hk => m99 hw (nl_fr1 hM hk) (nl_r _) (fun w hv hl => nl_q422 (go D w hw (nl_fr0 hu hl) hv)))⟩
theorem nl_c9 {Φ : Int → nw_S → Prop} {x3 : Int} (hw : nd_wf D) (hC : nc_st D σ) (hM : nm_st D σ) (h0 : 0 ≤ x3) (h1 : x3 + 6 ≤ (nw_len G : Int)) (go : (∀ (D : nd_D) (u : nw_S), nd_wf D → nc_st D u → nm_st D u → nw_V G 118 (nw_pi Φ) 889 [some (.inl 38), some (.inl 0), some (.inl 26), some (.inr x3)] [] u)) : nw_V G 118 (nw_pi Φ) 427 [some (.inl 38), some (.inl 0), some (.inl 26), some (.inr x3)] [] σ := bk118_427 ⟨by omega, c36 hw hC (nl_r _) (fun u hu hk => m100 hw (nl_fr1 hM hk) (nl_r _) (fun w hv hl => nl_q445 (go D w hw (nl_fr0 hu hl) hv)))⟩
theorem nl_c10 {Φ : Int → nw_S → Prop} {x3 : Int} (hw : nd_wf D) (hC : nc_st D σ) (hM : nm_st D σ) (h0 : 0 ≤ x3) (h1 : x3 + 6 ≤ (nw_len G : Int)) (go : (∀ (D : nd_D) (u : nw_S), nd_wf D → nc_st D u → nm_st D u → nw_V G 118 (nw_pi Φ) 889 [some (.inl 38), some (.inl 0), some (.inl 26), some (.inr x3)] [] u)) : nw_V G 118 (nw_pi Φ) 450 [some (.inl 38), some (.inl 0), some (.inl 26), some (.inr x3)] [] σ := bk118_450 ⟨by omega, by omega, c37 hw hC (nl_r _) (nl_r _) (fun u hu hk => m101 hw (nl_fr1 hM hk) (nl_r _) (nl_r _) (fun w hv hl => nl_q478 (go D w hw (nl_fr0 hu hl) hv)))⟩
theorem nl_c11 {Φ : Int → nw_S → Prop} {x3 : Int} (hw : nd_wf D) (hC : nc_st D σ) (hM : nm_st D σ) (h0 : 0 ≤ x3) (h1 : x3 + 6 ≤ (nw_len G : Int)) (go : (∀ (D : nd_D) (u : nw_S), nd_wf D → nc_st D u → nm_st D u → nw_V G 118 (nw_pi Φ) 889 [some (.inl 38), some (.inl 0), some (.inl 26), some (.inr x3)] [] u)) : nw_V G 118 (nw_pi Φ) 483 [some (.inl 38), some (.inl 0), some (.inl 26), some (.inr x3)] [] σ := bk118_483 ⟨by omega, by omega, by omega, c38 hw hC (nl_r _) (nl_r _) (nl_r _) (fun u hu hk => m102 hw (nl_fr1 hM hk) (nl_r _) (nl_r _) (nl_r _) (fun w hv hl => nl_q521 (go D w hw (nl_fr0 hu hl) hv)))⟩
theorem nl_c12 {Φ : Int → nw_S → Prop} {x3 : Int} (hw : nd_wf D) (hC : nc_st D σ) (hM : nm_st D σ) (h0 : 0 ≤ x3) (h1 : x3 + 6 ≤ (nw_len G : Int)) (go : (∀ (D : nd_D) (u : nw_S), nd_wf D → nc_st D u → nm_st D u → nw_V G 118 (nw_pi Φ) 889 [some (.inl 38), some (.inl 0), some (.inl 26), some (.inr x3)] [] u)) : nw_V G 118 (nw_pi Φ) 526 [some (.inl 38), some (.inl 0), some (.inl 26), some (.inr x3)] [] σ := bk118_526 ⟨by omega, by omega, c39 hw hC (nl_r _) (nl_r _) (fun u hu hk => m103 hw (nl_fr1 hM hk) (nl_r _) (nl_r _) (fun w hv hl => nl_q554 (go D w hw (nl_fr0 hu hl) hv)))⟩
theorem nl_c13 {Φ : Int → nw_S → Prop} {x3 : Int} (hw : nd_wf D) (hC : nc_st D σ) (hM : nm_st D σ) (h0 : 0 ≤ x3) (h1 : x3 + 6 ≤ (nw_len G : Int)) (go : (∀ (D : nd_D) (u : nw_S), nd_wf D → nc_st D u → nm_st D u → nw_V G 118 (nw_pi Φ) 889 [some (.inl 38), some (.inl 0), some (.inl 26), some (.inr x3)] [] u)) : nw_V G 118 (nw_pi Φ) 559 [some (.inl 38), some (.inl 0), some (.inl 26), some (.inr x3)] [] σ := bk118_559 ⟨by omega, by omega, c40 hw hC (nl_r _) (nl_r _) (fun u hu hk => m104 hw (nl_fr1 hM hk) (nl_r _) (nl_r _) (fun w hv hl => nl_q587 (go D w hw (nl_fr0 hu hl) hv)))⟩
theorem nl_c14 {Φ : Int → nw_S → Prop} {x3 : Int} (hw : nd_wf D) (hC : nc_st D σ) (hM : nm_st D σ) (h0 : 0 ≤ x3) (h1 : x3 + 6 ≤ (nw_len G : Int)) (go : (∀ (D : nd_D) (u : nw_S), nd_wf D → nc_st D u → nm_st D u → nw_V G 118 (nw_pi Φ) 889 [some (.inl 38), some (.inl 0), some (.inl 26), some (.inr x3)] [] u)) : nw_V G 118 (nw_pi Φ) 592 [some (.inl 38), some (.inl 0), some (.inl 26), some (.inr x3)] [] σ := bk118_592 ⟨by omega, by omega, c41 hw hC (nl_r _) (nl_r _) (fun u hu hk => m105 hw (nl_fr1 hM hk) (nl_r _) (nl_r _) (fun w hv hl => nl_q620 (go D w hw (nl_fr0 hu hl) hv)))⟩
theorem nl_c15 {Φ : Int → nw_S → Prop} {x3 : Int} (hw : nd_wf D) (hC : nc_st D σ) (hM : nm_st D σ) (h0 : 0 ≤ x3) (h1 : x3 + 6 ≤ (nw_len G : Int)) (go : (∀ (D : nd_D) (u : nw_S), nd_wf D → nc_st D u → nm_st D u → nw_V G 118 (nw_pi Φ) 889 [some (.inl 38), some (.inl 0), some (.inl 26), some (.inr x3)] [] u)) : nw_V G 118 (nw_pi Φ) 625 [some (.inl 38), some (.inl 0), some (.inl 26), some (.inr x3)] [] σ := bk118_625 ⟨by omega, by omega, c42 hw hC (nl_r _) (nl_r _) (m106 hw hM (nl_r _) (nl_r _) (fun w hv hl => nl_q653 (go D w hw (nl_fr0 hC hl) hv)))⟩
theorem nl_c16 {Φ : Int → nw_S → Prop} {x3 : Int} (hw : nd_wf D) (hC : nc_st D σ) (hM : nm_st D σ) (h0 : 0 ≤ x3) (h1 : x3 + 6 ≤ (nw_len G : Int)) (go : (∀ (D : nd_D) (u : nw_S), nd_wf D → nc_st D u → nm_st D u → nw_V G 118 (nw_pi Φ) 889 [some (.inl 38), some (.inl 0), some (.inl 26), some (.inr x3)] [] u)) : nw_V G 118 (nw_pi Φ) 658 [some (.inl 38), some (.inl 0), some (.inl 26), some (.inr x3)] [] σ := bk118_658 (c43 hw hC  (fun u hu hk => m107 hw (nl_fr1 hM hk)  (fun w hv hl => nl_q666 (go D w hw (nl_fr0 hu hl) hv))))
theorem nl_c17 {Φ : Int → nw_S → Prop} {x3 : Int} (hw : nd_wf D) (hC : nc_st D σ) (hM : nm_st D σ) (h0 : 0 ≤ x3) (h1 : x3 + 6 ≤ (nw_len G : Int)) (go : (∀ (D : nd_D) (u : nw_S), nd_wf D → nc_st D u → nm_st D u → nw_V G 118 (nw_pi Φ) 889 [some (.inl 38), some (.inl 0), some (.inl 26), some (.inr x3)] [] u)) : nw_V G 118 (nw_pi Φ) 671 [some (.inl 38), some (.inl 0), some (.inl 26), some (.inr x3)] [] σ := bk118_671 ⟨by omega, c44 hw hC (nl_r _) (fun u g n hen hu hk => m108 hw (nl_fr1 hM hk) (nl_r _) hen (fun w hv hl => nl_q689 (go D w hw (nl_fr0 hu hl) hv)))⟩
theorem nl_c18 {Φ : Int → nw_S → Prop} {x3 : Int} (hw : nd_wf D) (hC : nc_st D σ) (hM : nm_st D σ) (h0 : 0 ≤ x3) (h1 : x3 + 6 ≤ (nw_len G : Int)) (go : (∀ (D : nd_D) (u : nw_S), nd_wf D → nc_st D u → nm_st D u → nw_V G 118 (nw_pi Φ) 889 [some (.inl 38), some (.inl 0), some (.inl 26), some (.inr x3)] [] u)) : nw_V G 118 (nw_pi Φ) 694 [some (.inl 38), some (.inl 0), some (.inl 26), some (.inr x3)] [] σ := bk118_694 ⟨by omega, c45 hw hC (nl_r _) (fun u g n hen hu hk => m109 hw (nl_fr1 hM hk) (nl_r _) hen (fun w hv hl => nl_q712 (go D w hw (nl_fr0 hu hl) hv)))⟩
theorem nl_c19 {Φ : Int → nw_S → Prop} {x3 : Int} (hw : nd_wf D) (hC : nc_st D σ) (hM : nm_st D σ) (h0 : 0 ≤ x3) (h1 : x3 + 6 ≤ (nw_len G : Int)) (go : (∀ (D : nd_D) (u : nw_S), nd_wf D → nc_st D u → nm_st D u → nw_V G 118 (nw_pi Φ) 889 [some (.inl 38), some (.inl 0), some (.inl 26), some (.inr x3)] [] u)) : nw_V G 118 (nw_pi Φ) 717 [some (.inl 38), some (.inl 0), some (.inl 26), some (.inr x3)] [] σ := bk118_717 ⟨by omega, c46 hw hC (nl_r _) (m110 hw hM (nl_r _) (nl_q735 (go D σ hw hC hM)))⟩
theorem nl_c20 {Φ : Int → nw_S → Prop} {x3 : Int} (hw : nd_wf D) (hC : nc_st D σ) (hM : nm_st D σ) (h0 : 0 ≤ x3) (h1 : x3 + 6 ≤ (nw_len G : Int)) (go : (∀ (D : nd_D) (u : nw_S), nd_wf D → nc_st D u → nm_st D u → nw_V G 118 (nw_pi Φ) 889 [some (.inl 38), some (.inl 0), some (.inl 26), some (.inr x3)] [] u)) : nw_V G 118 (nw_pi Φ) 740 [some (.inl 38), some (.inl 0), some (.inl 26), some (.inr x3)] [] σ := bk118_740 ⟨by omega, c47 hw hC (nl_r _) (fun u hu hk => m111 hw (nl_fr1 hM hk) (nl_r _) (fun w hv hl => nl_q758 (go D w hw (nl_fr0 hu hl) hv)))⟩
theorem nl_c21 {Φ : Int → nw_S → Prop} {x3 : Int} (hw : nd_wf D) (hC : nc_st D σ) (hM : nm_st D σ) (h0 : 0 ≤ x3) (h1 : x3 + 6 ≤ (nw_len G : Int)) (go : (∀ (D : nd_D) (u : nw_S), nd_wf D → nc_st D u → nm_st D u → nw_V G 118 (nw_pi Φ) 889 [some (.inl 38), some (.inl 0), some (.inl 26), some (.inr x3)] [] u)) : nw_V G 118 (nw_pi Φ) 763 [some (.inl 38), some (.inl 0), some (.inl 26), some (.inr x3)] [] σ := bk118_763 ⟨by omega, by omega, by omega, by omega, by omega, c48 hw hC (nl_r _) (nl_r _) (nl_r _) (nl_r _) (nl_r _) (fun u hu hk => m113 hw (nl_fr1 hM hk) (nl_r _) (nl_r _) (nl_r _) (nl_r _) (nl_r _) (fun w hv hl => nl_q821 (go D w hw (nl_fr0 hu hl) hv)))⟩
theorem nl_c22 {Φ : Int → nw_S → Prop} {x3 : Int} (hw : nd_wf D) (hC : nc_st D σ) (hM : nm_st D σ) (h0 : 0 ≤ x3) (h1 : x3 + 6 ≤ (nw_len G : Int)) (go : (∀ (D : nd_D) (u : nw_S), nd_wf D → nc_st D u → nm_st D u → nw_V G 118 (nw_pi Φ) 889 [some (.inl 38), some (.inl 0), some (.inl 26), some (.inr x3)] [] u)) : nw_V G 118 (nw_pi Φ) 826 [some (.inl 38), some (.inl 0), some (.inl 26), some (.inr x3)] [] σ := bk118_826 ⟨by omega, by omega, by omega, by omega, by omega, c49 hw hC (nl_r _) (nl_r _) (nl_r _) (nl_r _) (nl_r _) (fun u hu hk => m114 hw (nl_fr1 hM hk) (nl_r _) (nl_r _) (nl_r _) (nl_r _) (nl_r _) (fun w hv hl => nl_q884 (go D w hw (nl_fr0 hu hl) hv)))⟩
theorem nl_loop {Φ : Int → nw_S → Prop} (hL : nw_len G ≤ 384) (h : ∀ u, Φ 1 u) : ∀ (w : Nat) (D : nd_D) (σ : nw_S) (x3 : Int), nd_wf D → nc_st D σ → nm_st D σ → 0 ≤ x3 → x3 ≤ 384 → 384 < x3 + w → nw_V G 118 (nw_pi Φ) 18 [some (.inl 38), some (.inl 0), some (.inl 26), some (.inr x3)] [] σ := by
  intro w
  induction w with
  | zero => intro D σ x3 hw hC hM h0 h1 h2; omega
  | succ w ih =>
    intro D σ x3 hw hC hM h0 h1 h2
    refine bk118_18 ⟨by omega, by omega, fun _ => h σ, fun q => ?_⟩
    have go : ∀ (D : nd_D) (u : nw_S), nd_wf D → nc_st D u → nm_st D u → nw_V G 118 (nw_pi Φ) 889 [some (.inl 38), some (.inl 0), some (.inl 26), some (.inr x3)] [] u := fun D u a b c => bk118_889 (ih D u (x3 + 6) a b c (by omega) (by omega) (by omega))
    exact ⟨by omega, nb_rand _ _, fun _ => go D σ hw hC hM, fun _ => nl_c0 hw hC hM (by omega) (by omega) go, fun _ => nl_c1 hw hC hM (by omega) (by omega) go, fun _ => nl_c2 hw hC hM (by omega) (by omega) go, fun _ => nl_c3 hw hC hM (by omega) (by omega) go, fun _ => nl_c4 hw hC hM (by omega) (by omega) go, fun _ => nl_c5 hw hC hM (by omega) (by omega) go, fun _ => nl_c6 hw hC hM (by omega) (by omega) go, fun _ => nl_c7 hw hC hM (by omega) (by omega) go, fun _ => nl_c8 hw hC hM (by omega) (by omega) go, fun _ => nl_c9 hw hC hM (by omega) (by omega) go, fun _ => nl_c10 hw hC hM (by omega) (by omega) go, fun _ => nl_c11 hw hC hM (by omega) (by omega) go, fun _ => nl_c12 hw hC hM (by omega) (by omega) go, fun _ => nl_c13 hw hC hM (by omega) (by omega) go, fun _ => nl_c14 hw hC hM (by omega) (by omega) go, fun _ => nl_c15 hw hC hM (by omega) (by omega) go, fun _ => nl_c16 hw hC hM (by omega) (by omega) go, fun _ => nl_c17 hw hC hM (by omega) (by omega) go, fun _ => nl_c18 hw hC hM (by omega) (by omega) go, fun _ => nl_c19 hw hC hM (by omega) (by omega) go, fun _ => nl_c20 hw hC hM (by omega) (by omega) go, fun _ => nl_c21 hw hC hM (by omega) (by omega) go, fun _ => nl_c22 hw hC hM (by omega) (by omega) go⟩
end NL1
end
