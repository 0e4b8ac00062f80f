section
-- ===== PART A: goes FIRST, ahead of the names: the tables' words, and 'selects' of the private methods out of them =====
/-- a private method of a class that the tables say can be made, by its rows of tables_1 -/
def lw_okq (q : MethodName × Nat) : Prop := (q.1.cls ≠ "java/lang/invoke/MethodHandle" ∧ q.1.cls ≠ "java/lang/invoke/VarHandle") ∧ Cond.instantiable q.1.cls q.2 ∈ tables_1 ∧ Cond.privateMethod q.1 ∈ tables_1 ∧ Cond.instanceMethod q.1 ∈ tables_1
theorem lw_p0 : lw_okq (⟨"ThreeOfThem$Reader", "split", "()V"⟩, 8) := ⟨⟨by decide +kernel, by decide +kernel⟩, List.mem_of_getElem? (i := 161) (by decide +kernel), List.mem_of_getElem? (i := 273) (by decide +kernel), List.mem_of_getElem? (i := 274) (by decide +kernel)⟩
theorem lw_p1 : lw_okq (⟨"ThreeOfThem$Reader", "behind", "(I)I"⟩, 8) := ⟨⟨by decide +kernel, by decide +kernel⟩, List.mem_of_getElem? (i := 161) (by decide +kernel), List.mem_of_getElem? (i := 277) (by decide +kernel), List.mem_of_getElem? (i := 278) (by decide +kernel)⟩
theorem lw_p2 : lw_okq (⟨"ThreeOfThem$Reader", "tokenOf", "(II)I"⟩, 8) := ⟨⟨by decide +kernel, by decide +kernel⟩, List.mem_of_getElem? (i := 161) (by decide +kernel), List.mem_of_getElem? (i := 287) (by decide +kernel), List.mem_of_getElem? (i := 288) (by decide +kernel)⟩
theorem lw_p3 : lw_okq (⟨"ThreeOfThem$Reader", "wordOf", "(II)I"⟩, 8) := ⟨⟨by decide +kernel, by decide +kernel⟩, List.mem_of_getElem? (i := 161) (by decide +kernel), List.mem_of_getElem? (i := 291) (by decide +kernel), List.mem_of_getElem? (i := 292) (by decide +kernel)⟩
theorem lw_p4 : lw_okq (⟨"ThreeOfThem$Reader", "spells", "(Ljava/lang/String;II)Z"⟩, 8) := ⟨⟨by decide +kernel, by decide +kernel⟩, List.mem_of_getElem? (i := 161) (by decide +kernel), List.mem_of_getElem? (i := 296) (by decide +kernel), List.mem_of_getElem? (i := 297) (by decide +kernel)⟩
theorem lw_p5 : lw_okq (⟨"ThreeOfThem$Reader", "numberOf", "(II)I"⟩, 8) := ⟨⟨by decide +kernel, by decide +kernel⟩, List.mem_of_getElem? (i := 161) (by decide +kernel), List.mem_of_getElem? (i := 313) (by decide +kernel), List.mem_of_getElem? (i := 314) (by decide +kernel)⟩
theorem lw_p6 : lw_okq (⟨"ThreeOfThem$Reader", "readPart", "(I)Z"⟩, 8) := ⟨⟨by decide +kernel, by decide +kernel⟩, List.mem_of_getElem? (i := 161) (by decide +kernel), List.mem_of_getElem? (i := 320) (by decide +kernel), List.mem_of_getElem? (i := 321) (by decide +kernel)⟩
theorem lw_p7 : lw_okq (⟨"ThreeOfThem$Reader", "pass", "(I)Z"⟩, 8) := ⟨⟨by decide +kernel, by decide +kernel⟩, List.mem_of_getElem? (i := 161) (by decide +kernel), List.mem_of_getElem? (i := 324) (by decide +kernel), List.mem_of_getElem? (i := 325) (by decide +kernel)⟩
theorem lw_p8 : lw_okq (⟨"ThreeOfThem$Reader", "current", "()I"⟩, 8) := ⟨⟨by decide +kernel, by decide +kernel⟩, List.mem_of_getElem? (i := 161) (by decide +kernel), List.mem_of_getElem? (i := 328) (by decide +kernel), List.mem_of_getElem? (i := 329) (by decide +kernel)⟩
theorem lw_p9 : lw_okq (⟨"ThreeOfThem$Reader", "readLevel", "(II)Z"⟩, 8) := ⟨⟨by decide +kernel, by decide +kernel⟩, List.mem_of_getElem? (i := 161) (by decide +kernel), List.mem_of_getElem? (i := 332) (by decide +kernel), List.mem_of_getElem? (i := 333) (by decide +kernel)⟩
theorem lw_p10 : lw_okq (⟨"ThreeOfThem$Reader", "readOne", "(I)Z"⟩, 8) := ⟨⟨by decide +kernel, by decide +kernel⟩, List.mem_of_getElem? (i := 161) (by decide +kernel), List.mem_of_getElem? (i := 336) (by decide +kernel), List.mem_of_getElem? (i := 337) (by decide +kernel)⟩
theorem lw_p11 : lw_okq (⟨"ThreeOfThem$Reader", "emit", "(I)V"⟩, 8) := ⟨⟨by decide +kernel, by decide +kernel⟩, List.mem_of_getElem? (i := 161) (by decide +kernel), List.mem_of_getElem? (i := 340) (by decide +kernel), List.mem_of_getElem? (i := 341) (by decide +kernel)⟩
theorem lw_p12 : lw_okq (⟨"ThreeOfThem$Reader", "readOpened", "(III)Z"⟩, 8) := ⟨⟨by decide +kernel, by decide +kernel⟩, List.mem_of_getElem? (i := 161) (by decide +kernel), List.mem_of_getElem? (i := 344) (by decide +kernel), List.mem_of_getElem? (i := 345) (by decide +kernel)⟩
theorem lw_p13 : lw_okq (⟨"ThreeOfThem", "setRent", "(I)I"⟩, 8) := ⟨⟨by decide +kernel, by decide +kernel⟩, List.mem_of_getElem? (i := 17) (by decide +kernel), List.mem_of_getElem? (i := 442) (by decide +kernel), List.mem_of_getElem? (i := 443) (by decide +kernel)⟩
theorem lw_p14 : lw_okq (⟨"ThreeOfThem", "setNeeded", "(I)I"⟩, 8) := ⟨⟨by decide +kernel, by decide +kernel⟩, List.mem_of_getElem? (i := 17) (by decide +kernel), List.mem_of_getElem? (i := 446) (by decide +kernel), List.mem_of_getElem? (i := 447) (by decide +kernel)⟩
theorem lw_p15 : lw_okq (⟨"ThreeOfThem", "setDay", "(I)I"⟩, 8) := ⟨⟨by decide +kernel, by decide +kernel⟩, List.mem_of_getElem? (i := 17) (by decide +kernel), List.mem_of_getElem? (i := 450) (by decide +kernel), List.mem_of_getElem? (i := 451) (by decide +kernel)⟩
def lw_privs_1 : List (MethodName × Nat) := [(⟨"ThreeOfThem$Reader", "split", "()V"⟩, 8), (⟨"ThreeOfThem$Reader", "behind", "(I)I"⟩, 8), (⟨"ThreeOfThem$Reader", "tokenOf", "(II)I"⟩, 8), (⟨"ThreeOfThem$Reader", "wordOf", "(II)I"⟩, 8), (⟨"ThreeOfThem$Reader", "spells", "(Ljava/lang/String;II)Z"⟩, 8), (⟨"ThreeOfThem$Reader", "numberOf", "(II)I"⟩, 8), (⟨"ThreeOfThem$Reader", "readPart", "(I)Z"⟩, 8), (⟨"ThreeOfThem$Reader", "pass", "(I)Z"⟩, 8), (⟨"ThreeOfThem$Reader", "current", "()I"⟩, 8), (⟨"ThreeOfThem$Reader", "readLevel", "(II)Z"⟩, 8), (⟨"ThreeOfThem$Reader", "readOne", "(I)Z"⟩, 8), (⟨"ThreeOfThem$Reader", "emit", "(I)V"⟩, 8), (⟨"ThreeOfThem$Reader", "readOpened", "(III)Z"⟩, 8), (⟨"ThreeOfThem", "setRent", "(I)I"⟩, 8), (⟨"ThreeOfThem", "setNeeded", "(I)I"⟩, 8), (⟨"ThreeOfThem", "setDay", "(I)I"⟩, 8)]
theorem lw_r1 : ∀ q ∈ lw_privs_1, lw_okq q := List.forall_mem_cons.mpr ⟨lw_p0, List.forall_mem_cons.mpr ⟨lw_p1, List.forall_mem_cons.mpr ⟨lw_p2, List.forall_mem_cons.mpr ⟨lw_p3, List.forall_mem_cons.mpr ⟨lw_p4, List.forall_mem_cons.mpr ⟨lw_p5, List.forall_mem_cons.mpr ⟨lw_p6, List.forall_mem_cons.mpr ⟨lw_p7, List.forall_mem_cons.mpr ⟨lw_p8, List.forall_mem_cons.mpr ⟨lw_p9, List.forall_mem_cons.mpr ⟨lw_p10, List.forall_mem_cons.mpr ⟨lw_p11, List.forall_mem_cons.mpr ⟨lw_p12, List.forall_mem_cons.mpr ⟨lw_p13, List.forall_mem_cons.mpr ⟨lw_p14, List.forall_mem_cons.mpr ⟨lw_p15, fun _ h => absurd h List.not_mem_nil⟩⟩⟩⟩⟩⟩⟩⟩⟩⟩⟩⟩⟩⟩⟩⟩
theorem lw_p16 : lw_okq (⟨"ThreeOfThem", "setNumber", "(II)I"⟩, 8) := ⟨⟨by decide +kernel, by decide +kernel⟩, List.mem_of_getElem? (i := 17) (by decide +kernel), List.mem_of_getElem? (i := 454) (by decide +kernel), List.mem_of_getElem? (i := 455) (by decide +kernel)⟩
theorem lw_p17 : lw_okq (⟨"ThreeOfThem", "setIn", "(II)I"⟩, 8) := ⟨⟨by decide +kernel, by decide +kernel⟩, List.mem_of_getElem? (i := 17) (by decide +kernel), List.mem_of_getElem? (i := 459) (by decide +kernel), List.mem_of_getElem? (i := 460) (by decide +kernel)⟩
theorem lw_p18 : lw_okq (⟨"ThreeOfThem", "thinking", "()LThreeOfThem$Judge;"⟩, 8) := ⟨⟨by decide +kernel, by decide +kernel⟩, List.mem_of_getElem? (i := 17) (by decide +kernel), List.mem_of_getElem? (i := 498) (by decide +kernel), List.mem_of_getElem? (i := 499) (by decide +kernel)⟩
theorem lw_p19 : lw_okq (⟨"ThreeOfThem$Judge", "worthOf", "(III)I"⟩, 16) := ⟨⟨by decide +kernel, by decide +kernel⟩, List.mem_of_getElem? (i := 81) (by decide +kernel), List.mem_of_getElem? (i := 516) (by decide +kernel), List.mem_of_getElem? (i := 517) (by decide +kernel)⟩
theorem lw_p20 : lw_okq (⟨"ThreeOfThem$Judge", "factsOf", "(III)[I"⟩, 16) := ⟨⟨by decide +kernel, by decide +kernel⟩, List.mem_of_getElem? (i := 81) (by decide +kernel), List.mem_of_getElem? (i := 520) (by decide +kernel), List.mem_of_getElem? (i := 521) (by decide +kernel)⟩
theorem lw_p21 : lw_okq (⟨"ThreeOfThem", "mayMeet", "(II)Z"⟩, 8) := ⟨⟨by decide +kernel, by decide +kernel⟩, List.mem_of_getElem? (i := 17) (by decide +kernel), List.mem_of_getElem? (i := 557) (by decide +kernel), List.mem_of_getElem? (i := 558) (by decide +kernel)⟩
theorem lw_p22 : lw_okq (⟨"ThreeOfThem", "thinkingOfHouse", "()LThreeOfThem$Judge;"⟩, 8) := ⟨⟨by decide +kernel, by decide +kernel⟩, List.mem_of_getElem? (i := 17) (by decide +kernel), List.mem_of_getElem? (i := 561) (by decide +kernel), List.mem_of_getElem? (i := 562) (by decide +kernel)⟩
theorem lw_p23 : lw_okq (⟨"ThreeOfThem$Judge", "compare", "()V"⟩, 16) := ⟨⟨by decide +kernel, by decide +kernel⟩, List.mem_of_getElem? (i := 81) (by decide +kernel), List.mem_of_getElem? (i := 569) (by decide +kernel), List.mem_of_getElem? (i := 570) (by decide +kernel)⟩
theorem lw_p24 : lw_okq (⟨"ThreeOfThem$Judge", "isLookedPair", "(II)Z"⟩, 16) := ⟨⟨by decide +kernel, by decide +kernel⟩, List.mem_of_getElem? (i := 81) (by decide +kernel), List.mem_of_getElem? (i := 574) (by decide +kernel), List.mem_of_getElem? (i := 575) (by decide +kernel)⟩
theorem lw_p25 : lw_okq (⟨"ThreeOfThem$Judge", "weigh", "()V"⟩, 16) := ⟨⟨by decide +kernel, by decide +kernel⟩, List.mem_of_getElem? (i := 81) (by decide +kernel), List.mem_of_getElem? (i := 578) (by decide +kernel), List.mem_of_getElem? (i := 579) (by decide +kernel)⟩
theorem lw_p26 : lw_okq (⟨"ThreeOfThem$Judge", "moves", "(IIIIZ)Z"⟩, 16) := ⟨⟨by decide +kernel, by decide +kernel⟩, List.mem_of_getElem? (i := 81) (by decide +kernel), List.mem_of_getElem? (i := 583) (by decide +kernel), List.mem_of_getElem? (i := 584) (by decide +kernel)⟩
theorem lw_p27 : lw_okq (⟨"ThreeOfThem$Judge", "against", "(I)I"⟩, 16) := ⟨⟨by decide +kernel, by decide +kernel⟩, List.mem_of_getElem? (i := 81) (by decide +kernel), List.mem_of_getElem? (i := 593) (by decide +kernel), List.mem_of_getElem? (i := 594) (by decide +kernel)⟩
theorem lw_p28 : lw_okq (⟨"ThreeOfThem$Judge", "against", "(II)I"⟩, 16) := ⟨⟨by decide +kernel, by decide +kernel⟩, List.mem_of_getElem? (i := 81) (by decide +kernel), List.mem_of_getElem? (i := 597) (by decide +kernel), List.mem_of_getElem? (i := 598) (by decide +kernel)⟩
theorem lw_p29 : lw_okq (⟨"ThreeOfThem$Judge", "bandsAgainst", "(I)I"⟩, 16) := ⟨⟨by decide +kernel, by decide +kernel⟩, List.mem_of_getElem? (i := 81) (by decide +kernel), List.mem_of_getElem? (i := 621) (by decide +kernel), List.mem_of_getElem? (i := 622) (by decide +kernel)⟩
theorem lw_p30 : lw_okq (⟨"ThreeOfThem$Judge", "foreseeSet", "(II)V"⟩, 16) := ⟨⟨by decide +kernel, by decide +kernel⟩, List.mem_of_getElem? (i := 81) (by decide +kernel), List.mem_of_getElem? (i := 665) (by decide +kernel), List.mem_of_getElem? (i := 666) (by decide +kernel)⟩
theorem lw_p31 : lw_okq (⟨"ThreeOfThem$Judge", "foreseers", "(III)I"⟩, 16) := ⟨⟨by decide +kernel, by decide +kernel⟩, List.mem_of_getElem? (i := 81) (by decide +kernel), List.mem_of_getElem? (i := 670) (by decide +kernel), List.mem_of_getElem? (i := 671) (by decide +kernel)⟩
def lw_privs_2 : List (MethodName × Nat) := [(⟨"ThreeOfThem", "setNumber", "(II)I"⟩, 8), (⟨"ThreeOfThem", "setIn", "(II)I"⟩, 8), (⟨"ThreeOfThem", "thinking", "()LThreeOfThem$Judge;"⟩, 8), (⟨"ThreeOfThem$Judge", "worthOf", "(III)I"⟩, 16), (⟨"ThreeOfThem$Judge", "factsOf", "(III)[I"⟩, 16), (⟨"ThreeOfThem", "mayMeet", "(II)Z"⟩, 8), (⟨"ThreeOfThem", "thinkingOfHouse", "()LThreeOfThem$Judge;"⟩, 8), (⟨"ThreeOfThem$Judge", "compare", "()V"⟩, 16), (⟨"ThreeOfThem$Judge", "isLookedPair", "(II)Z"⟩, 16), (⟨"ThreeOfThem$Judge", "weigh", "()V"⟩, 16), (⟨"ThreeOfThem$Judge", "moves", "(IIIIZ)Z"⟩, 16), (⟨"ThreeOfThem$Judge", "against", "(I)I"⟩, 16), (⟨"ThreeOfThem$Judge", "against", "(II)I"⟩, 16), (⟨"ThreeOfThem$Judge", "bandsAgainst", "(I)I"⟩, 16), (⟨"ThreeOfThem$Judge", "foreseeSet", "(II)V"⟩, 16), (⟨"ThreeOfThem$Judge", "foreseers", "(III)I"⟩, 16)]
theorem lw_r2 : ∀ q ∈ lw_privs_2, lw_okq q := List.forall_mem_cons.mpr ⟨lw_p16, List.forall_mem_cons.mpr ⟨lw_p17, List.forall_mem_cons.mpr ⟨lw_p18, List.forall_mem_cons.mpr ⟨lw_p19, List.forall_mem_cons.mpr ⟨lw_p20, List.forall_mem_cons.mpr ⟨lw_p21, List.forall_mem_cons.mpr ⟨lw_p22, List.forall_mem_cons.mpr ⟨lw_p23, List.forall_mem_cons.mpr ⟨lw_p24, List.forall_mem_cons.mpr ⟨lw_p25, List.forall_mem_cons.mpr ⟨lw_p26, List.forall_mem_cons.mpr ⟨lw_p27, List.forall_mem_cons.mpr ⟨lw_p28, List.forall_mem_cons.mpr ⟨lw_p29, List.forall_mem_cons.mpr ⟨lw_p30, List.forall_mem_cons.mpr ⟨lw_p31, fun _ h => absurd h List.not_mem_nil⟩⟩⟩⟩⟩⟩⟩⟩⟩⟩⟩⟩⟩⟩⟩⟩
theorem lw_p32 : lw_okq (⟨"ThreeOfThem$Judge", "atRest", "()Z"⟩, 16) := ⟨⟨by decide +kernel, by decide +kernel⟩, List.mem_of_getElem? (i := 81) (by decide +kernel), List.mem_of_getElem? (i := 698) (by decide +kernel), List.mem_of_getElem? (i := 699) (by decide +kernel)⟩
theorem lw_p33 : lw_okq (⟨"ThreeOfThem$Judge", "findOath", "(II)Z"⟩, 16) := ⟨⟨by decide +kernel, by decide +kernel⟩, List.mem_of_getElem? (i := 81) (by decide +kernel), List.mem_of_getElem? (i := 703) (by decide +kernel), List.mem_of_getElem? (i := 704) (by decide +kernel)⟩
theorem lw_p34 : lw_okq (⟨"ThreeOfThem$Judge", "isFreePair", "(I)Z"⟩, 16) := ⟨⟨by decide +kernel, by decide +kernel⟩, List.mem_of_getElem? (i := 81) (by decide +kernel), List.mem_of_getElem? (i := 707) (by decide +kernel), List.mem_of_getElem? (i := 708) (by decide +kernel)⟩
theorem lw_p35 : lw_okq (⟨"ThreeOfThem$Judge", "bindPair", "(IZ)V"⟩, 16) := ⟨⟨by decide +kernel, by decide +kernel⟩, List.mem_of_getElem? (i := 81) (by decide +kernel), List.mem_of_getElem? (i := 711) (by decide +kernel), List.mem_of_getElem? (i := 712) (by decide +kernel)⟩
theorem lw_p36 : lw_okq (⟨"ThreeOfThem$Judge", "findTwoOaths", "()V"⟩, 16) := ⟨⟨by decide +kernel, by decide +kernel⟩, List.mem_of_getElem? (i := 81) (by decide +kernel), List.mem_of_getElem? (i := 719) (by decide +kernel), List.mem_of_getElem? (i := 720) (by decide +kernel)⟩
theorem lw_p37 : lw_okq (⟨"ThreeOfThem$Judge", "listMeetings", "()V"⟩, 16) := ⟨⟨by decide +kernel, by decide +kernel⟩, List.mem_of_getElem? (i := 81) (by decide +kernel), List.mem_of_getElem? (i := 767) (by decide +kernel), List.mem_of_getElem? (i := 768) (by decide +kernel)⟩
theorem lw_p38 : lw_okq (⟨"ThreeOfThem$Judge", "loserOf", "(I)I"⟩, 16) := ⟨⟨by decide +kernel, by decide +kernel⟩, List.mem_of_getElem? (i := 81) (by decide +kernel), List.mem_of_getElem? (i := 772) (by decide +kernel), List.mem_of_getElem? (i := 773) (by decide +kernel)⟩
theorem lw_p39 : lw_okq (⟨"ThreeOfThem", "likeByTriples", "(LThreeOfThem$Sheet;II)I"⟩, 8) := ⟨⟨by decide +kernel, by decide +kernel⟩, List.mem_of_getElem? (i := 17) (by decide +kernel), List.mem_of_getElem? (i := 832) (by decide +kernel), List.mem_of_getElem? (i := 833) (by decide +kernel)⟩
theorem lw_p40 : lw_okq (⟨"ThreeOfThemModel", "spell", "(IIIIIIIII)V"⟩, 58) := ⟨⟨by decide +kernel, by decide +kernel⟩, List.mem_of_getElem? (i := 846) (by decide +kernel), List.mem_of_getElem? (i := 852) (by decide +kernel), List.mem_of_getElem? (i := 853) (by decide +kernel)⟩
theorem lw_p41 : lw_okq (⟨"ThreeOfThemModel", "isOne", "(I)Z"⟩, 58) := ⟨⟨by decide +kernel, by decide +kernel⟩, List.mem_of_getElem? (i := 846) (by decide +kernel), List.mem_of_getElem? (i := 1044) (by decide +kernel), List.mem_of_getElem? (i := 1045) (by decide +kernel)⟩
theorem lw_p42 : lw_okq (⟨"ThreeOfThemModel", "areSworn", "(II)Z"⟩, 58) := ⟨⟨by decide +kernel, by decide +kernel⟩, List.mem_of_getElem? (i := 846) (by decide +kernel), List.mem_of_getElem? (i := 1052) (by decide +kernel), List.mem_of_getElem? (i := 1053) (by decide +kernel)⟩
theorem lw_p43 : lw_okq (⟨"ThreeOfThemModel", "swears", "(III)V"⟩, 58) := ⟨⟨by decide +kernel, by decide +kernel⟩, List.mem_of_getElem? (i := 846) (by decide +kernel), List.mem_of_getElem? (i := 1056) (by decide +kernel), List.mem_of_getElem? (i := 1057) (by decide +kernel)⟩
theorem lw_p44 : lw_okq (⟨"ThreeOfThemModel", "read", "(II)I"⟩, 58) := ⟨⟨by decide +kernel, by decide +kernel⟩, List.mem_of_getElem? (i := 846) (by decide +kernel), List.mem_of_getElem? (i := 1077) (by decide +kernel), List.mem_of_getElem? (i := 1078) (by decide +kernel)⟩
theorem lw_p45 : lw_okq (⟨"ThreeOfThemModel", "next", "()V"⟩, 58) := ⟨⟨by decide +kernel, by decide +kernel⟩, List.mem_of_getElem? (i := 846) (by decide +kernel), List.mem_of_getElem? (i := 1081) (by decide +kernel), List.mem_of_getElem? (i := 1082) (by decide +kernel)⟩
theorem lw_p46 : lw_okq (⟨"ThreeOfThemModel", "byteAt", "(I)I"⟩, 58) := ⟨⟨by decide +kernel, by decide +kernel⟩, List.mem_of_getElem? (i := 846) (by decide +kernel), List.mem_of_getElem? (i := 1085) (by decide +kernel), List.mem_of_getElem? (i := 1086) (by decide +kernel)⟩
theorem lw_p47 : lw_okq (⟨"ThreeOfThemModel", "isWord", "(IIIIIIII)Z"⟩, 58) := ⟨⟨by decide +kernel, by decide +kernel⟩, List.mem_of_getElem? (i := 846) (by decide +kernel), List.mem_of_getElem? (i := 1094) (by decide +kernel), List.mem_of_getElem? (i := 1095) (by decide +kernel)⟩
def lw_privs_3 : List (MethodName × Nat) := [(⟨"ThreeOfThem$Judge", "atRest", "()Z"⟩, 16), (⟨"ThreeOfThem$Judge", "findOath", "(II)Z"⟩, 16), (⟨"ThreeOfThem$Judge", "isFreePair", "(I)Z"⟩, 16), (⟨"ThreeOfThem$Judge", "bindPair", "(IZ)V"⟩, 16), (⟨"ThreeOfThem$Judge", "findTwoOaths", "()V"⟩, 16), (⟨"ThreeOfThem$Judge", "listMeetings", "()V"⟩, 16), (⟨"ThreeOfThem$Judge", "loserOf", "(I)I"⟩, 16), (⟨"ThreeOfThem", "likeByTriples", "(LThreeOfThem$Sheet;II)I"⟩, 8), (⟨"ThreeOfThemModel", "spell", "(IIIIIIIII)V"⟩, 58), (⟨"ThreeOfThemModel", "isOne", "(I)Z"⟩, 58), (⟨"ThreeOfThemModel", "areSworn", "(II)Z"⟩, 58), (⟨"ThreeOfThemModel", "swears", "(III)V"⟩, 58), (⟨"ThreeOfThemModel", "read", "(II)I"⟩, 58), (⟨"ThreeOfThemModel", "next", "()V"⟩, 58), (⟨"ThreeOfThemModel", "byteAt", "(I)I"⟩, 58), (⟨"ThreeOfThemModel", "isWord", "(IIIIIIII)Z"⟩, 58)]
theorem lw_r3 : ∀ q ∈ lw_privs_3, lw_okq q := List.forall_mem_cons.mpr ⟨lw_p32, List.forall_mem_cons.mpr ⟨lw_p33, List.forall_mem_cons.mpr ⟨lw_p34, List.forall_mem_cons.mpr ⟨lw_p35, List.forall_mem_cons.mpr ⟨lw_p36, List.forall_mem_cons.mpr ⟨lw_p37, List.forall_mem_cons.mpr ⟨lw_p38, List.forall_mem_cons.mpr ⟨lw_p39, List.forall_mem_cons.mpr ⟨lw_p40, List.forall_mem_cons.mpr ⟨lw_p41, List.forall_mem_cons.mpr ⟨lw_p42, List.forall_mem_cons.mpr ⟨lw_p43, List.forall_mem_cons.mpr ⟨lw_p44, List.forall_mem_cons.mpr ⟨lw_p45, List.forall_mem_cons.mpr ⟨lw_p46, List.forall_mem_cons.mpr ⟨lw_p47, fun _ h => absurd h List.not_mem_nil⟩⟩⟩⟩⟩⟩⟩⟩⟩⟩⟩⟩⟩⟩⟩⟩
theorem lw_p48 : lw_okq (⟨"ThreeOfThemModel", "isLetter", "(II)Z"⟩, 58) := ⟨⟨by decide +kernel, by decide +kernel⟩, List.mem_of_getElem? (i := 846) (by decide +kernel), List.mem_of_getElem? (i := 1098) (by decide +kernel), List.mem_of_getElem? (i := 1099) (by decide +kernel)⟩
theorem lw_p49 : lw_okq (⟨"ThreeOfThemModel", "part", "(Z)I"⟩, 58) := ⟨⟨by decide +kernel, by decide +kernel⟩, List.mem_of_getElem? (i := 846) (by decide +kernel), List.mem_of_getElem? (i := 1102) (by decide +kernel), List.mem_of_getElem? (i := 1103) (by decide +kernel)⟩
theorem lw_p50 : lw_okq (⟨"ThreeOfThemModel", "fail", "()V"⟩, 58) := ⟨⟨by decide +kernel, by decide +kernel⟩, List.mem_of_getElem? (i := 846) (by decide +kernel), List.mem_of_getElem? (i := 1106) (by decide +kernel), List.mem_of_getElem? (i := 1107) (by decide +kernel)⟩
theorem lw_p51 : lw_okq (⟨"ThreeOfThemModel", "either0", "()I"⟩, 58) := ⟨⟨by decide +kernel, by decide +kernel⟩, List.mem_of_getElem? (i := 846) (by decide +kernel), List.mem_of_getElem? (i := 1110) (by decide +kernel), List.mem_of_getElem? (i := 1111) (by decide +kernel)⟩
theorem lw_p52 : lw_okq (⟨"ThreeOfThemModel", "both0", "()I"⟩, 58) := ⟨⟨by decide +kernel, by decide +kernel⟩, List.mem_of_getElem? (i := 846) (by decide +kernel), List.mem_of_getElem? (i := 1114) (by decide +kernel), List.mem_of_getElem? (i := 1115) (by decide +kernel)⟩
theorem lw_p53 : lw_okq (⟨"ThreeOfThemModel", "not0", "()I"⟩, 58) := ⟨⟨by decide +kernel, by decide +kernel⟩, List.mem_of_getElem? (i := 846) (by decide +kernel), List.mem_of_getElem? (i := 1118) (by decide +kernel), List.mem_of_getElem? (i := 1119) (by decide +kernel)⟩
theorem lw_p54 : lw_okq (⟨"ThreeOfThemModel", "opens", "()Z"⟩, 58) := ⟨⟨by decide +kernel, by decide +kernel⟩, List.mem_of_getElem? (i := 846) (by decide +kernel), List.mem_of_getElem? (i := 1122) (by decide +kernel), List.mem_of_getElem? (i := 1123) (by decide +kernel)⟩
theorem lw_p55 : lw_okq (⟨"ThreeOfThemModel", "not1", "()I"⟩, 58) := ⟨⟨by decide +kernel, by decide +kernel⟩, List.mem_of_getElem? (i := 846) (by decide +kernel), List.mem_of_getElem? (i := 1126) (by decide +kernel), List.mem_of_getElem? (i := 1127) (by decide +kernel)⟩
theorem lw_p56 : lw_okq (⟨"ThreeOfThemModel", "not2", "()I"⟩, 58) := ⟨⟨by decide +kernel, by decide +kernel⟩, List.mem_of_getElem? (i := 846) (by decide +kernel), List.mem_of_getElem? (i := 1130) (by decide +kernel), List.mem_of_getElem? (i := 1131) (by decide +kernel)⟩
theorem lw_p57 : lw_okq (⟨"ThreeOfThemModel", "not3", "()I"⟩, 58) := ⟨⟨by decide +kernel, by decide +kernel⟩, List.mem_of_getElem? (i := 846) (by decide +kernel), List.mem_of_getElem? (i := 1134) (by decide +kernel), List.mem_of_getElem? (i := 1135) (by decide +kernel)⟩
theorem lw_p58 : lw_okq (⟨"ThreeOfThemModel", "not4", "()I"⟩, 58) := ⟨⟨by decide +kernel, by decide +kernel⟩, List.mem_of_getElem? (i := 846) (by decide +kernel), List.mem_of_getElem? (i := 1138) (by decide +kernel), List.mem_of_getElem? (i := 1139) (by decide +kernel)⟩
theorem lw_p59 : lw_okq (⟨"ThreeOfThemModel", "not5", "()I"⟩, 58) := ⟨⟨by decide +kernel, by decide +kernel⟩, List.mem_of_getElem? (i := 846) (by decide +kernel), List.mem_of_getElem? (i := 1142) (by decide +kernel), List.mem_of_getElem? (i := 1143) (by decide +kernel)⟩
theorem lw_p60 : lw_okq (⟨"ThreeOfThemModel", "added5", "()I"⟩, 58) := ⟨⟨by decide +kernel, by decide +kernel⟩, List.mem_of_getElem? (i := 846) (by decide +kernel), List.mem_of_getElem? (i := 1146) (by decide +kernel), List.mem_of_getElem? (i := 1147) (by decide +kernel)⟩
theorem lw_p61 : lw_okq (⟨"ThreeOfThemModel", "term5", "()I"⟩, 58) := ⟨⟨by decide +kernel, by decide +kernel⟩, List.mem_of_getElem? (i := 846) (by decide +kernel), List.mem_of_getElem? (i := 1150) (by decide +kernel), List.mem_of_getElem? (i := 1151) (by decide +kernel)⟩
theorem lw_p62 : lw_okq (⟨"ThreeOfThemModel", "atom5", "()I"⟩, 58) := ⟨⟨by decide +kernel, by decide +kernel⟩, List.mem_of_getElem? (i := 846) (by decide +kernel), List.mem_of_getElem? (i := 1154) (by decide +kernel), List.mem_of_getElem? (i := 1155) (by decide +kernel)⟩
theorem lw_p63 : lw_okq (⟨"ThreeOfThemModel", "isSign", "(I)Z"⟩, 58) := ⟨⟨by decide +kernel, by decide +kernel⟩, List.mem_of_getElem? (i := 846) (by decide +kernel), List.mem_of_getElem? (i := 1158) (by decide +kernel), List.mem_of_getElem? (i := 1159) (by decide +kernel)⟩
def lw_privs_4 : List (MethodName × Nat) := [(⟨"ThreeOfThemModel", "isLetter", "(II)Z"⟩, 58), (⟨"ThreeOfThemModel", "part", "(Z)I"⟩, 58), (⟨"ThreeOfThemModel", "fail", "()V"⟩, 58), (⟨"ThreeOfThemModel", "either0", "()I"⟩, 58), (⟨"ThreeOfThemModel", "both0", "()I"⟩, 58), (⟨"ThreeOfThemModel", "not0", "()I"⟩, 58), (⟨"ThreeOfThemModel", "opens", "()Z"⟩, 58), (⟨"ThreeOfThemModel", "not1", "()I"⟩, 58), (⟨"ThreeOfThemModel", "not2", "()I"⟩, 58), (⟨"ThreeOfThemModel", "not3", "()I"⟩, 58), (⟨"ThreeOfThemModel", "not4", "()I"⟩, 58), (⟨"ThreeOfThemModel", "not5", "()I"⟩, 58), (⟨"ThreeOfThemModel", "added5", "()I"⟩, 58), (⟨"ThreeOfThemModel", "term5", "()I"⟩, 58), (⟨"ThreeOfThemModel", "atom5", "()I"⟩, 58), (⟨"ThreeOfThemModel", "isSign", "(I)Z"⟩, 58)]
theorem lw_r4 : ∀ q ∈ lw_privs_4, lw_okq q := List.forall_mem_cons.mpr ⟨lw_p48, List.forall_mem_cons.mpr ⟨lw_p49, List.forall_mem_cons.mpr ⟨lw_p50, List.forall_mem_cons.mpr ⟨lw_p51, List.forall_mem_cons.mpr ⟨lw_p52, List.forall_mem_cons.mpr ⟨lw_p53, List.forall_mem_cons.mpr ⟨lw_p54, List.forall_mem_cons.mpr ⟨lw_p55, List.forall_mem_cons.mpr ⟨lw_p56, List.forall_mem_cons.mpr ⟨lw_p57, List.forall_mem_cons.mpr ⟨lw_p58, List.forall_mem_cons.mpr ⟨lw_p59, List.forall_mem_cons.mpr ⟨lw_p60, List.forall_mem_cons.mpr ⟨lw_p61, List.forall_mem_cons.mpr ⟨lw_p62, List.forall_mem_cons.mpr ⟨lw_p63, fun _ h => absurd h List.not_mem_nil⟩⟩⟩⟩⟩⟩⟩⟩⟩⟩⟩⟩⟩⟩⟩⟩
theorem lw_p64 : lw_okq (⟨"ThreeOfThemModel", "name", "()I"⟩, 58) := ⟨⟨by decide +kernel, by decide +kernel⟩, List.mem_of_getElem? (i := 846) (by decide +kernel), List.mem_of_getElem? (i := 1162) (by decide +kernel), List.mem_of_getElem? (i := 1163) (by decide +kernel)⟩
theorem lw_p65 : lw_okq (⟨"ThreeOfThemModel", "added4", "()I"⟩, 58) := ⟨⟨by decide +kernel, by decide +kernel⟩, List.mem_of_getElem? (i := 846) (by decide +kernel), List.mem_of_getElem? (i := 1168) (by decide +kernel), List.mem_of_getElem? (i := 1169) (by decide +kernel)⟩
theorem lw_p66 : lw_okq (⟨"ThreeOfThemModel", "term4", "()I"⟩, 58) := ⟨⟨by decide +kernel, by decide +kernel⟩, List.mem_of_getElem? (i := 846) (by decide +kernel), List.mem_of_getElem? (i := 1172) (by decide +kernel), List.mem_of_getElem? (i := 1173) (by decide +kernel)⟩
theorem lw_p67 : lw_okq (⟨"ThreeOfThemModel", "atom4", "()I"⟩, 58) := ⟨⟨by decide +kernel, by decide +kernel⟩, List.mem_of_getElem? (i := 846) (by decide +kernel), List.mem_of_getElem? (i := 1176) (by decide +kernel), List.mem_of_getElem? (i := 1177) (by decide +kernel)⟩
theorem lw_p68 : lw_okq (⟨"ThreeOfThemModel", "either5", "()I"⟩, 58) := ⟨⟨by decide +kernel, by decide +kernel⟩, List.mem_of_getElem? (i := 846) (by decide +kernel), List.mem_of_getElem? (i := 1180) (by decide +kernel), List.mem_of_getElem? (i := 1181) (by decide +kernel)⟩
theorem lw_p69 : lw_okq (⟨"ThreeOfThemModel", "both5", "()I"⟩, 58) := ⟨⟨by decide +kernel, by decide +kernel⟩, List.mem_of_getElem? (i := 846) (by decide +kernel), List.mem_of_getElem? (i := 1184) (by decide +kernel), List.mem_of_getElem? (i := 1185) (by decide +kernel)⟩
theorem lw_p70 : lw_okq (⟨"ThreeOfThemModel", "added3", "()I"⟩, 58) := ⟨⟨by decide +kernel, by decide +kernel⟩, List.mem_of_getElem? (i := 846) (by decide +kernel), List.mem_of_getElem? (i := 1188) (by decide +kernel), List.mem_of_getElem? (i := 1189) (by decide +kernel)⟩
theorem lw_p71 : lw_okq (⟨"ThreeOfThemModel", "term3", "()I"⟩, 58) := ⟨⟨by decide +kernel, by decide +kernel⟩, List.mem_of_getElem? (i := 846) (by decide +kernel), List.mem_of_getElem? (i := 1192) (by decide +kernel), List.mem_of_getElem? (i := 1193) (by decide +kernel)⟩
theorem lw_p72 : lw_okq (⟨"ThreeOfThemModel", "atom3", "()I"⟩, 58) := ⟨⟨by decide +kernel, by decide +kernel⟩, List.mem_of_getElem? (i := 846) (by decide +kernel), List.mem_of_getElem? (i := 1196) (by decide +kernel), List.mem_of_getElem? (i := 1197) (by decide +kernel)⟩
theorem lw_p73 : lw_okq (⟨"ThreeOfThemModel", "either4", "()I"⟩, 58) := ⟨⟨by decide +kernel, by decide +kernel⟩, List.mem_of_getElem? (i := 846) (by decide +kernel), List.mem_of_getElem? (i := 1200) (by decide +kernel), List.mem_of_getElem? (i := 1201) (by decide +kernel)⟩
theorem lw_p74 : lw_okq (⟨"ThreeOfThemModel", "both4", "()I"⟩, 58) := ⟨⟨by decide +kernel, by decide +kernel⟩, List.mem_of_getElem? (i := 846) (by decide +kernel), List.mem_of_getElem? (i := 1204) (by decide +kernel), List.mem_of_getElem? (i := 1205) (by decide +kernel)⟩
theorem lw_p75 : lw_okq (⟨"ThreeOfThemModel", "added2", "()I"⟩, 58) := ⟨⟨by decide +kernel, by decide +kernel⟩, List.mem_of_getElem? (i := 846) (by decide +kernel), List.mem_of_getElem? (i := 1208) (by decide +kernel), List.mem_of_getElem? (i := 1209) (by decide +kernel)⟩
theorem lw_p76 : lw_okq (⟨"ThreeOfThemModel", "term2", "()I"⟩, 58) := ⟨⟨by decide +kernel, by decide +kernel⟩, List.mem_of_getElem? (i := 846) (by decide +kernel), List.mem_of_getElem? (i := 1212) (by decide +kernel), List.mem_of_getElem? (i := 1213) (by decide +kernel)⟩
theorem lw_p77 : lw_okq (⟨"ThreeOfThemModel", "atom2", "()I"⟩, 58) := ⟨⟨by decide +kernel, by decide +kernel⟩, List.mem_of_getElem? (i := 846) (by decide +kernel), List.mem_of_getElem? (i := 1216) (by decide +kernel), List.mem_of_getElem? (i := 1217) (by decide +kernel)⟩
theorem lw_p78 : lw_okq (⟨"ThreeOfThemModel", "either3", "()I"⟩, 58) := ⟨⟨by decide +kernel, by decide +kernel⟩, List.mem_of_getElem? (i := 846) (by decide +kernel), List.mem_of_getElem? (i := 1220) (by decide +kernel), List.mem_of_getElem? (i := 1221) (by decide +kernel)⟩
theorem lw_p79 : lw_okq (⟨"ThreeOfThemModel", "both3", "()I"⟩, 58) := ⟨⟨by decide +kernel, by decide +kernel⟩, List.mem_of_getElem? (i := 846) (by decide +kernel), List.mem_of_getElem? (i := 1224) (by decide +kernel), List.mem_of_getElem? (i := 1225) (by decide +kernel)⟩
def lw_privs_5 : List (MethodName × Nat) := [(⟨"ThreeOfThemModel", "name", "()I"⟩, 58), (⟨"ThreeOfThemModel", "added4", "()I"⟩, 58), (⟨"ThreeOfThemModel", "term4", "()I"⟩, 58), (⟨"ThreeOfThemModel", "atom4", "()I"⟩, 58), (⟨"ThreeOfThemModel", "either5", "()I"⟩, 58), (⟨"ThreeOfThemModel", "both5", "()I"⟩, 58), (⟨"ThreeOfThemModel", "added3", "()I"⟩, 58), (⟨"ThreeOfThemModel", "term3", "()I"⟩, 58), (⟨"ThreeOfThemModel", "atom3", "()I"⟩, 58), (⟨"ThreeOfThemModel", "either4", "()I"⟩, 58), (⟨"ThreeOfThemModel", "both4", "()I"⟩, 58), (⟨"ThreeOfThemModel", "added2", "()I"⟩, 58), (⟨"ThreeOfThemModel", "term2", "()I"⟩, 58), (⟨"ThreeOfThemModel", "atom2", "()I"⟩, 58), (⟨"ThreeOfThemModel", "either3", "()I"⟩, 58), (⟨"ThreeOfThemModel", "both3", "()I"⟩, 58)]
theorem lw_r5 : ∀ q ∈ lw_privs_5, lw_okq q := List.forall_mem_cons.mpr ⟨lw_p64, List.forall_mem_cons.mpr ⟨lw_p65, List.forall_mem_cons.mpr ⟨lw_p66, List.forall_mem_cons.mpr ⟨lw_p67, List.forall_mem_cons.mpr ⟨lw_p68, List.forall_mem_cons.mpr ⟨lw_p69, List.forall_mem_cons.mpr ⟨lw_p70, List.forall_mem_cons.mpr ⟨lw_p71, List.forall_mem_cons.mpr ⟨lw_p72, List.forall_mem_cons.mpr ⟨lw_p73, List.forall_mem_cons.mpr ⟨lw_p74, List.forall_mem_cons.mpr ⟨lw_p75, List.forall_mem_cons.mpr ⟨lw_p76, List.forall_mem_cons.mpr ⟨lw_p77, List.forall_mem_cons.mpr ⟨lw_p78, List.forall_mem_cons.mpr ⟨lw_p79, fun _ h => absurd h List.not_mem_nil⟩⟩⟩⟩⟩⟩⟩⟩⟩⟩⟩⟩⟩⟩⟩⟩
theorem lw_p80 : lw_okq (⟨"ThreeOfThemModel", "added1", "()I"⟩, 58) := ⟨⟨by decide +kernel, by decide +kernel⟩, List.mem_of_getElem? (i := 846) (by decide +kernel), List.mem_of_getElem? (i := 1228) (by decide +kernel), List.mem_of_getElem? (i := 1229) (by decide +kernel)⟩
theorem lw_p81 : lw_okq (⟨"ThreeOfThemModel", "term1", "()I"⟩, 58) := ⟨⟨by decide +kernel, by decide +kernel⟩, List.mem_of_getElem? (i := 846) (by decide +kernel), List.mem_of_getElem? (i := 1232) (by decide +kernel), List.mem_of_getElem? (i := 1233) (by decide +kernel)⟩
theorem lw_p82 : lw_okq (⟨"ThreeOfThemModel", "atom1", "()I"⟩, 58) := ⟨⟨by decide +kernel, by decide +kernel⟩, List.mem_of_getElem? (i := 846) (by decide +kernel), List.mem_of_getElem? (i := 1236) (by decide +kernel), List.mem_of_getElem? (i := 1237) (by decide +kernel)⟩
theorem lw_p83 : lw_okq (⟨"ThreeOfThemModel", "either2", "()I"⟩, 58) := ⟨⟨by decide +kernel, by decide +kernel⟩, List.mem_of_getElem? (i := 846) (by decide +kernel), List.mem_of_getElem? (i := 1240) (by decide +kernel), List.mem_of_getElem? (i := 1241) (by decide +kernel)⟩
theorem lw_p84 : lw_okq (⟨"ThreeOfThemModel", "both2", "()I"⟩, 58) := ⟨⟨by decide +kernel, by decide +kernel⟩, List.mem_of_getElem? (i := 846) (by decide +kernel), List.mem_of_getElem? (i := 1244) (by decide +kernel), List.mem_of_getElem? (i := 1245) (by decide +kernel)⟩
theorem lw_p85 : lw_okq (⟨"ThreeOfThemModel", "added0", "()I"⟩, 58) := ⟨⟨by decide +kernel, by decide +kernel⟩, List.mem_of_getElem? (i := 846) (by decide +kernel), List.mem_of_getElem? (i := 1248) (by decide +kernel), List.mem_of_getElem? (i := 1249) (by decide +kernel)⟩
theorem lw_p86 : lw_okq (⟨"ThreeOfThemModel", "term0", "()I"⟩, 58) := ⟨⟨by decide +kernel, by decide +kernel⟩, List.mem_of_getElem? (i := 846) (by decide +kernel), List.mem_of_getElem? (i := 1252) (by decide +kernel), List.mem_of_getElem? (i := 1253) (by decide +kernel)⟩
theorem lw_p87 : lw_okq (⟨"ThreeOfThemModel", "atom0", "()I"⟩, 58) := ⟨⟨by decide +kernel, by decide +kernel⟩, List.mem_of_getElem? (i := 846) (by decide +kernel), List.mem_of_getElem? (i := 1256) (by decide +kernel), List.mem_of_getElem? (i := 1257) (by decide +kernel)⟩
theorem lw_p88 : lw_okq (⟨"ThreeOfThemModel", "either1", "()I"⟩, 58) := ⟨⟨by decide +kernel, by decide +kernel⟩, List.mem_of_getElem? (i := 846) (by decide +kernel), List.mem_of_getElem? (i := 1260) (by decide +kernel), List.mem_of_getElem? (i := 1261) (by decide +kernel)⟩
theorem lw_p89 : lw_okq (⟨"ThreeOfThemModel", "both1", "()I"⟩, 58) := ⟨⟨by decide +kernel, by decide +kernel⟩, List.mem_of_getElem? (i := 846) (by decide +kernel), List.mem_of_getElem? (i := 1264) (by decide +kernel), List.mem_of_getElem? (i := 1265) (by decide +kernel)⟩
theorem lw_p90 : lw_okq (⟨"ThreeOfThemModel", "brings", "(II)I"⟩, 58) := ⟨⟨by decide +kernel, by decide +kernel⟩, List.mem_of_getElem? (i := 846) (by decide +kernel), List.mem_of_getElem? (i := 1281) (by decide +kernel), List.mem_of_getElem? (i := 1282) (by decide +kernel)⟩
theorem lw_p91 : lw_okq (⟨"ThreeOfThemModel", "wants", "(IIZ)I"⟩, 58) := ⟨⟨by decide +kernel, by decide +kernel⟩, List.mem_of_getElem? (i := 846) (by decide +kernel), List.mem_of_getElem? (i := 1285) (by decide +kernel), List.mem_of_getElem? (i := 1286) (by decide +kernel)⟩
theorem lw_p92 : lw_okq (⟨"ThreeOfThemModel", "isIn", "(I)Z"⟩, 58) := ⟨⟨by decide +kernel, by decide +kernel⟩, List.mem_of_getElem? (i := 846) (by decide +kernel), List.mem_of_getElem? (i := 1289) (by decide +kernel), List.mem_of_getElem? (i := 1290) (by decide +kernel)⟩
theorem lw_p93 : lw_okq (⟨"ThreeOfThemModel", "goodOf", "(II)I"⟩, 58) := ⟨⟨by decide +kernel, by decide +kernel⟩, List.mem_of_getElem? (i := 846) (by decide +kernel), List.mem_of_getElem? (i := 1293) (by decide +kernel), List.mem_of_getElem? (i := 1294) (by decide +kernel)⟩
theorem lw_p94 : lw_okq (⟨"ThreeOfThemModel", "says", "(IIII)I"⟩, 58) := ⟨⟨by decide +kernel, by decide +kernel⟩, List.mem_of_getElem? (i := 846) (by decide +kernel), List.mem_of_getElem? (i := 1297) (by decide +kernel), List.mem_of_getElem? (i := 1298) (by decide +kernel)⟩
theorem lw_p95 : lw_okq (⟨"ThreeOfThemModel", "isBand", "(III)Z"⟩, 58) := ⟨⟨by decide +kernel, by decide +kernel⟩, List.mem_of_getElem? (i := 846) (by decide +kernel), List.mem_of_getElem? (i := 1308) (by decide +kernel), List.mem_of_getElem? (i := 1309) (by decide +kernel)⟩
def lw_privs_6 : List (MethodName × Nat) := [(⟨"ThreeOfThemModel", "added1", "()I"⟩, 58), (⟨"ThreeOfThemModel", "term1", "()I"⟩, 58), (⟨"ThreeOfThemModel", "atom1", "()I"⟩, 58), (⟨"ThreeOfThemModel", "either2", "()I"⟩, 58), (⟨"ThreeOfThemModel", "both2", "()I"⟩, 58), (⟨"ThreeOfThemModel", "added0", "()I"⟩, 58), (⟨"ThreeOfThemModel", "term0", "()I"⟩, 58), (⟨"ThreeOfThemModel", "atom0", "()I"⟩, 58), (⟨"ThreeOfThemModel", "either1", "()I"⟩, 58), (⟨"ThreeOfThemModel", "both1", "()I"⟩, 58), (⟨"ThreeOfThemModel", "brings", "(II)I"⟩, 58), (⟨"ThreeOfThemModel", "wants", "(IIZ)I"⟩, 58), (⟨"ThreeOfThemModel", "isIn", "(I)Z"⟩, 58), (⟨"ThreeOfThemModel", "goodOf", "(II)I"⟩, 58), (⟨"ThreeOfThemModel", "says", "(IIII)I"⟩, 58), (⟨"ThreeOfThemModel", "isBand", "(III)Z"⟩, 58)]
theorem lw_r6 : ∀ q ∈ lw_privs_6, lw_okq q := List.forall_mem_cons.mpr ⟨lw_p80, List.forall_mem_cons.mpr ⟨lw_p81, List.forall_mem_cons.mpr ⟨lw_p82, List.forall_mem_cons.mpr ⟨lw_p83, List.forall_mem_cons.mpr ⟨lw_p84, List.forall_mem_cons.mpr ⟨lw_p85, List.forall_mem_cons.mpr ⟨lw_p86, List.forall_mem_cons.mpr ⟨lw_p87, List.forall_mem_cons.mpr ⟨lw_p88, List.forall_mem_cons.mpr ⟨lw_p89, List.forall_mem_cons.mpr ⟨lw_p90, List.forall_mem_cons.mpr ⟨lw_p91, List.forall_mem_cons.mpr ⟨lw_p92, List.forall_mem_cons.mpr ⟨lw_p93, List.forall_mem_cons.mpr ⟨lw_p94, List.forall_mem_cons.mpr ⟨lw_p95, fun _ h => absurd h List.not_mem_nil⟩⟩⟩⟩⟩⟩⟩⟩⟩⟩⟩⟩⟩⟩⟩⟩
theorem lw_p96 : lw_okq (⟨"ThreeOfThemModel", "looks", "(I)V"⟩, 58) := ⟨⟨by decide +kernel, by decide +kernel⟩, List.mem_of_getElem? (i := 846) (by decide +kernel), List.mem_of_getElem? (i := 1312) (by decide +kernel), List.mem_of_getElem? (i := 1313) (by decide +kernel)⟩
theorem lw_p97 : lw_okq (⟨"ThreeOfThemModel", "allWould", "(II)Z"⟩, 58) := ⟨⟨by decide +kernel, by decide +kernel⟩, List.mem_of_getElem? (i := 846) (by decide +kernel), List.mem_of_getElem? (i := 1316) (by decide +kernel), List.mem_of_getElem? (i := 1317) (by decide +kernel)⟩
theorem lw_p98 : lw_okq (⟨"ThreeOfThemModel", "wouldJoin", "(II)Z"⟩, 58) := ⟨⟨by decide +kernel, by decide +kernel⟩, List.mem_of_getElem? (i := 846) (by decide +kernel), List.mem_of_getElem? (i := 1320) (by decide +kernel), List.mem_of_getElem? (i := 1321) (by decide +kernel)⟩
theorem lw_p99 : lw_okq (⟨"ThreeOfThemModel", "goesThrough", "()V"⟩, 58) := ⟨⟨by decide +kernel, by decide +kernel⟩, List.mem_of_getElem? (i := 846) (by decide +kernel), List.mem_of_getElem? (i := 1328) (by decide +kernel), List.mem_of_getElem? (i := 1329) (by decide +kernel)⟩
theorem lw_p100 : lw_okq (⟨"ThreeOfThemModel", "dayMore", "()V"⟩, 58) := ⟨⟨by decide +kernel, by decide +kernel⟩, List.mem_of_getElem? (i := 846) (by decide +kernel), List.mem_of_getElem? (i := 1337) (by decide +kernel), List.mem_of_getElem? (i := 1338) (by decide +kernel)⟩
theorem lw_p101 : lw_okq (⟨"ThreeOfThemModel", "isRest", "()Z"⟩, 58) := ⟨⟨by decide +kernel, by decide +kernel⟩, List.mem_of_getElem? (i := 846) (by decide +kernel), List.mem_of_getElem? (i := 1346) (by decide +kernel), List.mem_of_getElem? (i := 1347) (by decide +kernel)⟩
theorem lw_p102 : lw_okq (⟨"ThreeOfThemModel", "foresees", "(I)V"⟩, 58) := ⟨⟨by decide +kernel, by decide +kernel⟩, List.mem_of_getElem? (i := 846) (by decide +kernel), List.mem_of_getElem? (i := 1354) (by decide +kernel), List.mem_of_getElem? (i := 1355) (by decide +kernel)⟩
theorem lw_p103 : lw_okq (⟨"ThreeOfThemModel", "endOf", "(I)V"⟩, 58) := ⟨⟨by decide +kernel, by decide +kernel⟩, List.mem_of_getElem? (i := 846) (by decide +kernel), List.mem_of_getElem? (i := 1358) (by decide +kernel), List.mem_of_getElem? (i := 1359) (by decide +kernel)⟩
theorem lw_p104 : lw_okq (⟨"ThreeOfThemModel", "foreseen", "(IIII)Z"⟩, 58) := ⟨⟨by decide +kernel, by decide +kernel⟩, List.mem_of_getElem? (i := 846) (by decide +kernel), List.mem_of_getElem? (i := 1362) (by decide +kernel), List.mem_of_getElem? (i := 1363) (by decide +kernel)⟩
theorem lw_p105 : lw_okq (⟨"ThreeOfThemModel", "allJoin", "(II)Z"⟩, 58) := ⟨⟨by decide +kernel, by decide +kernel⟩, List.mem_of_getElem? (i := 846) (by decide +kernel), List.mem_of_getElem? (i := 1366) (by decide +kernel), List.mem_of_getElem? (i := 1367) (by decide +kernel)⟩
theorem lw_p106 : lw_okq (⟨"ThreeOfThemModel", "isSafe", "(I)Z"⟩, 58) := ⟨⟨by decide +kernel, by decide +kernel⟩, List.mem_of_getElem? (i := 846) (by decide +kernel), List.mem_of_getElem? (i := 1374) (by decide +kernel), List.mem_of_getElem? (i := 1375) (by decide +kernel)⟩
theorem lw_p107 : lw_okq (⟨"ThreeOfThemModel", "findsOaths", "()V"⟩, 58) := ⟨⟨by decide +kernel, by decide +kernel⟩, List.mem_of_getElem? (i := 846) (by decide +kernel), List.mem_of_getElem? (i := 1386) (by decide +kernel), List.mem_of_getElem? (i := 1387) (by decide +kernel)⟩
theorem lw_p108 : lw_okq (⟨"ThreeOfThemModel", "canSwear", "(I)Z"⟩, 58) := ⟨⟨by decide +kernel, by decide +kernel⟩, List.mem_of_getElem? (i := 846) (by decide +kernel), List.mem_of_getElem? (i := 1390) (by decide +kernel), List.mem_of_getElem? (i := 1391) (by decide +kernel)⟩
theorem lw_p109 : lw_okq (⟨"ThreeOfThemModel", "draws", "(II)I"⟩, 58) := ⟨⟨by decide +kernel, by decide +kernel⟩, List.mem_of_getElem? (i := 846) (by decide +kernel), List.mem_of_getElem? (i := 1415) (by decide +kernel), List.mem_of_getElem? (i := 1416) (by decide +kernel)⟩
theorem lw_p110 : lw_okq (⟨"ThreeOfThemModel", "meets", "(I)V"⟩, 58) := ⟨⟨by decide +kernel, by decide +kernel⟩, List.mem_of_getElem? (i := 846) (by decide +kernel), List.mem_of_getElem? (i := 1420) (by decide +kernel), List.mem_of_getElem? (i := 1421) (by decide +kernel)⟩
def lw_privs_7 : List (MethodName × Nat) := [(⟨"ThreeOfThemModel", "looks", "(I)V"⟩, 58), (⟨"ThreeOfThemModel", "allWould", "(II)Z"⟩, 58), (⟨"ThreeOfThemModel", "wouldJoin", "(II)Z"⟩, 58), (⟨"ThreeOfThemModel", "goesThrough", "()V"⟩, 58), (⟨"ThreeOfThemModel", "dayMore", "()V"⟩, 58), (⟨"ThreeOfThemModel", "isRest", "()Z"⟩, 58), (⟨"ThreeOfThemModel", "foresees", "(I)V"⟩, 58), (⟨"ThreeOfThemModel", "endOf", "(I)V"⟩, 58), (⟨"ThreeOfThemModel", "foreseen", "(IIII)Z"⟩, 58), (⟨"ThreeOfThemModel", "allJoin", "(II)Z"⟩, 58), (⟨"ThreeOfThemModel", "isSafe", "(I)Z"⟩, 58), (⟨"ThreeOfThemModel", "findsOaths", "()V"⟩, 58), (⟨"ThreeOfThemModel", "canSwear", "(I)Z"⟩, 58), (⟨"ThreeOfThemModel", "draws", "(II)I"⟩, 58), (⟨"ThreeOfThemModel", "meets", "(I)V"⟩, 58)]
theorem lw_r7 : ∀ q ∈ lw_privs_7, lw_okq q := List.forall_mem_cons.mpr ⟨lw_p96, List.forall_mem_cons.mpr ⟨lw_p97, List.forall_mem_cons.mpr ⟨lw_p98, List.forall_mem_cons.mpr ⟨lw_p99, List.forall_mem_cons.mpr ⟨lw_p100, List.forall_mem_cons.mpr ⟨lw_p101, List.forall_mem_cons.mpr ⟨lw_p102, List.forall_mem_cons.mpr ⟨lw_p103, List.forall_mem_cons.mpr ⟨lw_p104, List.forall_mem_cons.mpr ⟨lw_p105, List.forall_mem_cons.mpr ⟨lw_p106, List.forall_mem_cons.mpr ⟨lw_p107, List.forall_mem_cons.mpr ⟨lw_p108, List.forall_mem_cons.mpr ⟨lw_p109, List.forall_mem_cons.mpr ⟨lw_p110, fun _ h => absurd h List.not_mem_nil⟩⟩⟩⟩⟩⟩⟩⟩⟩⟩⟩⟩⟩⟩⟩
def lw_privs : List (MethodName × Nat) := lw_privs_1 ++ (lw_privs_2 ++ (lw_privs_3 ++ (lw_privs_4 ++ (lw_privs_5 ++ (lw_privs_6 ++ (lw_privs_7))))))
def lw_tbl : List Cond := k2_sels lw_privs ++ tables_1
theorem lw_privs_ok : ∀ q ∈ lw_privs, lw_okq q := by
  show ∀ q ∈ lw_privs_1 ++ (lw_privs_2 ++ (lw_privs_3 ++ (lw_privs_4 ++ (lw_privs_5 ++ (lw_privs_6 ++ (lw_privs_7)))))), lw_okq q
  exact List.forall_mem_append.mpr ⟨lw_r1, List.forall_mem_append.mpr ⟨lw_r2, List.forall_mem_append.mpr ⟨lw_r3, List.forall_mem_append.mpr ⟨lw_r4, List.forall_mem_append.mpr ⟨lw_r5, List.forall_mem_append.mpr ⟨lw_r6, lw_r7⟩⟩⟩⟩⟩⟩
end
section
def RX0 : String := "ThreeOfThem$House"
def TX0 : u_T := fun k => match k with
  | 0 => ("ThreeOfThem$House", "kinds", "[I", true)
  | 1 => ("ThreeOfThem$House", "numbers", "[I", true)
  | 2 => ("ThreeOfThem$House", "likes", "[I", true)
  | 3 => ("ThreeOfThem$House", "oaths", "[I", true)
  | 4 => ("ThreeOfThem$House", "inmates", "I", false)
  | 5 => ("ThreeOfThem$House", "in", "I", false)
  | 6 => ("ThreeOfThem$House", "rent", "I", false)
  | 7 => ("ThreeOfThem$House", "needed", "I", false)
  | 8 => ("ThreeOfThem$House", "day", "I", false)
  | _ => ("ThreeOfThem$House", "rule", "I", false)
def tyX0 : Nat → FieldType := fun k => match k with
  | 0 => .array .int
  | 1 => .array .int
  | 2 => .array .int
  | 3 => .array .int
  | 4 => .int
  | 5 => .int
  | 6 => .int
  | 7 => .int
  | 8 => .int
  | _ => .int
abbrev wsX00 : List Cond := u_ws RX0 TX0 10
theorem nmX0 : ∀ a, a < 10 → ∀ b, b < 10 → a ≠ b → (TX0 a).2.1 ≠ (TX0 b).2.1 := by decide +kernel
theorem tyX0_ok : ∀ k, k < 10 → parseFieldDescriptor (TX0 k).2.2.1 = some (tyX0 k) := by decide +kernel
abbrev cX0_init : ByteArray := prog_2_method_1_code
def yX0_init : MethodName := ⟨RX0, "<init>", "()V"⟩
abbrev cX0_become : ByteArray := prog_2_method_2_code
def yX0_become : MethodName := ⟨RX0, "become", "(LThreeOfThem$House;)V"⟩
abbrev cX0_welcome : ByteArray := prog_2_method_3_code
def yX0_welcome : MethodName := ⟨RX0, "welcome", "(II)I"⟩
abbrev cX0_knows : ByteArray := prog_2_method_4_code
def yX0_knows : MethodName := ⟨RX0, "knows", "(I)Z"⟩
abbrev cX0_knowsPair : ByteArray := prog_2_method_5_code
def yX0_knowsPair : MethodName := ⟨RX0, "knowsPair", "(II)Z"⟩
abbrev cX0_isIn : ByteArray := prog_2_method_6_code
def yX0_isIn : MethodName := ⟨RX0, "isIn", "(I)Z"⟩
abbrev cX0_everyone : ByteArray := prog_2_method_7_code
def yX0_everyone : MethodName := ⟨RX0, "everyone", "()I"⟩
abbrev cX0_changeLike : ByteArray := prog_2_method_8_code
def yX0_changeLike : MethodName := ⟨RX0, "changeLike", "(III)I"⟩
abbrev cX0_bind : ByteArray := prog_2_method_9_code
def yX0_bind : MethodName := ⟨RX0, "bind", "(IIZ)V"⟩
abbrev cX0_oathPairs : ByteArray := prog_2_method_10_code
def yX0_oathPairs : MethodName := ⟨RX0, "oathPairs", "()I"⟩
abbrev cX0_leave : ByteArray := prog_2_method_11_code
def yX0_leave : MethodName := ⟨RX0, "leave", "(I)V"⟩
abbrev cX0_passDay : ByteArray := prog_2_method_12_code
def yX0_passDay : MethodName := ⟨RX0, "passDay", "()V"⟩
abbrev cX0_share : ByteArray := prog_2_method_13_code
def yX0_share : MethodName := ⟨RX0, "share", "(I)I"⟩
abbrev cX0_bringsOf : ByteArray := prog_2_method_14_code
def yX0_bringsOf : MethodName := ⟨RX0, "bringsOf", "(II)I"⟩
abbrev cX0_wantsOf : ByteArray := prog_2_method_15_code
def yX0_wantsOf : MethodName := ⟨RX0, "wantsOf", "(IIZ)I"⟩
def RX1 : String := "ThreeOfThem$Judge"
def TX1 : u_T := fun k => match k with
  | 0 => ("ThreeOfThem$Judge", "house", "LThreeOfThem$House;", true)
  | 1 => ("ThreeOfThem$Judge", "rule", "LThreeOfThem$Text;", false)
  | 2 => ("ThreeOfThem$Judge", "facts", "[I", true)
  | 3 => ("ThreeOfThem$Judge", "stack", "[I", true)
  | 4 => ("ThreeOfThem$Judge", "looked", "I", false)
  | 5 => ("ThreeOfThem$Judge", "gains", "[I", true)
  | 6 => ("ThreeOfThem$Judge", "freeAgainst", "[I", true)
  | 7 => ("ThreeOfThem$Judge", "swornAgainst", "[I", true)
  | 8 => ("ThreeOfThem$Judge", "goods", "[I", true)
  | 9 => ("ThreeOfThem$Judge", "left", "[I", true)
  | 10 => ("ThreeOfThem$Judge", "goesFirst", "[I", true)
  | 11 => ("ThreeOfThem$Judge", "meetings", "[I", true)
  | 12 => ("ThreeOfThem$Judge", "meetingCount", "I", false)
  | 13 => ("ThreeOfThem$Judge", "went", "[I", true)
  | 14 => ("ThreeOfThem$Judge", "oathsFound", "[I", true)
  | _ => ("ThreeOfThem$Judge", "followed", "[I", true)
def tyX1 : Nat → FieldType := fun k => match k with
  | 0 => .object "ThreeOfThem$House"
  | 1 => .object "ThreeOfThem$Text"
  | 2 => .array .int
  | 3 => .array .int
  | 4 => .int
  | 5 => .array .int
  | 6 => .array .int
  | 7 => .array .int
  | 8 => .array .int
  | 9 => .array .int
  | 10 => .array .int
  | 11 => .array .int
  | 12 => .int
  | 13 => .array .int
  | 14 => .array .int
  | _ => .array .int
abbrev wsX10 : List Cond := u_ws RX1 TX1 16
theorem nmX1 : ∀ a, a < 16 → ∀ b, b < 16 → a ≠ b → (TX1 a).2.1 ≠ (TX1 b).2.1 := by decide +kernel
theorem tyX1_ok : ∀ k, k < 16 → parseFieldDescriptor (TX1 k).2.2.1 = some (tyX1 k) := by decide +kernel
abbrev cX1_init : ByteArray := prog_3_method_1_code
def yX1_init : MethodName := ⟨RX1, "<init>", "()V"⟩
abbrev cX1_factsOf : ByteArray := prog_3_method_2_code
def yX1_factsOf : MethodName := ⟨RX1, "factsOf", "(III)[I"⟩
abbrev cX1_worthOf : ByteArray := prog_3_method_3_code
def yX1_worthOf : MethodName := ⟨RX1, "worthOf", "(III)I"⟩
abbrev cX1_goodOf : ByteArray := prog_3_method_4_code
def yX1_goodOf : MethodName := ⟨RX1, "goodOf", "(III)I"⟩
abbrev cX1_moves : ByteArray := prog_3_method_5_code
def yX1_moves : MethodName := ⟨RX1, "moves", "(IIIIZ)Z"⟩
abbrev cX1_lookAt : ByteArray := prog_3_method_6_code
def yX1_lookAt : MethodName := ⟨RX1, "lookAt", "(I)V"⟩
abbrev cX1_compare : ByteArray := prog_3_method_7_code
def yX1_compare : MethodName := ⟨RX1, "compare", "()V"⟩
abbrev cX1_weigh : ByteArray := prog_3_method_8_code
def yX1_weigh : MethodName := ⟨RX1, "weigh", "()V"⟩
abbrev cX1_isLookedPair : ByteArray := prog_3_method_9_code
def yX1_isLookedPair : MethodName := ⟨RX1, "isLookedPair", "(II)Z"⟩
abbrev cX1_against : ByteArray := prog_3_method_10_code
def yX1_against : MethodName := ⟨RX1, "against", "(II)I"⟩
abbrev cX1_against_ : ByteArray := prog_3_method_11_code
def yX1_against_ : MethodName := ⟨RX1, "against", "(I)I"⟩
abbrev cX1_wouldTurnOut : ByteArray := prog_3_method_12_code
def yX1_wouldTurnOut : MethodName := ⟨RX1, "wouldTurnOut", "(II)Z"⟩
abbrev cX1_firstBand : ByteArray := prog_3_method_13_code
def yX1_firstBand : MethodName := ⟨RX1, "firstBand", "(I)I"⟩
abbrev cX1_bandsAgainst : ByteArray := prog_3_method_14_code
def yX1_bandsAgainst : MethodName := ⟨RX1, "bandsAgainst", "(I)I"⟩
abbrev cX1_allBands : ByteArray := prog_3_method_15_code
def yX1_allBands : MethodName := ⟨RX1, "allBands", "()I"⟩
abbrev cX1_firstOther : ByteArray := prog_3_method_16_code
def yX1_firstOther : MethodName := ⟨RX1, "firstOther", "()I"⟩
abbrev cX1_atRest : ByteArray := prog_3_method_17_code
def yX1_atRest : MethodName := ⟨RX1, "atRest", "()Z"⟩
abbrev cX1_isSafe : ByteArray := prog_3_method_18_code
def yX1_isSafe : MethodName := ⟨RX1, "isSafe", "(I)Z"⟩
abbrev cX1_runOn : ByteArray := prog_3_method_19_code
def yX1_runOn : MethodName := ⟨RX1, "runOn", "()I"⟩
abbrev cX1_foresee : ByteArray := prog_3_method_20_code
def yX1_foresee : MethodName := ⟨RX1, "foresee", "(I)V"⟩
abbrev cX1_foreseeSet : ByteArray := prog_3_method_21_code
def yX1_foreseeSet : MethodName := ⟨RX1, "foreseeSet", "(II)V"⟩
abbrev cX1_foreseers : ByteArray := prog_3_method_22_code
def yX1_foreseers : MethodName := ⟨RX1, "foreseers", "(III)I"⟩
abbrev cX1_savingOath : ByteArray := prog_3_method_23_code
def yX1_savingOath : MethodName := ⟨RX1, "savingOath", "(I)I"⟩
abbrev cX1_findOaths : ByteArray := prog_3_method_24_code
def yX1_findOaths : MethodName := ⟨RX1, "findOaths", "()V"⟩
abbrev cX1_findTwoOaths : ByteArray := prog_3_method_25_code
def yX1_findTwoOaths : MethodName := ⟨RX1, "findTwoOaths", "()V"⟩
abbrev cX1_findOath : ByteArray := prog_3_method_26_code
def yX1_findOath : MethodName := ⟨RX1, "findOath", "(II)Z"⟩
abbrev cX1_isFreePair : ByteArray := prog_3_method_27_code
def yX1_isFreePair : MethodName := ⟨RX1, "isFreePair", "(I)Z"⟩
abbrev cX1_bindPair : ByteArray := prog_3_method_28_code
def yX1_bindPair : MethodName := ⟨RX1, "bindPair", "(IZ)V"⟩
abbrev cX1_pairName : ByteArray := prog_3_method_29_code
def yX1_pairName : MethodName := ⟨RX1, "pairName", "(I)I"⟩
abbrev cX1_leastNeeded : ByteArray := prog_3_method_30_code
def yX1_leastNeeded : MethodName := ⟨RX1, "leastNeeded", "()I"⟩
abbrev cX1_leastRent : ByteArray := prog_3_method_31_code
def yX1_leastRent : MethodName := ⟨RX1, "leastRent", "()I"⟩
abbrev cX1_follow : ByteArray := prog_3_method_32_code
def yX1_follow : MethodName := ⟨RX1, "follow", "(LThreeOfThem$Sheet;)Z"⟩
abbrev cX1_draw : ByteArray := prog_3_method_33_code
def yX1_draw : MethodName := ⟨RX1, "draw", "(II)I"⟩
abbrev cX1_listMeetings : ByteArray := prog_3_method_34_code
def yX1_listMeetings : MethodName := ⟨RX1, "listMeetings", "()V"⟩
abbrev cX1_loserOf : ByteArray := prog_3_method_35_code
def yX1_loserOf : MethodName := ⟨RX1, "loserOf", "(I)I"⟩
def RX2 : String := "ThreeOfThem$Reader"
def TX2 : u_T := fun k => match k with
  | 0 => ("ThreeOfThem$Reader", "bytes", "[I", true)
  | 1 => ("ThreeOfThem$Reader", "size", "I", false)
  | 2 => ("ThreeOfThem$Reader", "tokens", "[I", true)
  | 3 => ("ThreeOfThem$Reader", "places", "[I", true)
  | 4 => ("ThreeOfThem$Reader", "tokenCount", "I", false)
  | 5 => ("ThreeOfThem$Reader", "at", "I", false)
  | 6 => ("ThreeOfThem$Reader", "code", "[I", true)
  | _ => ("ThreeOfThem$Reader", "length", "I", false)
def tyX2 : Nat → FieldType := fun k => match k with
  | 0 => .array .int
  | 1 => .int
  | 2 => .array .int
  | 3 => .array .int
  | 4 => .int
  | 5 => .int
  | 6 => .array .int
  | _ => .int
abbrev wsX20 : List Cond := u_ws RX2 TX2 8
theorem nmX2 : ∀ a, a < 8 → ∀ b, b < 8 → a ≠ b → (TX2 a).2.1 ≠ (TX2 b).2.1 := by decide +kernel
theorem tyX2_ok : ∀ k, k < 8 → parseFieldDescriptor (TX2 k).2.2.1 = some (tyX2 k) := by decide +kernel
abbrev cX2_init : ByteArray := prog_4_method_1_code
def yX2_init : MethodName := ⟨RX2, "<init>", "()V"⟩
abbrev cX2_put : ByteArray := prog_4_method_2_code
def yX2_put : MethodName := ⟨RX2, "put", "(I)V"⟩
abbrev cX2_clear : ByteArray := prog_4_method_3_code
def yX2_clear : MethodName := ⟨RX2, "clear", "()V"⟩
abbrev cX2_place : ByteArray := prog_4_method_4_code
def yX2_place : MethodName := ⟨RX2, "place", "()I"⟩
abbrev cX2_compile : ByteArray := prog_4_method_5_code
def yX2_compile : MethodName := ⟨RX2, "compile", "()LThreeOfThem$Text;"⟩
abbrev cX2_split : ByteArray := prog_4_method_6_code
def yX2_split : MethodName := ⟨RX2, "split", "()V"⟩
abbrev cX2_behind : ByteArray := prog_4_method_7_code
def yX2_behind : MethodName := ⟨RX2, "behind", "(I)I"⟩
abbrev cX2_tokenOf : ByteArray := prog_4_method_8_code
def yX2_tokenOf : MethodName := ⟨RX2, "tokenOf", "(II)I"⟩
abbrev cX2_numberOf : ByteArray := prog_4_method_9_code
def yX2_numberOf : MethodName := ⟨RX2, "numberOf", "(II)I"⟩
abbrev cX2_wordOf : ByteArray := prog_4_method_10_code
def yX2_wordOf : MethodName := ⟨RX2, "wordOf", "(II)I"⟩
abbrev cX2_spells : ByteArray := prog_4_method_11_code
def yX2_spells : MethodName := ⟨RX2, "spells", "(Ljava/lang/String;II)Z"⟩
abbrev cX2_signOf : ByteArray := prog_4_method_12_code
def yX2_signOf : MethodName := ⟨RX2, "signOf", "(I)I"⟩
abbrev cX2_isLetter : ByteArray := prog_4_method_13_code
def yX2_isLetter : MethodName := ⟨RX2, "isLetter", "(I)Z"⟩
abbrev cX2_isDigit : ByteArray := prog_4_method_14_code
def yX2_isDigit : MethodName := ⟨RX2, "isDigit", "(I)Z"⟩
abbrev cX2_current : ByteArray := prog_4_method_15_code
def yX2_current : MethodName := ⟨RX2, "current", "()I"⟩
abbrev cX2_pass : ByteArray := prog_4_method_16_code
def yX2_pass : MethodName := ⟨RX2, "pass", "(I)Z"⟩
abbrev cX2_emit : ByteArray := prog_4_method_17_code
def yX2_emit : MethodName := ⟨RX2, "emit", "(I)V"⟩
abbrev cX2_readPart : ByteArray := prog_4_method_18_code
def yX2_readPart : MethodName := ⟨RX2, "readPart", "(I)Z"⟩
abbrev cX2_readLevel : ByteArray := prog_4_method_19_code
def yX2_readLevel : MethodName := ⟨RX2, "readLevel", "(II)Z"⟩
abbrev cX2_readOne : ByteArray := prog_4_method_20_code
def yX2_readOne : MethodName := ⟨RX2, "readOne", "(I)Z"⟩
abbrev cX2_readOpened : ByteArray := prog_4_method_21_code
def yX2_readOpened : MethodName := ⟨RX2, "readOpened", "(III)Z"⟩
abbrev cX2_levelOf : ByteArray := prog_4_method_22_code
def yX2_levelOf : MethodName := ⟨RX2, "levelOf", "(I)I"⟩
def RX3 : String := "ThreeOfThem$Sheet"
def TX3 : u_T := fun k => match k with
  | 0 => ("ThreeOfThem$Sheet", "row", "[I", true)
  | 1 => ("ThreeOfThem$Sheet", "sort", "I", false)
  | _ => ("ThreeOfThem$Sheet", "size", "I", false)
def tyX3 : Nat → FieldType := fun k => match k with
  | 0 => .array .int
  | 1 => .int
  | _ => .int
abbrev wsX30 : List Cond := u_ws RX3 TX3 3
theorem nmX3 : ∀ a, a < 3 → ∀ b, b < 3 → a ≠ b → (TX3 a).2.1 ≠ (TX3 b).2.1 := by decide +kernel
theorem tyX3_ok : ∀ k, k < 3 → parseFieldDescriptor (TX3 k).2.2.1 = some (tyX3 k) := by decide +kernel
abbrev cX3_init : ByteArray := prog_5_method_1_code
def yX3_init : MethodName := ⟨RX3, "<init>", "()V"⟩
abbrev cX3_begin : ByteArray := prog_5_method_2_code
def yX3_begin : MethodName := ⟨RX3, "begin", "(II)V"⟩
abbrev cX3_isMissing : ByteArray := prog_5_method_3_code
def yX3_isMissing : MethodName := ⟨RX3, "isMissing", "()Z"⟩
abbrev cX3_reaches : ByteArray := prog_5_method_4_code
def yX3_reaches : MethodName := ⟨RX3, "reaches", "(II)Z"⟩
abbrev cX3_write : ByteArray := prog_5_method_5_code
def yX3_write : MethodName := ⟨RX3, "write", "(II)V"⟩
def RX4 : String := "ThreeOfThem$Text"
def TX4 : u_T := fun k => match k with
  | 0 => ("ThreeOfThem$Text", "code", "[I", true)
  | 1 => ("ThreeOfThem$Text", "oathFrom", "I", true)
  | _ => ("ThreeOfThem$Text", "joinsFrom", "I", true)
def tyX4 : Nat → FieldType := fun k => match k with
  | 0 => .array .int
  | 1 => .int
  | _ => .int
abbrev wsX40 : List Cond := u_ws RX4 TX4 3
theorem nmX4 : ∀ a, a < 3 → ∀ b, b < 3 → a ≠ b → (TX4 a).2.1 ≠ (TX4 b).2.1 := by decide +kernel
theorem tyX4_ok : ∀ k, k < 3 → parseFieldDescriptor (TX4 k).2.2.1 = some (tyX4 k) := by decide +kernel
abbrev cX4_init : ByteArray := prog_6_method_1_code
def yX4_init : MethodName := ⟨RX4, "<init>", "([III)V"⟩
abbrev cX4_names : ByteArray := prog_6_method_2_code
def yX4_names : MethodName := ⟨RX4, "names", "(I)Z"⟩
abbrev cX4_value : ByteArray := prog_6_method_3_code
def yX4_value : MethodName := ⟨RX4, "value", "(I[I[I)I"⟩
abbrev cX4_join : ByteArray := prog_6_method_4_code
def yX4_join : MethodName := ⟨RX4, "join", "(III)I"⟩
def RX5 : String := "ThreeOfThem"
def TX5 : u_T := fun k => match k with
  | 0 => ("ThreeOfThem", "house", "LThreeOfThem$House;", true)
  | 1 => ("ThreeOfThem", "kept", "LThreeOfThem$House;", true)
  | 2 => ("ThreeOfThem", "judge", "LThreeOfThem$Judge;", true)
  | 3 => ("ThreeOfThem", "reader", "LThreeOfThem$Reader;", true)
  | 4 => ("ThreeOfThem", "texts", "[LThreeOfThem$Text;", true)
  | 5 => ("ThreeOfThem", "sheets", "[LThreeOfThem$Sheet;", true)
  | 6 => ("ThreeOfThem", "textCount", "I", false)
  | _ => ("ThreeOfThem", "hasImage", "Z", false)
def tyX5 : Nat → FieldType := fun k => match k with
  | 0 => .object "ThreeOfThem$House"
  | 1 => .object "ThreeOfThem$House"
  | 2 => .object "ThreeOfThem$Judge"
  | 3 => .object "ThreeOfThem$Reader"
  | 4 => .array (.object "ThreeOfThem$Text")
  | 5 => .array (.object "ThreeOfThem$Sheet")
  | 6 => .int
  | _ => .boolean
abbrev wsX50 : List Cond := u_ws RX5 TX5 8
theorem nmX5 : ∀ a, a < 8 → ∀ b, b < 8 → a ≠ b → (TX5 a).2.1 ≠ (TX5 b).2.1 := by decide +kernel
theorem tyX5_ok : ∀ k, k < 8 → parseFieldDescriptor (TX5 k).2.2.1 = some (tyX5 k) := by decide +kernel
abbrev cX5_init : ByteArray := prog_1_method_1_code
def yX5_init : MethodName := ⟨RX5, "<init>", "()V"⟩
abbrev cX5_inmate : ByteArray := prog_1_method_2_code
def yX5_inmate : MethodName := ⟨RX5, "inmate", "(II)I"⟩
abbrev cX5_like : ByteArray := prog_1_method_3_code
def yX5_like : MethodName := ⟨RX5, "like", "(III)I"⟩
abbrev cX5_swear : ByteArray := prog_1_method_4_code
def yX5_swear : MethodName := ⟨RX5, "swear", "(III)I"⟩
abbrev cX5_set : ByteArray := prog_1_method_5_code
def yX5_set : MethodName := ⟨RX5, "set", "(III)I"⟩
abbrev cX5_setRent : ByteArray := prog_1_method_6_code
def yX5_setRent : MethodName := ⟨RX5, "setRent", "(I)I"⟩
abbrev cX5_setNeeded : ByteArray := prog_1_method_7_code
def yX5_setNeeded : MethodName := ⟨RX5, "setNeeded", "(I)I"⟩
abbrev cX5_setDay : ByteArray := prog_1_method_8_code
def yX5_setDay : MethodName := ⟨RX5, "setDay", "(I)I"⟩
abbrev cX5_setNumber : ByteArray := prog_1_method_9_code
def yX5_setNumber : MethodName := ⟨RX5, "setNumber", "(II)I"⟩
abbrev cX5_setIn : ByteArray := prog_1_method_10_code
def yX5_setIn : MethodName := ⟨RX5, "setIn", "(II)I"⟩
abbrev cX5_told : ByteArray := prog_1_method_11_code
def yX5_told : MethodName := ⟨RX5, "told", "(II)I"⟩
abbrev cX5_feed : ByteArray := prog_1_method_12_code
def yX5_feed : MethodName := ⟨RX5, "feed", "(I)I"⟩
abbrev cX5_text : ByteArray := prog_1_method_13_code
def yX5_text : MethodName := ⟨RX5, "text", "()I"⟩
abbrev cX5_force : ByteArray := prog_1_method_14_code
def yX5_force : MethodName := ⟨RX5, "force", "(I)I"⟩
abbrev cX5_would : ByteArray := prog_1_method_15_code
def yX5_would : MethodName := ⟨RX5, "would", "(II)I"⟩
abbrev cX5_now : ByteArray := prog_1_method_16_code
def yX5_now : MethodName := ⟨RX5, "now", "(I)I"⟩
abbrev cX5_turnOut : ByteArray := prog_1_method_17_code
def yX5_turnOut : MethodName := ⟨RX5, "turnOut", "(II)I"⟩
abbrev cX5_goOn : ByteArray := prog_1_method_18_code
def yX5_goOn : MethodName := ⟨RX5, "goOn", "(I)I"⟩
abbrev cX5_end : ByteArray := prog_1_method_19_code
def yX5_end : MethodName := ⟨RX5, "end", "(II)I"⟩
abbrev cX5_mayMeet : ByteArray := prog_1_method_20_code
def yX5_mayMeet : MethodName := ⟨RX5, "mayMeet", "(II)Z"⟩
abbrev cX5_safe : ByteArray := prog_1_method_21_code
def yX5_safe : MethodName := ⟨RX5, "safe", "()I"⟩
abbrev cX5_sworn : ByteArray := prog_1_method_22_code
def yX5_sworn : MethodName := ⟨RX5, "sworn", "(I)I"⟩
abbrev cX5_oaths : ByteArray := prog_1_method_23_code
def yX5_oaths : MethodName := ⟨RX5, "oaths", "(I)I"⟩
abbrev cX5_shield : ByteArray := prog_1_method_24_code
def yX5_shield : MethodName := ⟨RX5, "shield", "(II)I"⟩
abbrev cX5_holds : ByteArray := prog_1_method_25_code
def yX5_holds : MethodName := ⟨RX5, "holds", "(I)I"⟩
abbrev cX5_who : ByteArray := prog_1_method_26_code
def yX5_who : MethodName := ⟨RX5, "who", "(II)I"⟩
abbrev cX5_drawn : ByteArray := prog_1_method_27_code
def yX5_drawn : MethodName := ⟨RX5, "drawn", "(II)I"⟩
abbrev cX5_chance : ByteArray := prog_1_method_28_code
def yX5_chance : MethodName := ⟨RX5, "chance", "(IIIII)J"⟩
abbrev cX5_image : ByteArray := prog_1_method_29_code
def yX5_image : MethodName := ⟨RX5, "image", "()I"⟩
abbrev cX5_back : ByteArray := prog_1_method_30_code
def yX5_back : MethodName := ⟨RX5, "back", "()I"⟩
abbrev cX5_count : ByteArray := prog_1_method_31_code
def yX5_count : MethodName := ⟨RX5, "count", "(I)I"⟩
abbrev cX5_sheet : ByteArray := prog_1_method_32_code
def yX5_sheet : MethodName := ⟨RX5, "sheet", "(III)I"⟩
abbrev cX5_cell : ByteArray := prog_1_method_33_code
def yX5_cell : MethodName := ⟨RX5, "cell", "(III)I"⟩
abbrev cX5_copy : ByteArray := prog_1_method_34_code
def yX5_copy : MethodName := ⟨RX5, "copy", "(IIIII)I"⟩
abbrev cX5_likes : ByteArray := prog_1_method_35_code
def yX5_likes : MethodName := ⟨RX5, "likes", "(IIII)I"⟩
abbrev cX5_likeByTriples : ByteArray := prog_1_method_36_code
def yX5_likeByTriples : MethodName := ⟨RX5, "likeByTriples", "(LThreeOfThem$Sheet;II)I"⟩
abbrev cX5_taken : ByteArray := prog_1_method_37_code
def yX5_taken : MethodName := ⟨RX5, "taken", "(II)I"⟩
abbrev cX5_thinking : ByteArray := prog_1_method_38_code
def yX5_thinking : MethodName := ⟨RX5, "thinking", "()LThreeOfThem$Judge;"⟩
abbrev cX5_thinkingOfHouse : ByteArray := prog_1_method_39_code
def yX5_thinkingOfHouse : MethodName := ⟨RX5, "thinkingOfHouse", "()LThreeOfThem$Judge;"⟩
abbrev cX5_isSheet : ByteArray := prog_1_method_40_code
def yX5_isSheet : MethodName := ⟨RX5, "isSheet", "(I)Z"⟩
abbrev cX5_bit : ByteArray := prog_1_method_41_code
def yX5_bit : MethodName := ⟨RX5, "bit", "(I)I"⟩
abbrev cX5_has : ByteArray := prog_1_method_42_code
def yX5_has : MethodName := ⟨RX5, "has", "(II)Z"⟩
abbrev cX5_clamp : ByteArray := prog_1_method_43_code
def yX5_clamp : MethodName := ⟨RX5, "clamp", "(III)I"⟩
abbrev cX5_lowest : ByteArray := prog_1_method_44_code
def yX5_lowest : MethodName := ⟨RX5, "lowest", "(II)I"⟩
abbrev cX5_choose : ByteArray := prog_1_method_45_code
def yX5_choose : MethodName := ⟨RX5, "choose", "(II)I"⟩
abbrev cX5_commonDivisor : ByteArray := prog_1_method_46_code
def yX5_commonDivisor : MethodName := ⟨RX5, "commonDivisor", "(II)I"⟩
abbrev cX5_isUnder : ByteArray := prog_1_method_47_code
def yX5_isUnder : MethodName := ⟨RX5, "isUnder", "(II)Z"⟩
abbrev cX5_bringsAs : ByteArray := prog_1_method_48_code
def yX5_bringsAs : MethodName := ⟨RX5, "bringsAs", "(III)I"⟩
abbrev cX5_wantsAs : ByteArray := prog_1_method_49_code
def yX5_wantsAs : MethodName := ⟨RX5, "wantsAs", "(IIIZ)I"⟩
def RX6 : String := "ThreeOfThemModel"
def TX6 : u_T := fun k => match k with
  | 0 => ("ThreeOfThemModel", "thrown", "I", false)
  | 1 => ("ThreeOfThemModel", "texts", "[I", true)
  | 2 => ("ThreeOfThemModel", "textSize", "[I", true)
  | 3 => ("ThreeOfThemModel", "textCount", "I", false)
  | 4 => ("ThreeOfThemModel", "rule", "I", false)
  | 5 => ("ThreeOfThemModel", "tape", "[I", true)
  | 6 => ("ThreeOfThemModel", "taped", "I", false)
  | 7 => ("ThreeOfThemModel", "kinds", "[I", true)
  | 8 => ("ThreeOfThemModel", "numbers", "[I", true)
  | 9 => ("ThreeOfThemModel", "likeRow", "[I", true)
  | 10 => ("ThreeOfThemModel", "swornWith", "[I", true)
  | 11 => ("ThreeOfThemModel", "inmates", "I", false)
  | 12 => ("ThreeOfThemModel", "house", "I", false)
  | 13 => ("ThreeOfThemModel", "rent", "I", false)
  | 14 => ("ThreeOfThemModel", "needed", "I", false)
  | 15 => ("ThreeOfThemModel", "day", "I", false)
  | 16 => ("ThreeOfThemModel", "ofLike", "I", false)
  | 17 => ("ThreeOfThemModel", "ofMany", "I", false)
  | 18 => ("ThreeOfThemModel", "ofShare", "I", false)
  | 19 => ("ThreeOfThemModel", "ofDays", "I", false)
  | 20 => ("ThreeOfThemModel", "ofOne", "I", false)
  | 21 => ("ThreeOfThemModel", "ofOther", "I", false)
  | 22 => ("ThreeOfThemModel", "from", "I", false)
  | 23 => ("ThreeOfThemModel", "size", "I", false)
  | 24 => ("ThreeOfThemModel", "here", "I", false)
  | 25 => ("ThreeOfThemModel", "token", "I", false)
  | 26 => ("ThreeOfThemModel", "tokenAt", "I", false)
  | 27 => ("ThreeOfThemModel", "tokenWorth", "J", false)
  | 28 => ("ThreeOfThemModel", "open", "I", false)
  | 29 => ("ThreeOfThemModel", "bad", "Z", false)
  | 30 => ("ThreeOfThemModel", "fault", "I", false)
  | 31 => ("ThreeOfThemModel", "seen", "I", false)
  | 32 => ("ThreeOfThemModel", "gains", "[I", true)
  | 33 => ("ThreeOfThemModel", "oathCost", "[I", true)
  | 34 => ("ThreeOfThemModel", "joining", "[I", true)
  | 35 => ("ThreeOfThemModel", "firstBand", "I", false)
  | 36 => ("ThreeOfThemModel", "firstOther", "I", false)
  | 37 => ("ThreeOfThemModel", "bandsMany", "I", false)
  | 38 => ("ThreeOfThemModel", "went", "[I", true)
  | 39 => ("ThreeOfThemModel", "ends", "[I", true)
  | 40 => ("ThreeOfThemModel", "goods", "[I", true)
  | 41 => ("ThreeOfThemModel", "firstGoes", "[I", true)
  | 42 => ("ThreeOfThemModel", "oathsMany", "I", false)
  | 43 => ("ThreeOfThemModel", "oathFirst", "I", false)
  | 44 => ("ThreeOfThemModel", "oathSecond", "I", false)
  | 45 => ("ThreeOfThemModel", "likeKept", "[I", true)
  | 46 => ("ThreeOfThemModel", "swornKept", "[I", true)
  | 47 => ("ThreeOfThemModel", "numbersKept", "[I", true)
  | 48 => ("ThreeOfThemModel", "inmatesKept", "I", false)
  | 49 => ("ThreeOfThemModel", "houseKept", "I", false)
  | 50 => ("ThreeOfThemModel", "rentKept", "I", false)
  | 51 => ("ThreeOfThemModel", "neededKept", "I", false)
  | 52 => ("ThreeOfThemModel", "dayKept", "I", false)
  | 53 => ("ThreeOfThemModel", "ruleKept", "I", false)
  | 54 => ("ThreeOfThemModel", "isThere", "[Z", true)
  | 55 => ("ThreeOfThemModel", "sorts", "[I", true)
  | 56 => ("ThreeOfThemModel", "sheetSize", "[I", true)
  | _ => ("ThreeOfThemModel", "items", "[I", true)
def tyX6 : Nat → FieldType := fun k => match k with
  | 0 => .int
  | 1 => .array .int
  | 2 => .array .int
  | 3 => .int
  | 4 => .int
  | 5 => .array .int
  | 6 => .int
  | 7 => .array .int
  | 8 => .array .int
  | 9 => .array .int
  | 10 => .array .int
  | 11 => .int
  | 12 => .int
  | 13 => .int
  | 14 => .int
  | 15 => .int
  | 16 => .int
  | 17 => .int
  | 18 => .int
  | 19 => .int
  | 20 => .int
  | 21 => .int
  | 22 => .int
  | 23 => .int
  | 24 => .int
  | 25 => .int
  | 26 => .int
  | 27 => .long
  | 28 => .int
  | 29 => .boolean
  | 30 => .int
  | 31 => .int
  | 32 => .array .int
  | 33 => .array .int
  | 34 => .array .int
  | 35 => .int
  | 36 => .int
  | 37 => .int
  | 38 => .array .int
  | 39 => .array .int
  | 40 => .array .int
  | 41 => .array .int
  | 42 => .int
  | 43 => .int
  | 44 => .int
  | 45 => .array .int
  | 46 => .array .int
  | 47 => .array .int
  | 48 => .int
  | 49 => .int
  | 50 => .int
  | 51 => .int
  | 52 => .int
  | 53 => .int
  | 54 => .array .boolean
  | 55 => .array .int
  | 56 => .array .int
  | _ => .array .int
abbrev wsX60 : List Cond := u_ws RX6 TX6 58
theorem nmX6 : ∀ a, a < 58 → ∀ b, b < 58 → a ≠ b → (TX6 a).2.1 ≠ (TX6 b).2.1 := by decide +kernel
theorem tyX6_ok : ∀ k, k < 58 → parseFieldDescriptor (TX6 k).2.2.1 = some (tyX6 k) := by decide +kernel
abbrev cX6_in : ByteArray := prog_8_method_2_code
def yX6_in : MethodName := ⟨RX6, "in", "(JJJ)Z"⟩
abbrev cX6_within : ByteArray := prog_8_method_3_code
def yX6_within : MethodName := ⟨RX6, "within", "(III)I"⟩
abbrev cX6_bitsOf : ByteArray := prog_8_method_4_code
def yX6_bitsOf : MethodName := ⟨RX6, "bitsOf", "(I)I"⟩
abbrev cX6_init : ByteArray := prog_8_method_5_code
def yX6_init : MethodName := ⟨RX6, "<init>", "()V"⟩
abbrev cX6_spell : ByteArray := prog_8_method_6_code
def yX6_spell : MethodName := ⟨RX6, "spell", "(IIIIIIIII)V"⟩
abbrev cX6_isOne : ByteArray := prog_8_method_7_code
def yX6_isOne : MethodName := ⟨RX6, "isOne", "(I)Z"⟩
abbrev cX6_isIn : ByteArray := prog_8_method_8_code
def yX6_isIn : MethodName := ⟨RX6, "isIn", "(I)Z"⟩
abbrev cX6_inmate : ByteArray := prog_8_method_9_code
def yX6_inmate : MethodName := ⟨RX6, "inmate", "(II)I"⟩
abbrev cX6_like : ByteArray := prog_8_method_10_code
def yX6_like : MethodName := ⟨RX6, "like", "(III)I"⟩
abbrev cX6_areSworn : ByteArray := prog_8_method_11_code
def yX6_areSworn : MethodName := ⟨RX6, "areSworn", "(II)Z"⟩
abbrev cX6_swears : ByteArray := prog_8_method_12_code
def yX6_swears : MethodName := ⟨RX6, "swears", "(III)V"⟩
abbrev cX6_swear : ByteArray := prog_8_method_13_code
def yX6_swear : MethodName := ⟨RX6, "swear", "(III)I"⟩
abbrev cX6_set : ByteArray := prog_8_method_14_code
def yX6_set : MethodName := ⟨RX6, "set", "(III)I"⟩
abbrev cX6_brings : ByteArray := prog_8_method_15_code
def yX6_brings : MethodName := ⟨RX6, "brings", "(II)I"⟩
abbrev cX6_wants : ByteArray := prog_8_method_16_code
def yX6_wants : MethodName := ⟨RX6, "wants", "(IIZ)I"⟩
abbrev cX6_feed : ByteArray := prog_8_method_17_code
def yX6_feed : MethodName := ⟨RX6, "feed", "(I)I"⟩
abbrev cX6_byteAt : ByteArray := prog_8_method_18_code
def yX6_byteAt : MethodName := ⟨RX6, "byteAt", "(I)I"⟩
abbrev cX6_next : ByteArray := prog_8_method_19_code
def yX6_next : MethodName := ⟨RX6, "next", "()V"⟩
abbrev cX6_fail : ByteArray := prog_8_method_20_code
def yX6_fail : MethodName := ⟨RX6, "fail", "()V"⟩
abbrev cX6_isLetter : ByteArray := prog_8_method_21_code
def yX6_isLetter : MethodName := ⟨RX6, "isLetter", "(II)Z"⟩
abbrev cX6_isWord : ByteArray := prog_8_method_22_code
def yX6_isWord : MethodName := ⟨RX6, "isWord", "(IIIIIIII)Z"⟩
abbrev cX6_isSign : ByteArray := prog_8_method_23_code
def yX6_isSign : MethodName := ⟨RX6, "isSign", "(I)Z"⟩
abbrev cX6_opens : ByteArray := prog_8_method_24_code
def yX6_opens : MethodName := ⟨RX6, "opens", "()Z"⟩
abbrev cX6_name : ByteArray := prog_8_method_25_code
def yX6_name : MethodName := ⟨RX6, "name", "()I"⟩
abbrev cX6_atom5 : ByteArray := prog_8_method_26_code
def yX6_atom5 : MethodName := ⟨RX6, "atom5", "()I"⟩
abbrev cX6_term5 : ByteArray := prog_8_method_27_code
def yX6_term5 : MethodName := ⟨RX6, "term5", "()I"⟩
abbrev cX6_added5 : ByteArray := prog_8_method_28_code
def yX6_added5 : MethodName := ⟨RX6, "added5", "()I"⟩
abbrev cX6_not5 : ByteArray := prog_8_method_29_code
def yX6_not5 : MethodName := ⟨RX6, "not5", "()I"⟩
abbrev cX6_both5 : ByteArray := prog_8_method_30_code
def yX6_both5 : MethodName := ⟨RX6, "both5", "()I"⟩
abbrev cX6_either5 : ByteArray := prog_8_method_31_code
def yX6_either5 : MethodName := ⟨RX6, "either5", "()I"⟩
abbrev cX6_atom4 : ByteArray := prog_8_method_32_code
def yX6_atom4 : MethodName := ⟨RX6, "atom4", "()I"⟩
abbrev cX6_term4 : ByteArray := prog_8_method_33_code
def yX6_term4 : MethodName := ⟨RX6, "term4", "()I"⟩
abbrev cX6_added4 : ByteArray := prog_8_method_34_code
def yX6_added4 : MethodName := ⟨RX6, "added4", "()I"⟩
abbrev cX6_not4 : ByteArray := prog_8_method_35_code
def yX6_not4 : MethodName := ⟨RX6, "not4", "()I"⟩
abbrev cX6_both4 : ByteArray := prog_8_method_36_code
def yX6_both4 : MethodName := ⟨RX6, "both4", "()I"⟩
abbrev cX6_either4 : ByteArray := prog_8_method_37_code
def yX6_either4 : MethodName := ⟨RX6, "either4", "()I"⟩
abbrev cX6_atom3 : ByteArray := prog_8_method_38_code
def yX6_atom3 : MethodName := ⟨RX6, "atom3", "()I"⟩
abbrev cX6_term3 : ByteArray := prog_8_method_39_code
def yX6_term3 : MethodName := ⟨RX6, "term3", "()I"⟩
abbrev cX6_added3 : ByteArray := prog_8_method_40_code
def yX6_added3 : MethodName := ⟨RX6, "added3", "()I"⟩
abbrev cX6_not3 : ByteArray := prog_8_method_41_code
def yX6_not3 : MethodName := ⟨RX6, "not3", "()I"⟩
abbrev cX6_both3 : ByteArray := prog_8_method_42_code
def yX6_both3 : MethodName := ⟨RX6, "both3", "()I"⟩
abbrev cX6_either3 : ByteArray := prog_8_method_43_code
def yX6_either3 : MethodName := ⟨RX6, "either3", "()I"⟩
abbrev cX6_atom2 : ByteArray := prog_8_method_44_code
def yX6_atom2 : MethodName := ⟨RX6, "atom2", "()I"⟩
abbrev cX6_term2 : ByteArray := prog_8_method_45_code
def yX6_term2 : MethodName := ⟨RX6, "term2", "()I"⟩
abbrev cX6_added2 : ByteArray := prog_8_method_46_code
def yX6_added2 : MethodName := ⟨RX6, "added2", "()I"⟩
abbrev cX6_not2 : ByteArray := prog_8_method_47_code
def yX6_not2 : MethodName := ⟨RX6, "not2", "()I"⟩
abbrev cX6_both2 : ByteArray := prog_8_method_48_code
def yX6_both2 : MethodName := ⟨RX6, "both2", "()I"⟩
abbrev cX6_either2 : ByteArray := prog_8_method_49_code
def yX6_either2 : MethodName := ⟨RX6, "either2", "()I"⟩
abbrev cX6_atom1 : ByteArray := prog_8_method_50_code
def yX6_atom1 : MethodName := ⟨RX6, "atom1", "()I"⟩
abbrev cX6_term1 : ByteArray := prog_8_method_51_code
def yX6_term1 : MethodName := ⟨RX6, "term1", "()I"⟩
abbrev cX6_added1 : ByteArray := prog_8_method_52_code
def yX6_added1 : MethodName := ⟨RX6, "added1", "()I"⟩
abbrev cX6_not1 : ByteArray := prog_8_method_53_code
def yX6_not1 : MethodName := ⟨RX6, "not1", "()I"⟩
abbrev cX6_both1 : ByteArray := prog_8_method_54_code
def yX6_both1 : MethodName := ⟨RX6, "both1", "()I"⟩
abbrev cX6_either1 : ByteArray := prog_8_method_55_code
def yX6_either1 : MethodName := ⟨RX6, "either1", "()I"⟩
abbrev cX6_atom0 : ByteArray := prog_8_method_56_code
def yX6_atom0 : MethodName := ⟨RX6, "atom0", "()I"⟩
abbrev cX6_term0 : ByteArray := prog_8_method_57_code
def yX6_term0 : MethodName := ⟨RX6, "term0", "()I"⟩
abbrev cX6_added0 : ByteArray := prog_8_method_58_code
def yX6_added0 : MethodName := ⟨RX6, "added0", "()I"⟩
abbrev cX6_not0 : ByteArray := prog_8_method_59_code
def yX6_not0 : MethodName := ⟨RX6, "not0", "()I"⟩
abbrev cX6_both0 : ByteArray := prog_8_method_60_code
def yX6_both0 : MethodName := ⟨RX6, "both0", "()I"⟩
abbrev cX6_either0 : ByteArray := prog_8_method_61_code
def yX6_either0 : MethodName := ⟨RX6, "either0", "()I"⟩
abbrev cX6_part : ByteArray := prog_8_method_62_code
def yX6_part : MethodName := ⟨RX6, "part", "(Z)I"⟩
abbrev cX6_read : ByteArray := prog_8_method_63_code
def yX6_read : MethodName := ⟨RX6, "read", "(II)I"⟩
abbrev cX6_text : ByteArray := prog_8_method_64_code
def yX6_text : MethodName := ⟨RX6, "text", "()I"⟩
abbrev cX6_force : ByteArray := prog_8_method_65_code
def yX6_force : MethodName := ⟨RX6, "force", "(I)I"⟩
abbrev cX6_says : ByteArray := prog_8_method_66_code
def yX6_says : MethodName := ⟨RX6, "says", "(IIII)I"⟩
abbrev cX6_goodOf : ByteArray := prog_8_method_67_code
def yX6_goodOf : MethodName := ⟨RX6, "goodOf", "(II)I"⟩
abbrev cX6_told : ByteArray := prog_8_method_68_code
def yX6_told : MethodName := ⟨RX6, "told", "(II)I"⟩
abbrev cX6_looks : ByteArray := prog_8_method_69_code
def yX6_looks : MethodName := ⟨RX6, "looks", "(I)V"⟩
abbrev cX6_wouldJoin : ByteArray := prog_8_method_70_code
def yX6_wouldJoin : MethodName := ⟨RX6, "wouldJoin", "(II)Z"⟩
abbrev cX6_isBand : ByteArray := prog_8_method_71_code
def yX6_isBand : MethodName := ⟨RX6, "isBand", "(III)Z"⟩
abbrev cX6_allWould : ByteArray := prog_8_method_72_code
def yX6_allWould : MethodName := ⟨RX6, "allWould", "(II)Z"⟩
abbrev cX6_goesThrough : ByteArray := prog_8_method_73_code
def yX6_goesThrough : MethodName := ⟨RX6, "goesThrough", "()V"⟩
abbrev cX6_isSafe : ByteArray := prog_8_method_74_code
def yX6_isSafe : MethodName := ⟨RX6, "isSafe", "(I)Z"⟩
abbrev cX6_isRest : ByteArray := prog_8_method_75_code
def yX6_isRest : MethodName := ⟨RX6, "isRest", "()Z"⟩
abbrev cX6_would : ByteArray := prog_8_method_76_code
def yX6_would : MethodName := ⟨RX6, "would", "(II)I"⟩
abbrev cX6_now : ByteArray := prog_8_method_77_code
def yX6_now : MethodName := ⟨RX6, "now", "(I)I"⟩
abbrev cX6_dayMore : ByteArray := prog_8_method_78_code
def yX6_dayMore : MethodName := ⟨RX6, "dayMore", "()V"⟩
abbrev cX6_turnOut : ByteArray := prog_8_method_79_code
def yX6_turnOut : MethodName := ⟨RX6, "turnOut", "(II)I"⟩
abbrev cX6_goOn : ByteArray := prog_8_method_80_code
def yX6_goOn : MethodName := ⟨RX6, "goOn", "(I)I"⟩
abbrev cX6_foresees : ByteArray := prog_8_method_81_code
def yX6_foresees : MethodName := ⟨RX6, "foresees", "(I)V"⟩
abbrev cX6_endOf : ByteArray := prog_8_method_82_code
def yX6_endOf : MethodName := ⟨RX6, "endOf", "(I)V"⟩
abbrev cX6_allJoin : ByteArray := prog_8_method_83_code
def yX6_allJoin : MethodName := ⟨RX6, "allJoin", "(II)Z"⟩
abbrev cX6_foreseen : ByteArray := prog_8_method_84_code
def yX6_foreseen : MethodName := ⟨RX6, "foreseen", "(IIII)Z"⟩
abbrev cX6_end : ByteArray := prog_8_method_85_code
def yX6_end : MethodName := ⟨RX6, "end", "(II)I"⟩
abbrev cX6_safe : ByteArray := prog_8_method_86_code
def yX6_safe : MethodName := ⟨RX6, "safe", "()I"⟩
abbrev cX6_sworn : ByteArray := prog_8_method_87_code
def yX6_sworn : MethodName := ⟨RX6, "sworn", "(I)I"⟩
abbrev cX6_canSwear : ByteArray := prog_8_method_88_code
def yX6_canSwear : MethodName := ⟨RX6, "canSwear", "(I)Z"⟩
abbrev cX6_findsOaths : ByteArray := prog_8_method_89_code
def yX6_findsOaths : MethodName := ⟨RX6, "findsOaths", "()V"⟩
abbrev cX6_oaths : ByteArray := prog_8_method_90_code
def yX6_oaths : MethodName := ⟨RX6, "oaths", "(I)I"⟩
abbrev cX6_shield : ByteArray := prog_8_method_91_code
def yX6_shield : MethodName := ⟨RX6, "shield", "(II)I"⟩
abbrev cX6_holds : ByteArray := prog_8_method_92_code
def yX6_holds : MethodName := ⟨RX6, "holds", "(I)I"⟩
abbrev cX6_who : ByteArray := prog_8_method_93_code
def yX6_who : MethodName := ⟨RX6, "who", "(II)I"⟩
abbrev cX6_draws : ByteArray := prog_8_method_94_code
def yX6_draws : MethodName := ⟨RX6, "draws", "(II)I"⟩
abbrev cX6_meets : ByteArray := prog_8_method_95_code
def yX6_meets : MethodName := ⟨RX6, "meets", "(I)V"⟩
abbrev cX6_drawn : ByteArray := prog_8_method_96_code
def yX6_drawn : MethodName := ⟨RX6, "drawn", "(II)I"⟩
abbrev cX6_chance : ByteArray := prog_8_method_97_code
def yX6_chance : MethodName := ⟨RX6, "chance", "(IIIII)J"⟩
abbrev cX6_image : ByteArray := prog_8_method_98_code
def yX6_image : MethodName := ⟨RX6, "image", "()I"⟩
abbrev cX6_back : ByteArray := prog_8_method_99_code
def yX6_back : MethodName := ⟨RX6, "back", "()I"⟩
abbrev cX6_count : ByteArray := prog_8_method_100_code
def yX6_count : MethodName := ⟨RX6, "count", "(I)I"⟩
abbrev cX6_isSheet : ByteArray := prog_8_method_101_code
def yX6_isSheet : MethodName := ⟨RX6, "isSheet", "(I)Z"⟩
abbrev cX6_sheet : ByteArray := prog_8_method_102_code
def yX6_sheet : MethodName := ⟨RX6, "sheet", "(III)I"⟩
abbrev cX6_cell : ByteArray := prog_8_method_103_code
def yX6_cell : MethodName := ⟨RX6, "cell", "(III)I"⟩
abbrev cX6_copy : ByteArray := prog_8_method_104_code
def yX6_copy : MethodName := ⟨RX6, "copy", "(IIIII)I"⟩
abbrev cX6_likes : ByteArray := prog_8_method_105_code
def yX6_likes : MethodName := ⟨RX6, "likes", "(IIII)I"⟩
abbrev cX6_over : ByteArray := prog_8_method_106_code
def yX6_over : MethodName := ⟨RX6, "over", "(I)I"⟩
abbrev cX6_taken : ByteArray := prog_8_method_107_code
def yX6_taken : MethodName := ⟨RX6, "taken", "(II)I"⟩
def RJx145de : String := "java/io/Serializable"
def TJx145de : u_T := fun k => match k with
  | _ => ("", "", "", false)
def tyJx145de : Nat → FieldType := fun k => match k with
  | _ => .int
def RJx9f9b0 : String := "java/lang/CharSequence"
def TJx9f9b0 : u_T := fun k => match k with
  | _ => ("", "", "", false)
def tyJx9f9b0 : Nat → FieldType := fun k => match k with
  | _ => .int
def RJx8e188 : String := "java/lang/Cloneable"
def TJx8e188 : u_T := fun k => match k with
  | _ => ("", "", "", false)
def tyJx8e188 : Nat → FieldType := fun k => match k with
  | _ => .int
def RJxb160c : String := "java/lang/Comparable"
def TJxb160c : u_T := fun k => match k with
  | _ => ("", "", "", false)
def tyJxb160c : Nat → FieldType := fun k => match k with
  | _ => .int
def RJ6 : String := "java/lang/Integer"
def TJ6 : u_T := fun k => match k with
  | _ => ("", "", "", false)
def tyJ6 : Nat → FieldType := fun k => match k with
  | _ => .int
abbrev cJ6_bitCount_0f7a4 : ByteArray := prog_10_method_49_code
def yJ6_bitCount_0f7a4 : MethodName := ⟨RJ6, "bitCount", "(I)I"⟩
def RJ9 : String := "java/lang/Math"
def TJ9 : u_T := fun k => match k with
  | _ => ("", "", "", false)
def tyJ9 : Nat → FieldType := fun k => match k with
  | _ => .int
abbrev cJ9_max_7cf53 : ByteArray := prog_11_method_65_code
def yJ9_max_7cf53 : MethodName := ⟨RJ9, "max", "(II)I"⟩
abbrev cJ9_min_7cf53 : ByteArray := prog_11_method_69_code
def yJ9_min_7cf53 : MethodName := ⟨RJ9, "min", "(II)I"⟩
def RJ0 : String := "java/lang/String"
def TJ0 : u_T := fun k => match k with
  | _ => ("", "", "", false)
def tyJ0 : Nat → FieldType := fun k => match k with
  | _ => .int
abbrev cJ0_length_8abf5 : ByteArray := prog_12_method_54_code
def yJ0_length_8abf5 : MethodName := ⟨RJ0, "length", "()I"⟩
abbrev cJ0_charAt_5068e : ByteArray := prog_12_method_56_code
def yJ0_charAt_5068e : MethodName := ⟨RJ0, "charAt", "(I)C"⟩
abbrev cJ0_coder_7d493 : ByteArray := prog_12_method_152_code
def yJ0_coder_7d493 : MethodName := ⟨RJ0, "coder", "()B"⟩
abbrev cJ0_isLatin1_aae02 : ByteArray := prog_12_method_154_code
def yJ0_isLatin1_aae02 : MethodName := ⟨RJ0, "isLatin1", "()Z"⟩
abbrev cJ0_checkIndex_df160 : ByteArray := prog_12_method_155_code
def yJ0_checkIndex_df160 : MethodName := ⟨RJ0, "checkIndex", "(II)V"⟩
def RJ1 : String := "java/lang/StringLatin1"
def TJ1 : u_T := fun k => match k with
  | _ => ("", "", "", false)
def tyJ1 : Nat → FieldType := fun k => match k with
  | _ => .int
abbrev cJ1_charAt_3b067 : ByteArray := prog_13_method_2_code
def yJ1_charAt_3b067 : MethodName := ⟨RJ1, "charAt", "([BI)C"⟩
def RJ2 : String := "java/lang/StringUTF16"
def TJ2 : u_T := fun k => match k with
  | _ => ("", "", "", false)
def tyJ2 : Nat → FieldType := fun k => match k with
  | _ => .int
abbrev cJ2_getChar_3b067 : ByteArray := prog_14_method_5_code
def yJ2_getChar_3b067 : MethodName := ⟨RJ2, "getChar", "([BI)C"⟩
abbrev cJ2_length_9d52b : ByteArray := prog_14_method_6_code
def yJ2_length_9d52b : MethodName := ⟨RJ2, "length", "([B)I"⟩
abbrev cJ2_charAt_3b067 : ByteArray := prog_14_method_83_code
def yJ2_charAt_3b067 : MethodName := ⟨RJ2, "charAt", "([BI)C"⟩
abbrev cJ2_checkIndex_2214a : ByteArray := prog_14_method_91_code
def yJ2_checkIndex_2214a : MethodName := ⟨RJ2, "checkIndex", "(I[B)V"⟩
def RJ10 : String := "java/lang/System"
def TJ10 : u_T := fun k => match k with
  | _ => ("", "", "", false)
def tyJ10 : Nat → FieldType := fun k => match k with
  | _ => .int
def RJxfd54e : String := "java/lang/constant/Constable"
def TJxfd54e : u_T := fun k => match k with
  | _ => ("", "", "", false)
def tyJxfd54e : Nat → FieldType := fun k => match k with
  | _ => .int
def RJx3cf43 : String := "java/lang/constant/ConstantDesc"
def TJx3cf43 : u_T := fun k => match k with
  | _ => ("", "", "", false)
def tyJx3cf43 : Nat → FieldType := fun k => match k with
  | _ => .int
def RJ7 : String := "java/util/Arrays"
def TJ7 : u_T := fun k => match k with
  | _ => ("", "", "", false)
def tyJ7 : Nat → FieldType := fun k => match k with
  | _ => .int
abbrev cJ7_fill_53178 : ByteArray := prog_16_method_103_code
def yJ7_fill_53178 : MethodName := ⟨RJ7, "fill", "([II)V"⟩
abbrev cJ7_copyOf_59c91 : ByteArray := prog_16_method_123_code
def yJ7_copyOf_59c91 : MethodName := ⟨RJ7, "copyOf", "([II)[I"⟩
def RJ3 : String := "jdk/internal/util/Preconditions"
def TJ3 : u_T := fun k => match k with
  | _ => ("", "", "", false)
def tyJ3 : Nat → FieldType := fun k => match k with
  | _ => .int
abbrev cJ3_checkIndex_8e157 : ByteArray := prog_17_method_11_code
def yJ3_checkIndex_8e157 : MethodName := ⟨RJ3, "checkIndex", "(IILjava/util/function/BiFunction;)I"⟩
def RL : String := "ThreeOfThemLaw"
abbrev cL_law : ByteArray := code
def yL_law : MethodName := ⟨RL, "law", "([I)Z"⟩
end
section
/-! THE PURE PICTURE: a heap is a list of cells, a reference is a place in it; 'px_O' says that the machine, standing at a place of a method with such a heap, comes to the method's end with the answer and the heap that a pure term 'res' tells (nothing is said where it tells none). -/
abbrev px_C : Type := (Nat × List Value) ⊕ ((Nat × Nat × (Nat → Int32)) ⊕ (Nat × Nat × (Nat → Option Nat)))
def px_v (r : Nat → Nat) (v : Value) : Value := match v with
  | .ref k => .ref (r k)
  | w => w
theorem px_v_int (r : Nat → Nat) (x : Int32) : px_v r (.int x) = .int x := rfl
theorem px_v_long (r : Nat → Nat) (x : Int64) : px_v r (.long x) = .long x := rfl
theorem px_v_null (r : Nat → Nat) : px_v r .null = .null := rfl
theorem px_v_ref (r : Nat → Nat) (k : Nat) : px_v r (.ref k) = .ref (r k) := rfl
theorem px_v_cat (r : Nat → Nat) (v : Value) : (px_v r v).category = v.category := by cases v <;> rfl
def px_c (r : Nat → Nat) (ty : Nat → ClassId) (c : px_C) : va_E := match c with
  | .inl (ci, fs) => .inr (ci, fs.map (px_v r))
  | .inr (.inl (t, n, f)) => .inl (ty t, n, .inl f)
  | .inr (.inr (t, n, f)) => .inl (ty t, n, .inr (.inr (.inr (.inr (fun j => (f j).map r)))))
def px_w (r : Nat → Nat) (ty : Nat → ClassId) (h : List px_C) : va_W := h.mapIdx (fun k c => (r k, px_c r ty c))
theorem px_w_len (r : Nat → Nat) (ty : Nat → ClassId) (h : List px_C) : (px_w r ty h).length = h.length := by simp [px_w]
theorem px_w_get {r : Nat → Nat} {ty : Nat → ClassId} {h : List px_C} {k : Nat} {c : px_C} (hc : h[k]? = some c) : (px_w r ty h)[k]? = some (r k, px_c r ty c) := by
  simp [px_w, List.getElem?_mapIdx, hc]
theorem px_w_at {r : Nat → Nat} {ty : Nat → ClassId} {h : List px_C} {k : Nat} {q : Nat × va_E} (hq : (px_w r ty h)[k]? = some q) : ∃ c, h[k]? = some c ∧ q = (r k, px_c r ty c) := by
  simp only [px_w, List.getElem?_mapIdx] at hq
  cases hc : h[k]? with
  | none => rw [hc] at hq; cases hq
  | some c => rw [hc] at hq; exact ⟨c, rfl, (Option.some.inj hq).symm⟩
theorem px_w_set (r : Nat → Nat) (ty : Nat → ClassId) (h : List px_C) (k : Nat) (c : px_C) : (px_w r ty h).set k (r k, px_c r ty c) = px_w r ty (h.set k c) := by
  apply List.ext_getElem?
  intro i
  simp only [px_w, List.getElem?_mapIdx, List.getElem?_set, List.length_mapIdx]
  by_cases hi : k = i
  · subst hi
    by_cases hl : k < h.length
    · simp [hl]
    · simp [hl]
  · simp [hi]
/-- no reference to place n -/
def px_fv (n : Nat) (v : Value) : Prop := ∀ k, v = .ref k → k ≠ n
def px_fr (n : Nat) (c : px_C) : Prop := match c with
  | .inl (_, fs) => ∀ v ∈ fs, px_fv n v
  | .inr (.inl _) => True
  | .inr (.inr (_, _, f)) => ∀ j k, f j = some k → k ≠ n
theorem px_v_up {r : Nat → Nat} {n q : Nat} {v : Value} (h : px_fv n v) : px_v (va_up r n q) v = px_v r v := by
  cases v with
  | ref k => simp only [px_v, va_up_ne _ _ (h k rfl)]
  | _ => rfl
theorem px_c_up {r : Nat → Nat} {ty : Nat → ClassId} {n q : Nat} {c : px_C} (h : px_fr n c) : px_c (va_up r n q) ty c = px_c r ty c := by
  match c, h with
  | .inl (ci, fs), h =>
    simp only [px_c]
    congr 2
    exact List.map_congr_left (fun v hv => px_v_up (h v hv))
  | .inr (.inl (t, n0, f)), h => rfl
  | .inr (.inr (t, n0, f)), h =>
    have e : (fun j => (f j).map (va_up r n q)) = fun j => (f j).map r := by
      funext j
      cases hf : f j with
      | none => rfl
      | some k => simp only [Option.map_some, va_up_ne _ _ (h j k hf)]
    simp only [px_c, e]
theorem px_w_push {r : Nat → Nat} {ty : Nat → ClassId} {h : List px_C} {q : Nat} {c : px_C} (hf : ∀ x ∈ h, px_fr h.length x) (hc : px_fr h.length c) : px_w r ty h ++ [(q, px_c r ty c)] = px_w (va_up r h.length q) ty (h ++ [c]) := by
  apply List.ext_getElem?
  intro i
  by_cases hi : i < h.length
  · rw [List.getElem?_append_left (by rw [px_w_len]; exact hi)]
    have h1 : (h ++ [c])[i]? = some h[i] := by rw [List.getElem?_append_left hi]; exact List.getElem?_eq_getElem hi
    rw [px_w_get (List.getElem?_eq_getElem hi), px_w_get h1, px_c_up (hf _ (List.getElem_mem hi)), va_up_ne _ _ (Nat.ne_of_lt hi)]
  · rw [List.getElem?_append_right (by rw [px_w_len]; omega), px_w_len]
    by_cases he : i = h.length
    · subst he
      have h1 : (h ++ [c])[h.length]? = some c := by rw [List.getElem?_append_right (Nat.le_refl _)]; simp
      rw [px_w_get h1, px_c_up hc]
      simp [va_up]
    · rw [List.getElem?_eq_none (by simp; omega), List.getElem?_eq_none (by rw [px_w_len]; simp; omega)]
def px_tys (ty : Nat → ClassId) : List (ClassId × FieldType) := [(ty 0, .int), (ty 1, .boolean), (ty 2, .object "ThreeOfThem$Text"), (ty 3, .object "ThreeOfThem$Sheet")]
abbrev vwCl : List vw_C := [(RX0, TX0, 10), (RX1, TX1, 16), (RX2, TX2, 8), (RX3, TX3, 3), (RX4, TX4, 3), (RX5, TX5, 8), (RX6, TX6, 58)]
/-- the cells that a method may change: the first n places, and what comes -/
def px_A (r : Nat → Nat) (n sz : Nat) : Nat → Prop := fun q => (∃ k, k < n ∧ q = r k) ∨ sz ≤ q
theorem px_A_eq (r : Nat → Nat) (ty : Nat → ClassId) (h : List px_C) (sz : Nat) : va_A (px_w r ty h) sz = px_A r h.length sz := by
  funext q
  apply propext
  constructor
  · rintro (⟨k, e, hk⟩ | hq)
    · obtain ⟨c, hc, he⟩ := px_w_at hk
      exact Or.inl ⟨k, (List.getElem?_eq_some_iff.mp hc).1, congrArg Prod.fst he⟩
    · exact Or.inr hq
  · rintro (⟨k, hk, e⟩ | hq)
    · exact Or.inl ⟨k, _, by rw [px_w_get (List.getElem?_eq_getElem hk), e]⟩
    · exact Or.inr hq
/-- what stands outside the picture: words of nest mates, text constants, statics -/
def px_isNest (w : Cond) : Bool := match w with
  | .methodLinkNest .. => true
  | _ => false
def px_Nt : List Cond := tables_1.filter px_isNest
def px_own (i : Nat) : String := if i = 0 then "ThreeOfThem" else "ThreeOfThem$Reader"
def px_idx (i : Nat) : Nat := [46, 82, 88, 90, 92, 94, 96, 98, 100, 102, 104, 106, 108].getD i 0
def px_tx (i : Nat) : String := ["company like ; oath 20 ; joins like < 9 ;", "like", "many", "share", "days", "one", "other", "or", "and", "not", "company", "oath", "joins"].getD i ""
def px_byt : List (List Int32) := [[99, 111, 109, 112, 97, 110, 121, 32, 108, 105, 107, 101, 32, 59, 32, 111, 97, 116, 104, 32, 50, 48, 32, 59, 32, 106, 111, 105, 110, 115, 32, 108, 105, 107, 101, 32, 60, 32, 57, 32, 59], [108, 105, 107, 101], [109, 97, 110, 121], [115, 104, 97, 114, 101], [100, 97, 121, 115], [111, 110, 101], [111, 116, 104, 101, 114], [111, 114], [97, 110, 100], [110, 111, 116], [99, 111, 109, 112, 97, 110, 121], [111, 97, 116, 104], [106, 111, 105, 110, 115]]
def px_len : List Nat := [41, 4, 4, 5, 4, 3, 5, 2, 3, 3, 7, 4, 5]
def px_und (j : Nat) : Int32 := [-1, 0, 0, 1, 2, 1].getD j 0
def px_E (r adV : Nat → Nat) (A : Nat → Prop) (U : State) (H : Heap) : Prop :=
  (∀ w ∈ px_Nt, va_Nw w U) ∧ vk_S 13 px_len px_byt (fun i => r (1000 + i)) (fun i => r (3000 + i)) A U H ∧ (∀ i : Nat, i < 13 → vk_R (px_own i) (px_idx i) (px_tx i) (r (1000 + i)) U) ∧
  va_Z "ThreeOfThem" "UNDER" "[I" (.ref (r 2000)) A U H ∧ va_T .int (r 2000) 6 (fun j => .int (px_und j)) A U H ∧ va_Z "java/lang/String" "COMPACT_STRINGS" "Z" (.int 1) A U H ∧
  (va_Z "jdk/internal/util/Preconditions" "SIOOBE_FORMATTER" "Ljava/util/function/BiFunction;" .null A U H ∨ va_Z "jdk/internal/util/Preconditions" "SIOOBE_FORMATTER" "Ljava/util/function/BiFunction;" (.ref (r 2001)) A U H) ∧ va_AO "ThreeOfThem$Text" U ∧ va_AO "ThreeOfThem$Sheet" U
theorem px_nest_warm {w : Cond} (hw : px_isNest w = true) {s U : State} (hW : s.WarmedH U.vm) (h : va_Nw w s) : va_Nw w U := by
  cases w <;> first | (simp [px_isNest] at hw; done) | exact va_Nw.warmM hW h
theorem px_nest_same {w : Cond} (hw : px_isNest w = true) {s U : State} (hv : s.vm = U.vm) (h : va_Nw w s) : va_Nw w U := by
  cases w <;> first | (simp [px_isNest] at hw; done) | exact va_Nw.same rfl hv h
theorem px_E.warm {r adV : Nat → Nat} {A : Nat → Prop} {s U : State} {H : Heap} (hW : s.WarmedH U.vm) (h : px_E r adV A s H) : px_E r adV A U H := by
  obtain ⟨h1, h2, h3, h4, h5, h6, h7, h8, h9⟩ := h
  have hv := hW.alike
  exact ⟨fun w hw => px_nest_warm (List.mem_filter.mp hw).2 hW (h1 w hw), h2.moved hv, fun i hi => (h3 i hi).warm hW, h4.moved hv, h5.moved hv, h6.moved hv, h7.imp (fun z => z.moved hv) (fun z => z.moved hv), h8.moved hv, h9.moved hv⟩
theorem px_E.same {r adV : Nat → Nat} {A : Nat → Prop} {s U : State} {H : Heap} (hv : s.vm = U.vm) (h : px_E r adV A s H) : px_E r adV A U H := by
  obtain ⟨h1, h2, h3, h4, h5, h6, h7, h8, h9⟩ := h
  have ha : s.vm.Alike U.vm := by rw [hv]; exact Vm.Alike.refl _
  exact ⟨fun w hw => px_nest_same (List.mem_filter.mp hw).2 hv (h1 w hw), h2.moved ha, fun i hi => (h3 i hi).same hv.symm, h4.moved ha, h5.moved ha, h6.moved ha, h7.imp (fun z => z.moved ha) (fun z => z.moved ha), h8.moved ha, h9.moved ha⟩
theorem px_E.kept {r adV : Nat → Nat} {A : Nat → Prop} {U : State} {H H1 : Heap} (h : px_E r adV A U H) (hq : ∀ a : Nat, a < H.size → ¬ A a → H1[a]? = H[a]?) : px_E r adV A U H1 := by
  obtain ⟨h1, h2, h3, h4, h5, h6, h7, h8, h9⟩ := h
  exact ⟨h1, h2.kept hq, h3, h4.kept hq, h5.kept hq, h6.kept hq, h7.imp (fun z => z.kept hq) (fun z => z.kept hq), h8, h9⟩
theorem px_E.narrow {r adV : Nat → Nat} {A B : Nat → Prop} {U : State} {H : Heap} (h : px_E r adV A U H) (hAB : ∀ q, B q → A q) : px_E r adV B U H := by
  obtain ⟨h1, h2, h3, h4, h5, h6, h7, h8, h9⟩ := h
  exact ⟨h1, h2.narrow hAB, h3, h4.narrow hAB, h5.narrow hAB, h6.narrow hAB, h7.imp (fun z => z.narrow hAB) (fun z => z.narrow hAB), h8, h9⟩
theorem px_E.places {r r' adV : Nat → Nat} {A : Nat → Prop} {U : State} {H : Heap} (h : px_E r adV A U H) (hr : ∀ k, 1000 ≤ k → r' k = r k) : px_E r' adV A U H := by
  have e1 : (fun i => r' (1000 + i)) = fun i => r (1000 + i) := funext fun i => hr _ (Nat.le_add_right _ _)
  obtain ⟨h1, h2, h3, h4, h5, h6, h7, h8, h9⟩ := h
  have e2 : (fun i => r' (3000 + i)) = fun i => r (3000 + i) := funext fun i => hr _ (by omega)
  refine ⟨h1, by rw [e1, e2]; exact h2, fun i hi => by rw [hr _ (Nat.le_add_right _ _)]; exact h3 i hi, ?_, ?_, h6, ?_, h8, h9⟩
  · rw [hr 2000 (by decide)]; exact h4
  · rw [hr 2000 (by decide)]; exact h5
  · rw [hr 2001 (by decide)]; exact h7
abbrev px_M : Type := MethodName × ByteArray × Nat × Option FieldType
def px_T : List Cond := lw_tbl.filter goodWord
theorem px_T_good {w : Cond} (h : w ∈ px_T) : w ∈ lw_tbl ∧ ((w.onTables && w.keeps) = true ∨ ∃ ty, w = .arrayClass ty) := ⟨(List.mem_filter.mp h).1, good_of_word (List.mem_filter.mp h).2⟩
def px_ws (M : px_M) : List Cond := Cond.code M.1 M.2.1 M.2.2.1 M.2.2.2 :: px_T
def px_rm (d mc ms : Nat) : Room := { frames := d, cells := mc, slots := ms, locals := 80 * d }
/-- the locals: those that are known -/
def px_L (r : Nat → Nat) (ls : Array Slot) (nL : Nat) (L : List (Option Value)) : Prop := ls.size = nL ∧ lv_wf ls ∧ ∀ (i : Nat) (v : Value), L[i]? = some (some v) → ls[i]? = some (.val (px_v r v))
def px_ll (r : Nat → Nat) (L : List (Option Value)) : List (Nat × Value) := (L.zipIdx).filterMap (fun q => q.1.map (fun v => (q.2, px_v r v)))
theorem px_ll_mem {r : Nat → Nat} {L : List (Option Value)} {i : Nat} {v : Value} (h : L[i]? = some (some v)) : (i, px_v r v) ∈ px_ll r L := by
  refine List.mem_filterMap.mpr ⟨(some v, i), ?_, rfl⟩
  rw [List.mem_iff_getElem?]
  exact ⟨i, by simp [h]⟩
theorem px_ll_of {r : Nat → Nat} {L : List (Option Value)} {q : Nat × Value} (h : q ∈ px_ll r L) : ∃ v, L[q.1]? = some (some v) ∧ q.2 = px_v r v := by
  obtain ⟨x, hx, he⟩ := List.mem_filterMap.mp h
  obtain ⟨o, i⟩ := x
  cases o with
  | none => cases he
  | some v =>
    cases he
    rw [List.mem_iff_getElem?] at hx
    obtain ⟨j, hj⟩ := hx
    simp only [List.getElem?_zipIdx] at hj
    cases hl : L[j]? with
    | none => rw [hl] at hj; cases hj
    | some o =>
      rw [hl] at hj
      simp at hj
      obtain ⟨rfl, rfl⟩ := hj
      exact ⟨v, hl, rfl⟩
theorem px_L_has {r : Nat → Nat} {ls : Array Slot} {nL : Nat} {L : List (Option Value)} (h : px_L r ls nL L) : lv_has ls nL (px_ll r L) := by
  refine ⟨h.1, h.2.1, fun q hq => ?_⟩
  obtain ⟨v, h1, h2⟩ := px_ll_of hq
  rw [h2]
  exact h.2.2 _ _ h1
/-- no long just ahead of place i -/
def px_nl (L : List (Option Value)) (i : Nat) : Bool := match i with
  | 0 => true
  | j + 1 => match L[j]? with
    | some (some v) => v.category == 1
    | _ => true
theorem px_nl_spec {L : List (Option Value)} {i j : Nat} {v : Value} (h : px_nl L i = true) (hj : L[j]? = some (some v)) (e : j + 1 = i) : v.category = 1 := by
  subst e
  simp only [px_nl, hj] at h
  simpa using h
theorem px_L_set1 {r : Nat → Nat} {ls' : Array Slot} {nL i : Nat} {L : List (Option Value)} {v : Value} (hn : px_nl L i = true)
    (h : lv_has ls' nL ((i, px_v r v) :: (px_ll r L).filter (fun q => !(q.1 == i) && !(q.1 + 1 == i && q.2.category == 2)))) : px_L r ls' nL (L.set i (some v)) := by
  refine ⟨h.1, h.2.1, fun j w hj => ?_⟩
  by_cases e : j = i
  · subst e
    rw [List.getElem?_set] at hj
    simp at hj
    obtain ⟨-, rfl⟩ := hj
    exact h.2.2 (j, px_v r v) List.mem_cons_self
  · rw [List.getElem?_set_ne (Ne.symm e)] at hj
    refine h.2.2 (j, px_v r w) (List.mem_cons_of_mem _ (List.mem_filter.mpr ⟨px_ll_mem hj, ?_⟩))
    by_cases e2 : j + 1 = i
    · have := px_nl_spec hn hj e2
      simp [e, px_v_cat, this]
    · simp [e, e2]
theorem px_L_set2 {r : Nat → Nat} {ls' : Array Slot} {nL i : Nat} {L : List (Option Value)} {v : Value} (hn : px_nl L i = true)
    (h : lv_has ls' nL ((i, px_v r v) :: (px_ll r L).filter (fun q => !(q.1 == i) && (!(q.1 == i + 1) && !(q.1 + 1 == i && q.2.category == 2))))) : px_L r ls' nL ((L.set i (some v)).set (i + 1) none) := by
  refine ⟨h.1, h.2.1, fun j w hj => ?_⟩
  by_cases e1 : j = i + 1
  · subst e1
    rw [List.getElem?_set] at hj
    simp at hj
  · rw [List.getElem?_set_ne (Ne.symm e1)] at hj
    by_cases e : j = i
    · subst e
      rw [List.getElem?_set] at hj
      simp at hj
      obtain ⟨-, rfl⟩ := hj
      exact h.2.2 (j, px_v r v) List.mem_cons_self
    · rw [List.getElem?_set_ne (Ne.symm e)] at hj
      refine h.2.2 (j, px_v r w) (List.mem_cons_of_mem _ (List.mem_filter.mpr ⟨px_ll_mem hj, ?_⟩))
      by_cases e2 : j + 1 = i
      · have := px_nl_spec hn hj e2
        simp [e, e1, px_v_cat, this]
      · simp [e, e1, e2]
/-- what a method leaves behind -/
def px_Q (D : va_G) (ty : Nat → ClassId) (r : Nat → Nat) (n : Nat) (rv : Option Value) (hF : List px_C) (sz : Nat) : Array Value → State → Outcome → State → Prop := fun _ st oc t =>
  (∃ r' : Nat → Nat, (∀ k, k < n ∨ hF.length ≤ k → r' k = r k) ∧ (n ≤ hF.length ∧ hF.length ≤ 1000) ∧ oc = .returned (rv.map (px_v r')) ∧ va_P D vwCl (px_w r' ty hF) t.heap ∧ va_K D vwCl (px_tys ty) t ∧ va_D (px_A r n sz) (px_w r' ty hF)) ∧ va_F (px_A r n sz) st t
/-- what it finds -/
def px_P (D : va_G) (ty : Nat → ClassId) (r adV : Nat → Nat) (as : List Value) (h : List px_C) (sz : Nat) : Array Value → State → Prop := va_Pc (as.map (px_v r)) (fun U =>
  (U.heap.size = sz ∧ h.length ≤ 1000) ∧ va_P D vwCl (px_w r ty h) U.heap ∧ va_K D vwCl (px_tys ty) U ∧ va_D (fun _ => True) (px_w r ty h) ∧ px_E r adV (px_A r h.length sz) U U.heap)
/-- A CONTRACT: depth, cells and slots that it may take, the method, arguments and heap; its answer and heap -/
def px_K (d mc ms : Nat) (M : px_M) (as : List Value) (h : List px_C) (rv : Option Value) (hF : List px_C) : Prop :=
  ∀ (l : Launch) (D : va_G) (ty : Nat → ClassId) (r adV : Nat → Nat) (sz : Nat), Met l M.1 (px_ws M) (px_rm d mc ms) (px_P D ty r adV as h sz) (px_Q D ty r h.length rv hF sz) mc ms (px_A r h.length sz)
theorem px_P_blind (D : va_G) (ty : Nat → ClassId) (r adV : Nat → Nat) (as : List Value) (h : List px_C) (sz : Nat) : FrameBlind (px_P D ty r adV as h sz) := by
  rintro a U g mk ⟨q0, q1, qP, qK, qD, qE⟩
  exact ⟨q0, q1, qP, va_K.moved (u := U) (U := U.calling g mk a) (Vm.Alike.refl U.vm) qK, qD, px_E.same (s := U) (U := U.calling g mk a) rfl qE⟩
def px_ctx (M : px_M) (p : Program) (s : State) (m : MethodId) (args : Array Value) (meth : Method) (c : Code) : Prop :=
  p.tables.exec = Jvm.exec ∧ c.code = M.2.1 ∧ meth.sig.returnType = M.2.2.2 ∧ c.maxLocals = M.2.2.1 ∧ s.vm.findClass M.1.cls = some m.cls ∧ (∀ w ∈ px_ws M, w.before args s = true) ∧ meth.locks = false ∧ meth.name = M.1.name
/-- the method's own: depth, cells, slots, how many places there were at its entry, the method -/
abbrev px_Z : Type := Nat × Nat × Nat × Nat × px_M
def px_wd (D : va_G) (ty : Nat → ClassId) (r0 adV r : Nat → Nat) (n0 : Nat) (s : State) (h : List px_C) (H : Heap) (locs : List Loc) : Prop :=
  ((∀ k, k < n0 ∨ h.length ≤ k → r k = r0 k) ∧ n0 ≤ h.length ∧ h.length ≤ 1000) ∧ va_K D vwCl (px_tys ty) s ∧ px_E r0 adV (px_A r0 n0 s.heap.size) s s.heap ∧ va_P D vwCl (px_w r ty h) H ∧ va_D (px_A r0 n0 s.heap.size) (px_w r ty h) ∧ va_S (px_A r0 n0 s.heap.size) s.heap H locs
def px_O {β : Type} (Z : px_Z) (g : β → Option Value × List px_C) (res : Option β) (pc : Nat) (L : List (Option Value)) (S : List Value) (h : List px_C) (kc ks : Nat) : Prop :=
  ∀ b, res = some b → ∀ (p : Program) (l : Launch) (e : Env) (s : State) (m : MethodId) (args : Array Value) (below : List Frame) (meth : Method) (c : Code) (D : va_G) (ty : Nat → ClassId) (r0 adV r : Nat → Nat) (H : Heap) (locs : List Loc) (ls : Array Slot),
    px_ctx Z.2.2.2.2 p s m args meth c → px_wd D ty r0 adV r Z.2.2.2.1 s h H locs → px_L r ls Z.2.2.2.2.2.2.1 L →
    W p l e (px_rm Z.1 Z.2.1 Z.2.2.1) s m args below meth c H locs kc ks (MQ below (px_Q D ty r0 Z.2.2.2.1 (g b).1 (g b).2 s.heap.size) args s Z.2.1 Z.2.2.1 (px_A r0 Z.2.2.2.1 s.heap.size)) (F0 m pc ls (S.map (px_v r)))
end
section
theorem px_in0 : ∀ w ∈ u_ws RX0 TX0 10, w ∈ px_T := by decide +kernel
theorem px_in1 : ∀ w ∈ u_ws RX1 TX1 16, w ∈ px_T := by decide +kernel
theorem px_in2 : ∀ w ∈ u_ws RX2 TX2 8, w ∈ px_T := by decide +kernel
theorem px_in3 : ∀ w ∈ u_ws RX3 TX3 3, w ∈ px_T := by decide +kernel
theorem px_in4 : ∀ w ∈ u_ws RX4 TX4 3, w ∈ px_T := by decide +kernel
theorem px_in5 : ∀ w ∈ u_ws RX5 TX5 8, w ∈ px_T := by decide +kernel
theorem px_in6 : ∀ w ∈ u_ws RX6 TX6 58, w ∈ px_T := by decide +kernel
end
section
section PXO
variable {β : Type} {Z : px_Z} {g : β → Option Value × List px_C} {res A B : Option β} {pc : Nat} {L : List (Option Value)} {S : List Value} {h : List px_C} {kc ks : Nat}
theorem o_none : px_O Z g (none : Option β) pc L S h kc ks := fun b hb => by cases hb
theorem o_ite {c : Prop} {i : Decidable c} (ht : c → px_O Z g A pc L S h kc ks) (hf : ¬ c → px_O Z g B pc L S h kc ks) : px_O Z g (@ite _ c i A B) pc L S h kc ks := by
  by_cases hc : c
  · rw [if_pos hc]; exact ht hc
  · rw [if_neg hc]; exact hf hc
theorem o_bindv {α : Type} {x : Option α} {F : α → Option β} (k : ∀ a, x = some a → px_O Z g (F a) pc L S h kc ks) : px_O Z g (x.bind F) pc L S h kc ks := by
  cases hx : x with
  | none => exact fun b hb => by cases hb
  | some a => exact k a hx
theorem o_iconst {n : Int} {v : Int32} (hd : decode Z.2.2.2.2.2.1 pc = .ok (.iconst n, 1)) (hv : Int32.ofInt n = v) (K : px_O Z g res (pc + 1) L (.int v :: S) h kc ks) : px_O Z g res pc L S h kc ks := by
  intro b hb p l e s m args below meth c D ty r0 adV r H locs ls C X Lc
  exact lv_iconst C.1 C.2.1 hd hv (K b hb _ _ _ _ _ _ _ _ _ _ _ _ _ _ _ _ _ C X Lc)
theorem o_bipush {n : Int} {v : Int32} (hd : decode Z.2.2.2.2.2.1 pc = .ok (.bipush n, 2)) (hv : (Int8.ofInt n).toInt32 = v) (K : px_O Z g res (pc + 2) L (.int v :: S) h kc ks) : px_O Z g res pc L S h kc ks := by
  intro b hb p l e s m args below meth c D ty r0 adV r H locs ls C X Lc
  exact lv_bipush C.1 C.2.1 hd hv (K b hb _ _ _ _ _ _ _ _ _ _ _ _ _ _ _ _ _ C X Lc)
theorem o_sipush {n : Int} {v : Int32} (hd : decode Z.2.2.2.2.2.1 pc = .ok (.sipush n, 3)) (hv : (Int16.ofInt n).toInt32 = v) (K : px_O Z g res (pc + 3) L (.int v :: S) h kc ks) : px_O Z g res pc L S h kc ks := by
  intro b hb p l e s m args below meth c D ty r0 adV r H locs ls C X Lc
  exact lv_sipush C.1 C.2.1 hd hv (K b hb _ _ _ _ _ _ _ _ _ _ _ _ _ _ _ _ _ C X Lc)
theorem o_lconst {n : Fin 2} {v : Int64} (hd : decode Z.2.2.2.2.2.1 pc = .ok (.lconst n, 1)) (hv : Int64.ofNat (n : Nat) = v) (K : px_O Z g res (pc + 1) L (.long v :: S) h kc ks) : px_O Z g res pc L S h kc ks := by
  intro b hb p l e s m args below meth c D ty r0 adV r H locs ls C X Lc
  exact lv_lconst C.1 C.2.1 hd hv (K b hb _ _ _ _ _ _ _ _ _ _ _ _ _ _ _ _ _ C X Lc)
theorem o_ldc {i : Nat} {v : Int32} (hd : decode Z.2.2.2.2.2.1 pc = .ok (.ldc i, 2)) (hv : Cond.constant Z.2.2.2.2.1.cls i v ∈ px_T) (K : px_O Z g res (pc + 2) L (.int v :: S) h kc ks) : px_O Z g res pc L S h kc ks := by
  intro b hb p l e s m args below meth c D ty r0 adV r H locs ls C X Lc
  exact lv_ldc C.1 C.2.1 C.2.2.2.2.1 (C.2.2.2.2.2.1 _ (List.mem_cons_of_mem _ hv)) hd (K b hb _ _ _ _ _ _ _ _ _ _ _ _ _ _ _ _ _ C X Lc)
theorem o_ldcw {i : Nat} {v : Int32} (hd : decode Z.2.2.2.2.2.1 pc = .ok (.ldc_w i, 3)) (hv : Cond.constant Z.2.2.2.2.1.cls i v ∈ px_T) (K : px_O Z g res (pc + 3) L (.int v :: S) h kc ks) : px_O Z g res pc L S h kc ks := by
  intro b hb p l e s m args below meth c D ty r0 adV r H locs ls C X Lc
  exact lv_ldcw C.1 C.2.1 C.2.2.2.2.1 (C.2.2.2.2.2.1 _ (List.mem_cons_of_mem _ hv)) hd (K b hb _ _ _ _ _ _ _ _ _ _ _ _ _ _ _ _ _ C X Lc)
theorem o_ldc2 {i : Nat} {v : Int64} (hd : decode Z.2.2.2.2.2.1 pc = .ok (.ldc2_w i, 3)) (hv : Cond.constantLong Z.2.2.2.2.1.cls i v ∈ px_T) (K : px_O Z g res (pc + 3) L (.long v :: S) h kc ks) : px_O Z g res pc L S h kc ks := by
  intro b hb p l e s m args below meth c D ty r0 adV r H locs ls C X Lc
  exact lv_ldc2 C.1 C.2.1 C.2.2.2.2.1 (C.2.2.2.2.2.1 _ (List.mem_cons_of_mem _ hv)) hd (K b hb _ _ _ _ _ _ _ _ _ _ _ _ _ _ _ _ _ C X Lc)
theorem o_null (hd : decode Z.2.2.2.2.2.1 pc = .ok (.aconst_null, 1)) (K : px_O Z g res (pc + 1) L (.null :: S) h kc ks) : px_O Z g res pc L S h kc ks := by
  intro b hb p l e s m args below meth c D ty r0 adV r H locs ls C X Lc
  exact lv_null C.1 C.2.1 hd (K b hb _ _ _ _ _ _ _ _ _ _ _ _ _ _ _ _ _ C X Lc)
theorem o_iload_n {k : Fin 4} {x : Int32} (hd : decode Z.2.2.2.2.2.1 pc = .ok (.iload_n k, 1)) (hl : L[(k : Nat)]? = some (some (.int x))) (K : px_O Z g res (pc + 1) L (.int x :: S) h kc ks) : px_O Z g res pc L S h kc ks := by
  intro b hb p l e s m args below meth c D ty r0 adV r H locs ls C X Lc
  exact lv_iload_n C.1 C.2.1 hd rfl (Lc.2.2 _ _ hl) (K b hb _ _ _ _ _ _ _ _ _ _ _ _ _ _ _ _ _ C X Lc)
theorem o_iload {k : Nat} {x : Int32} (hd : decode Z.2.2.2.2.2.1 pc = .ok (.iload k, 2)) (hl : L[k]? = some (some (.int x))) (K : px_O Z g res (pc + 2) L (.int x :: S) h kc ks) : px_O Z g res pc L S h kc ks := by
  intro b hb p l e s m args below meth c D ty r0 adV r H locs ls C X Lc
  exact lv_iload C.1 C.2.1 hd (Lc.2.2 _ _ hl) (K b hb _ _ _ _ _ _ _ _ _ _ _ _ _ _ _ _ _ C X Lc)
theorem o_lload_n {k : Fin 4} {x : Int64} (hd : decode Z.2.2.2.2.2.1 pc = .ok (.lload_n k, 1)) (hl : L[(k : Nat)]? = some (some (.long x))) (K : px_O Z g res (pc + 1) L (.long x :: S) h kc ks) : px_O Z g res pc L S h kc ks := by
  intro b hb p l e s m args below meth c D ty r0 adV r H locs ls C X Lc
  exact lv_lload_n C.1 C.2.1 hd rfl (Lc.2.2 _ _ hl) (K b hb _ _ _ _ _ _ _ _ _ _ _ _ _ _ _ _ _ C X Lc)
theorem o_lload {k : Nat} {x : Int64} (hd : decode Z.2.2.2.2.2.1 pc = .ok (.lload k, 2)) (hl : L[k]? = some (some (.long x))) (K : px_O Z g res (pc + 2) L (.long x :: S) h kc ks) : px_O Z g res pc L S h kc ks := by
  intro b hb p l e s m args below meth c D ty r0 adV r H locs ls C X Lc
  exact lv_lload C.1 C.2.1 hd (Lc.2.2 _ _ hl) (K b hb _ _ _ _ _ _ _ _ _ _ _ _ _ _ _ _ _ C X Lc)
theorem o_aload_n {k : Fin 4} {x : Nat} (hd : decode Z.2.2.2.2.2.1 pc = .ok (.aload_n k, 1)) (hl : L[(k : Nat)]? = some (some (.ref x))) (K : px_O Z g res (pc + 1) L (.ref x :: S) h kc ks) : px_O Z g res pc L S h kc ks := by
  intro b hb p l e s m args below meth c D ty r0 adV r H locs ls C X Lc
  exact lv_aload_n C.1 C.2.1 hd rfl (Lc.2.2 _ _ hl) (K b hb _ _ _ _ _ _ _ _ _ _ _ _ _ _ _ _ _ C X Lc)
theorem o_aload {k : Nat} {x : Nat} (hd : decode Z.2.2.2.2.2.1 pc = .ok (.aload k, 2)) (hl : L[k]? = some (some (.ref x))) (K : px_O Z g res (pc + 2) L (.ref x :: S) h kc ks) : px_O Z g res pc L S h kc ks := by
  intro b hb p l e s m args below meth c D ty r0 adV r H locs ls C X Lc
  exact lv_aload C.1 C.2.1 hd (Lc.2.2 _ _ hl) (K b hb _ _ _ _ _ _ _ _ _ _ _ _ _ _ _ _ _ C X Lc)
theorem o_aload_nN {k : Fin 4} (hd : decode Z.2.2.2.2.2.1 pc = .ok (.aload_n k, 1)) (hl : L[(k : Nat)]? = some (some .null)) (K : px_O Z g res (pc + 1) L (.null :: S) h kc ks) : px_O Z g res pc L S h kc ks := by
  intro b hb p l e s m args below meth c D ty r0 adV r H locs ls C X Lc
  exact lv_aload_nN C.1 C.2.1 hd rfl (Lc.2.2 _ _ hl) (K b hb _ _ _ _ _ _ _ _ _ _ _ _ _ _ _ _ _ C X Lc)
theorem o_istore_n {k : Fin 4} {x : Int32} {L' : List (Option Value)} (hd : decode Z.2.2.2.2.2.1 pc = .ok (.istore_n k, 1)) (hn : (k : Nat) < Z.2.2.2.2.2.2.1) (hw : px_nl L k = true) (hL : L.set k (some (.int x)) = L') (K : px_O Z g res (pc + 1) L' S h kc ks) : px_O Z g res pc L (.int x :: S) h kc ks := by
  intro b hb p l e s m args below meth c D ty r0 adV r H locs ls C X Lc
  subst hL
  exact lv_istore_n C.1 C.2.1 hd rfl (px_L_has Lc) hn rfl (fun ls' h' => K b hb _ _ _ _ _ _ _ _ _ _ _ _ _ _ _ _ _ C X (px_L_set1 (v := .int x) hw h'))
theorem o_istore {k : Nat} {x : Int32} {L' : List (Option Value)} (hd : decode Z.2.2.2.2.2.1 pc = .ok (.istore k, 2)) (hn : k < Z.2.2.2.2.2.2.1) (hw : px_nl L k = true) (hL : L.set k (some (.int x)) = L') (K : px_O Z g res (pc + 2) L' S h kc ks) : px_O Z g res pc L (.int x :: S) h kc ks := by
  intro b hb p l e s m args below meth c D ty r0 adV r H locs ls C X Lc
  subst hL
  exact lv_istore C.1 C.2.1 hd (px_L_has Lc) hn rfl (fun ls' h' => K b hb _ _ _ _ _ _ _ _ _ _ _ _ _ _ _ _ _ C X (px_L_set1 (v := .int x) hw h'))
theorem o_astore_n {k : Fin 4} {x : Nat} {L' : List (Option Value)} (hd : decode Z.2.2.2.2.2.1 pc = .ok (.astore_n k, 1)) (hn : (k : Nat) < Z.2.2.2.2.2.2.1) (hw : px_nl L k = true) (hL : L.set k (some (.ref x)) = L') (K : px_O Z g res (pc + 1) L' S h kc ks) : px_O Z g res pc L (.ref x :: S) h kc ks := by
  intro b hb p l e s m args below meth c D ty r0 adV r H locs ls C X Lc
  subst hL
  exact lv_astore_n C.1 C.2.1 hd rfl (px_L_has Lc) hn rfl (fun ls' h' => K b hb _ _ _ _ _ _ _ _ _ _ _ _ _ _ _ _ _ C X (px_L_set1 (v := .ref x) hw h'))
theorem o_astore {k : Nat} {x : Nat} {L' : List (Option Value)} (hd : decode Z.2.2.2.2.2.1 pc = .ok (.astore k, 2)) (hn : k < Z.2.2.2.2.2.2.1) (hw : px_nl L k = true) (hL : L.set k (some (.ref x)) = L') (K : px_O Z g res (pc + 2) L' S h kc ks) : px_O Z g res pc L (.ref x :: S) h kc ks := by
  intro b hb p l e s m args below meth c D ty r0 adV r H locs ls C X Lc
  subst hL
  exact lv_astore C.1 C.2.1 hd (px_L_has Lc) hn rfl (fun ls' h' => K b hb _ _ _ _ _ _ _ _ _ _ _ _ _ _ _ _ _ C X (px_L_set1 (v := .ref x) hw h'))
theorem o_astore_nN {k : Fin 4} {L' : List (Option Value)} (hd : decode Z.2.2.2.2.2.1 pc = .ok (.astore_n k, 1)) (hn : (k : Nat) < Z.2.2.2.2.2.2.1) (hw : px_nl L k = true) (hL : L.set k (some .null) = L') (K : px_O Z g res (pc + 1) L' S h kc ks) : px_O Z g res pc L (.null :: S) h kc ks := by
  intro b hb p l e s m args below meth c D ty r0 adV r H locs ls C X Lc
  subst hL
  exact lv_astore_nN C.1 C.2.1 hd rfl (px_L_has Lc) hn rfl (fun ls' h' => K b hb _ _ _ _ _ _ _ _ _ _ _ _ _ _ _ _ _ C X (px_L_set1 (v := .null) hw h'))
theorem o_lstore_n {k : Fin 4} {x : Int64} {L' : List (Option Value)} (hd : decode Z.2.2.2.2.2.1 pc = .ok (.lstore_n k, 1)) (hn : (k : Nat) + 1 < Z.2.2.2.2.2.2.1) (hw : px_nl L k = true) (hL : (L.set k (some (.long x))).set (k + 1) none = L') (K : px_O Z g res (pc + 1) L' S h kc ks) : px_O Z g res pc L (.long x :: S) h kc ks := by
  intro b hb p l e s m args below meth c D ty r0 adV r H locs ls C X Lc
  subst hL
  exact lv_lstore_n C.1 C.2.1 hd rfl (px_L_has Lc) hn rfl (fun ls' h' => K b hb _ _ _ _ _ _ _ _ _ _ _ _ _ _ _ _ _ C X (px_L_set2 (v := .long x) hw h'))
theorem o_lstore {k : Nat} {x : Int64} {L' : List (Option Value)} (hd : decode Z.2.2.2.2.2.1 pc = .ok (.lstore k, 2)) (hn : k + 1 < Z.2.2.2.2.2.2.1) (hw : px_nl L k = true) (hL : (L.set k (some (.long x))).set (k + 1) none = L') (K : px_O Z g res (pc + 2) L' S h kc ks) : px_O Z g res pc L (.long x :: S) h kc ks := by
  intro b hb p l e s m args below meth c D ty r0 adV r H locs ls C X Lc
  subst hL
  exact lv_lstore C.1 C.2.1 hd (px_L_has Lc) hn rfl (fun ls' h' => K b hb _ _ _ _ _ _ _ _ _ _ _ _ _ _ _ _ _ C X (px_L_set2 (v := .long x) hw h'))
theorem o_iinc {k : Nat} {n : Int} {x v : Int32} {L' : List (Option Value)} (hd : decode Z.2.2.2.2.2.1 pc = .ok (.iinc k n, 3)) (hx : L[k]? = some (some (.int x))) (hv : x + Int32.ofInt n = v) (hn : k < Z.2.2.2.2.2.2.1) (hw : px_nl L k = true) (hL : L.set k (some (.int v)) = L') (K : px_O Z g res (pc + 3) L' S h kc ks) : px_O Z g res pc L S h kc ks := by
  intro b hb p l e s m args below meth c D ty r0 adV r H locs ls C X Lc
  subst hL
  have hh : lv_has ls Z.2.2.2.2.2.2.1 ((k, .int x) :: px_ll r L) := ⟨(px_L_has Lc).1, (px_L_has Lc).2.1, fun q hq => by
    rcases List.mem_cons.mp hq with e | e
    · rw [e]; exact Lc.2.2 _ _ hx
    · exact (px_L_has Lc).2.2 q e⟩
  exact lv_iinc (lv' := (k, .int v) :: (px_ll r L).filter (fun q => !(q.1 == k) && !(q.1 + 1 == k && q.2.category == 2))) C.1 C.2.1 hd hh (k := 0) rfl hv hn (by simp) (fun ls' h' => K b hb _ _ _ _ _ _ _ _ _ _ _ _ _ _ _ _ _ C X (px_L_set1 (v := .int v) hw h'))
theorem o_iadd {x y : Int32} (hd : decode Z.2.2.2.2.2.1 pc = .ok (.iadd, 1)) (K : px_O Z g res (pc + 1) L (.int (x + y) :: S) h kc ks) : px_O Z g res pc L (.int y :: .int x :: S) h kc ks := by
  intro b hb p l e s m args below meth c D ty r0 adV r H locs ls C X Lc
  exact lv_iadd C.1 C.2.1 hd (K b hb _ _ _ _ _ _ _ _ _ _ _ _ _ _ _ _ _ C X Lc)
theorem o_isub {x y : Int32} (hd : decode Z.2.2.2.2.2.1 pc = .ok (.isub, 1)) (K : px_O Z g res (pc + 1) L (.int (x - y) :: S) h kc ks) : px_O Z g res pc L (.int y :: .int x :: S) h kc ks := by
  intro b hb p l e s m args below meth c D ty r0 adV r H locs ls C X Lc
  exact lv_isub C.1 C.2.1 hd (K b hb _ _ _ _ _ _ _ _ _ _ _ _ _ _ _ _ _ C X Lc)
theorem o_imul {x y : Int32} (hd : decode Z.2.2.2.2.2.1 pc = .ok (.imul, 1)) (K : px_O Z g res (pc + 1) L (.int (x * y) :: S) h kc ks) : px_O Z g res pc L (.int y :: .int x :: S) h kc ks := by
  intro b hb p l e s m args below meth c D ty r0 adV r H locs ls C X Lc
  exact lv_imul C.1 C.2.1 hd (K b hb _ _ _ _ _ _ _ _ _ _ _ _ _ _ _ _ _ C X Lc)
theorem o_iand {x y : Int32} (hd : decode Z.2.2.2.2.2.1 pc = .ok (.iand, 1)) (K : px_O Z g res (pc + 1) L (.int (x &&& y) :: S) h kc ks) : px_O Z g res pc L (.int y :: .int x :: S) h kc ks := by
  intro b hb p l e s m args below meth c D ty r0 adV r H locs ls C X Lc
  exact lv_iand C.1 C.2.1 hd (K b hb _ _ _ _ _ _ _ _ _ _ _ _ _ _ _ _ _ C X Lc)
theorem o_ior {x y : Int32} (hd : decode Z.2.2.2.2.2.1 pc = .ok (.ior, 1)) (K : px_O Z g res (pc + 1) L (.int (x ||| y) :: S) h kc ks) : px_O Z g res pc L (.int y :: .int x :: S) h kc ks := by
  intro b hb p l e s m args below meth c D ty r0 adV r H locs ls C X Lc
  exact lv_ior C.1 C.2.1 hd (K b hb _ _ _ _ _ _ _ _ _ _ _ _ _ _ _ _ _ C X Lc)
theorem o_ixor {x y : Int32} (hd : decode Z.2.2.2.2.2.1 pc = .ok (.ixor, 1)) (K : px_O Z g res (pc + 1) L (.int (x ^^^ y) :: S) h kc ks) : px_O Z g res pc L (.int y :: .int x :: S) h kc ks := by
  intro b hb p l e s m args below meth c D ty r0 adV r H locs ls C X Lc
  exact lv_ixor C.1 C.2.1 hd (K b hb _ _ _ _ _ _ _ _ _ _ _ _ _ _ _ _ _ C X Lc)
theorem o_ishl {x y : Int32} (hd : decode Z.2.2.2.2.2.1 pc = .ok (.ishl, 1)) (K : px_O Z g res (pc + 1) L (.int (x <<< (y &&& 31)) :: S) h kc ks) : px_O Z g res pc L (.int y :: .int x :: S) h kc ks := by
  intro b hb p l e s m args below meth c D ty r0 adV r H locs ls C X Lc
  exact lv_ishl C.1 C.2.1 hd (K b hb _ _ _ _ _ _ _ _ _ _ _ _ _ _ _ _ _ C X Lc)
theorem o_ishr {x y : Int32} (hd : decode Z.2.2.2.2.2.1 pc = .ok (.ishr, 1)) (K : px_O Z g res (pc + 1) L (.int (x >>> (y &&& 31)) :: S) h kc ks) : px_O Z g res pc L (.int y :: .int x :: S) h kc ks := by
  intro b hb p l e s m args below meth c D ty r0 adV r H locs ls C X Lc
  exact lv_ishr C.1 C.2.1 hd (K b hb _ _ _ _ _ _ _ _ _ _ _ _ _ _ _ _ _ C X Lc)
theorem o_iushr {x y : Int32} (hd : decode Z.2.2.2.2.2.1 pc = .ok (.iushr, 1)) (K : px_O Z g res (pc + 1) L (.int ((x.toUInt32 >>> (y.toUInt32 &&& Int32.toUInt32 31)).toInt32) :: S) h kc ks) : px_O Z g res pc L (.int y :: .int x :: S) h kc ks := by
  intro b hb p l e s m args below meth c D ty r0 adV r H locs ls C X Lc
  exact lv_iushr C.1 C.2.1 hd rfl (K b hb _ _ _ _ _ _ _ _ _ _ _ _ _ _ _ _ _ C X Lc)
theorem o_ineg {x : Int32} (hd : decode Z.2.2.2.2.2.1 pc = .ok (.ineg, 1)) (K : px_O Z g res (pc + 1) L (.int (-x) :: S) h kc ks) : px_O Z g res pc L (.int x :: S) h kc ks := by
  intro b hb p l e s m args below meth c D ty r0 adV r H locs ls C X Lc
  exact lv_ineg C.1 C.2.1 hd (K b hb _ _ _ _ _ _ _ _ _ _ _ _ _ _ _ _ _ C X Lc)
theorem o_ladd {x y : Int64} (hd : decode Z.2.2.2.2.2.1 pc = .ok (.ladd, 1)) (K : px_O Z g res (pc + 1) L (.long (x + y) :: S) h kc ks) : px_O Z g res pc L (.long y :: .long x :: S) h kc ks := by
  intro b hb p l e s m args below meth c D ty r0 adV r H locs ls C X Lc
  exact lv_ladd C.1 C.2.1 hd (K b hb _ _ _ _ _ _ _ _ _ _ _ _ _ _ _ _ _ C X Lc)
theorem o_lsub {x y : Int64} (hd : decode Z.2.2.2.2.2.1 pc = .ok (.lsub, 1)) (K : px_O Z g res (pc + 1) L (.long (x - y) :: S) h kc ks) : px_O Z g res pc L (.long y :: .long x :: S) h kc ks := by
  intro b hb p l e s m args below meth c D ty r0 adV r H locs ls C X Lc
  exact lv_lsub C.1 C.2.1 hd (K b hb _ _ _ _ _ _ _ _ _ _ _ _ _ _ _ _ _ C X Lc)
theorem o_lmul {x y : Int64} (hd : decode Z.2.2.2.2.2.1 pc = .ok (.lmul, 1)) (K : px_O Z g res (pc + 1) L (.long (x * y) :: S) h kc ks) : px_O Z g res pc L (.long y :: .long x :: S) h kc ks := by
  intro b hb p l e s m args below meth c D ty r0 adV r H locs ls C X Lc
  exact lv_lmul C.1 C.2.1 hd (K b hb _ _ _ _ _ _ _ _ _ _ _ _ _ _ _ _ _ C X Lc)
theorem o_lcmp {x y : Int64} (hd : decode Z.2.2.2.2.2.1 pc = .ok (.lcmp, 1)) (K : px_O Z g res (pc + 1) L (.int (lg_cmp x y) :: S) h kc ks) : px_O Z g res pc L (.long y :: .long x :: S) h kc ks := by
  intro b hb p l e s m args below meth c D ty r0 adV r H locs ls C X Lc
  exact W.lcmp C.1 C.2.1 hd (K b hb _ _ _ _ _ _ _ _ _ _ _ _ _ _ _ _ _ C X Lc)
theorem o_i2l {x : Int32} (hd : decode Z.2.2.2.2.2.1 pc = .ok (.i2l, 1)) (K : px_O Z g res (pc + 1) L (.long x.toInt64 :: S) h kc ks) : px_O Z g res pc L (.int x :: S) h kc ks := by
  intro b hb p l e s m args below meth c D ty r0 adV r H locs ls C X Lc
  exact lv_i2l C.1 C.2.1 hd rfl (K b hb _ _ _ _ _ _ _ _ _ _ _ _ _ _ _ _ _ C X Lc)
theorem o_l2i {x : Int64} (hd : decode Z.2.2.2.2.2.1 pc = .ok (.l2i, 1)) (K : px_O Z g res (pc + 1) L (.int x.toInt32 :: S) h kc ks) : px_O Z g res pc L (.long x :: S) h kc ks := by
  intro b hb p l e s m args below meth c D ty r0 adV r H locs ls C X Lc
  exact lv_l2i C.1 C.2.1 hd rfl (K b hb _ _ _ _ _ _ _ _ _ _ _ _ _ _ _ _ _ C X Lc)
theorem o_i2b {x : Int32} (hd : decode Z.2.2.2.2.2.1 pc = .ok (.i2b, 1)) (K : px_O Z g res (pc + 1) L (.int x.toInt8.toInt32 :: S) h kc ks) : px_O Z g res pc L (.int x :: S) h kc ks := by
  intro b hb p l e s m args below meth c D ty r0 adV r H locs ls C X Lc
  exact lv_i2b C.1 C.2.1 hd rfl (K b hb _ _ _ _ _ _ _ _ _ _ _ _ _ _ _ _ _ C X Lc)
theorem o_i2s {x : Int32} (hd : decode Z.2.2.2.2.2.1 pc = .ok (.i2s, 1)) (K : px_O Z g res (pc + 1) L (.int x.toInt16.toInt32 :: S) h kc ks) : px_O Z g res pc L (.int x :: S) h kc ks := by
  intro b hb p l e s m args below meth c D ty r0 adV r H locs ls C X Lc
  exact lv_i2s C.1 C.2.1 hd rfl (K b hb _ _ _ _ _ _ _ _ _ _ _ _ _ _ _ _ _ C X Lc)
theorem o_idiv {x y : Int32} (hd : decode Z.2.2.2.2.2.1 pc = .ok (.idiv, 1)) (hy : ¬ y = 0) (K : px_O Z g res (pc + 1) L (.int (x / y) :: S) h kc ks) : px_O Z g res pc L (.int y :: .int x :: S) h kc ks := by
  intro b hb p l e s m args below meth c D ty r0 adV r H locs ls C X Lc
  exact lv_idiv C.1 C.2.1 hd hy (K b hb _ _ _ _ _ _ _ _ _ _ _ _ _ _ _ _ _ C X Lc)
theorem o_irem {x y : Int32} (hd : decode Z.2.2.2.2.2.1 pc = .ok (.irem, 1)) (hy : ¬ y = 0) (K : px_O Z g res (pc + 1) L (.int (x - x / y * y) :: S) h kc ks) : px_O Z g res pc L (.int y :: .int x :: S) h kc ks := by
  intro b hb p l e s m args below meth c D ty r0 adV r H locs ls C X Lc
  exact lv_irem C.1 C.2.1 hd hy (K b hb _ _ _ _ _ _ _ _ _ _ _ _ _ _ _ _ _ C X Lc)
theorem o_ldiv {x y : Int64} (hd : decode Z.2.2.2.2.2.1 pc = .ok (.ldiv, 1)) (hy : ¬ y = 0) (K : px_O Z g res (pc + 1) L (.long (x / y) :: S) h kc ks) : px_O Z g res pc L (.long y :: .long x :: S) h kc ks := by
  intro b hb p l e s m args below meth c D ty r0 adV r H locs ls C X Lc
  exact lv_ldiv C.1 C.2.1 hd hy (K b hb _ _ _ _ _ _ _ _ _ _ _ _ _ _ _ _ _ C X Lc)
theorem o_lrem {x y : Int64} (hd : decode Z.2.2.2.2.2.1 pc = .ok (.lrem, 1)) (hy : ¬ y = 0) (K : px_O Z g res (pc + 1) L (.long (x - x / y * y) :: S) h kc ks) : px_O Z g res pc L (.long y :: .long x :: S) h kc ks := by
  intro b hb p l e s m args below meth c D ty r0 adV r H locs ls C X Lc
  exact lv_lrem C.1 C.2.1 hd hy (K b hb _ _ _ _ _ _ _ _ _ _ _ _ _ _ _ _ _ C X Lc)
theorem o_dup {v : Value} (hd : decode Z.2.2.2.2.2.1 pc = .ok (.dup, 1)) (hv : v.category = 1) (K : px_O Z g res (pc + 1) L (v :: v :: S) h kc ks) : px_O Z g res pc L (v :: S) h kc ks := by
  intro b hb p l e s m args below meth c D ty r0 adV r H locs ls C X Lc
  exact lv_dup C.1 C.2.1 hd (by rw [px_v_cat]; exact hv) (K b hb _ _ _ _ _ _ _ _ _ _ _ _ _ _ _ _ _ C X Lc)
theorem o_pop {v : Value} (hd : decode Z.2.2.2.2.2.1 pc = .ok (.pop, 1)) (hv : v.category = 1) (K : px_O Z g res (pc + 1) L S h kc ks) : px_O Z g res pc L (v :: S) h kc ks := by
  intro b hb p l e s m args below meth c D ty r0 adV r H locs ls C X Lc
  exact lv_pop C.1 C.2.1 hd (by rw [px_v_cat]; exact hv) (K b hb _ _ _ _ _ _ _ _ _ _ _ _ _ _ _ _ _ C X Lc)
theorem o_dup2 {v u : Value} (hd : decode Z.2.2.2.2.2.1 pc = .ok (.dup2, 1)) (hv : v.category = 1) (hu : u.category = 1) (K : px_O Z g res (pc + 1) L (v :: u :: v :: u :: S) h kc ks) : px_O Z g res pc L (v :: u :: S) h kc ks := by
  intro b hb p l e s m args below meth c D ty r0 adV r H locs ls C X Lc
  exact lv_dup2_11 C.1 C.2.1 hd (by rw [px_v_cat]; exact hv) (by rw [px_v_cat]; exact hu) (K b hb _ _ _ _ _ _ _ _ _ _ _ _ _ _ _ _ _ C X Lc)
theorem o_goto {off : Int} {tgt : Nat} (hd : decode Z.2.2.2.2.2.1 pc = .ok (.goto off, 3)) (ht : (pc : Int) + off = (tgt : Int)) (K : px_O Z g res tgt L S h kc ks) : px_O Z g res pc L S h kc ks := by
  intro b hb p l e s m args below meth c D ty r0 adV r H locs ls C X Lc
  exact lv_goto C.1 C.2.1 hd ht (K b hb _ _ _ _ _ _ _ _ _ _ _ _ _ _ _ _ _ C X Lc)
theorem o_ifnull {x : Nat} {off : Int} (hd : decode Z.2.2.2.2.2.1 pc = .ok (.ifnull off, 3)) (K : px_O Z g res (pc + 3) L S h kc ks) : px_O Z g res pc L (.ref x :: S) h kc ks := by
  intro b hb p l e s m args below meth c D ty r0 adV r H locs ls C X Lc
  exact lv_ifnull C.1 C.2.1 hd (K b hb _ _ _ _ _ _ _ _ _ _ _ _ _ _ _ _ _ C X Lc)
theorem o_ifnonnull {x : Nat} {off : Int} {tgt : Nat} (hd : decode Z.2.2.2.2.2.1 pc = .ok (.ifnonnull off, 3)) (ht : (pc : Int) + off = (tgt : Int)) (K : px_O Z g res tgt L S h kc ks) : px_O Z g res pc L (.ref x :: S) h kc ks := by
  intro b hb p l e s m args below meth c D ty r0 adV r H locs ls C X Lc
  exact lv_ifnonnull C.1 C.2.1 hd ht (K b hb _ _ _ _ _ _ _ _ _ _ _ _ _ _ _ _ _ C X Lc)
theorem o_ifnullN {off : Int} {tgt : Nat} (hd : decode Z.2.2.2.2.2.1 pc = .ok (.ifnull off, 3)) (ht : (pc : Int) + off = (tgt : Int)) (K : px_O Z g res tgt L S h kc ks) : px_O Z g res pc L (.null :: S) h kc ks := by
  intro b hb p l e s m args below meth c D ty r0 adV r H locs ls C X Lc
  exact lv_ifnullN C.1 C.2.1 hd ht (K b hb _ _ _ _ _ _ _ _ _ _ _ _ _ _ _ _ _ C X Lc)
theorem o_ifnonnullN {off : Int} (hd : decode Z.2.2.2.2.2.1 pc = .ok (.ifnonnull off, 3)) (K : px_O Z g res (pc + 3) L S h kc ks) : px_O Z g res pc L (.null :: S) h kc ks := by
  intro b hb p l e s m args below meth c D ty r0 adV r H locs ls C X Lc
  exact lv_ifnonnullN C.1 C.2.1 hd (K b hb _ _ _ _ _ _ _ _ _ _ _ _ _ _ _ _ _ C X Lc)
theorem o_ifeq {x : Int32} {off : Int} {tgt : Nat} (hd : decode Z.2.2.2.2.2.1 pc = .ok (.ifCond .eq off, 3)) (ht : (pc : Int) + off = (tgt : Int)) (KA : x = 0 → px_O Z g A tgt L S h kc ks) (KB : ¬ x = 0 → px_O Z g B (pc + 3) L S h kc ks) : px_O Z g (if x = 0 then A else B) pc L (.int x :: S) h kc ks := by
  intro b hb p l e s m args below meth c D ty r0 adV r H locs ls C X Lc
  refine lv_if_eq C.1 C.2.1 hd ht (fun q => ?_) (fun q => ?_)
  · have q1 : (x = 0) := q
    exact KA q1 b (by rw [if_pos q1] at hb; exact hb) _ _ _ _ _ _ _ _ _ _ _ _ _ _ _ _ _ C X Lc
  · have q1 : ¬ (x = 0) := q
    exact KB q1 b (by rw [if_neg q1] at hb; exact hb) _ _ _ _ _ _ _ _ _ _ _ _ _ _ _ _ _ C X Lc
theorem o_ifeq_t {x : Int32} {off : Int} {tgt : Nat} (hd : decode Z.2.2.2.2.2.1 pc = .ok (.ifCond .eq off, 3)) (ht : (pc : Int) + off = (tgt : Int)) (hq : (x = 0)) (K : px_O Z g res tgt L S h kc ks) : px_O Z g res pc L (.int x :: S) h kc ks := by
  intro b hb p l e s m args below meth c D ty r0 adV r H locs ls C X Lc
  refine lv_if_eq C.1 C.2.1 hd ht (fun q => K b hb _ _ _ _ _ _ _ _ _ _ _ _ _ _ _ _ _ C X Lc) (fun q => absurd hq ?_)
  exact ((q))
theorem o_ifeq_f {x : Int32} {off : Int} {tgt : Nat} (hd : decode Z.2.2.2.2.2.1 pc = .ok (.ifCond .eq off, 3)) (ht : (pc : Int) + off = (tgt : Int)) (hq : ¬ (x = 0)) (K : px_O Z g res (pc + 3) L S h kc ks) : px_O Z g res pc L (.int x :: S) h kc ks := by
  intro b hb p l e s m args below meth c D ty r0 adV r H locs ls C X Lc
  refine lv_if_eq C.1 C.2.1 hd ht (fun q => absurd hq ?_) (fun q => K b hb _ _ _ _ _ _ _ _ _ _ _ _ _ _ _ _ _ C X Lc)
  exact (fun z => z (q))
theorem o_ifne {x : Int32} {off : Int} {tgt : Nat} (hd : decode Z.2.2.2.2.2.1 pc = .ok (.ifCond .ne off, 3)) (ht : (pc : Int) + off = (tgt : Int)) (KA : ¬ x = 0 → px_O Z g A tgt L S h kc ks) (KB : x = 0 → px_O Z g B (pc + 3) L S h kc ks) : px_O Z g (if x = 0 then B else A) pc L (.int x :: S) h kc ks := by
  intro b hb p l e s m args below meth c D ty r0 adV r H locs ls C X Lc
  refine lv_if_ne C.1 C.2.1 hd ht (fun q => ?_) (fun q => ?_)
  · have q1 : ¬ (x = 0) := q
    exact KA q1 b (by rw [if_neg q1] at hb; exact hb) _ _ _ _ _ _ _ _ _ _ _ _ _ _ _ _ _ C X Lc
  · have q1 : (x = 0) := q
    exact KB q1 b (by rw [if_pos q1] at hb; exact hb) _ _ _ _ _ _ _ _ _ _ _ _ _ _ _ _ _ C X Lc
theorem o_ifne_t {x : Int32} {off : Int} {tgt : Nat} (hd : decode Z.2.2.2.2.2.1 pc = .ok (.ifCond .ne off, 3)) (ht : (pc : Int) + off = (tgt : Int)) (hq : ¬ (x = 0)) (K : px_O Z g res tgt L S h kc ks) : px_O Z g res pc L (.int x :: S) h kc ks := by
  intro b hb p l e s m args below meth c D ty r0 adV r H locs ls C X Lc
  refine lv_if_ne C.1 C.2.1 hd ht (fun q => K b hb _ _ _ _ _ _ _ _ _ _ _ _ _ _ _ _ _ C X Lc) (fun q => absurd hq ?_)
  exact (fun z => z (q))
theorem o_ifne_f {x : Int32} {off : Int} {tgt : Nat} (hd : decode Z.2.2.2.2.2.1 pc = .ok (.ifCond .ne off, 3)) (ht : (pc : Int) + off = (tgt : Int)) (hq : (x = 0)) (K : px_O Z g res (pc + 3) L S h kc ks) : px_O Z g res pc L (.int x :: S) h kc ks := by
  intro b hb p l e s m args below meth c D ty r0 adV r H locs ls C X Lc
  refine lv_if_ne C.1 C.2.1 hd ht (fun q => absurd hq ?_) (fun q => K b hb _ _ _ _ _ _ _ _ _ _ _ _ _ _ _ _ _ C X Lc)
  exact ((q))
theorem o_iflt {x : Int32} {off : Int} {tgt : Nat} (hd : decode Z.2.2.2.2.2.1 pc = .ok (.ifCond .lt off, 3)) (ht : (pc : Int) + off = (tgt : Int)) (KA : x < 0 → px_O Z g A tgt L S h kc ks) (KB : ¬ x < 0 → px_O Z g B (pc + 3) L S h kc ks) : px_O Z g (if x < 0 then A else B) pc L (.int x :: S) h kc ks := by
  intro b hb p l e s m args below meth c D ty r0 adV r H locs ls C X Lc
  refine lv_if_lt C.1 C.2.1 hd ht (fun q => ?_) (fun q => ?_)
  · have q1 : (x < 0) := q
    exact KA q1 b (by rw [if_pos q1] at hb; exact hb) _ _ _ _ _ _ _ _ _ _ _ _ _ _ _ _ _ C X Lc
  · have q1 : ¬ (x < 0) := q
    exact KB q1 b (by rw [if_neg q1] at hb; exact hb) _ _ _ _ _ _ _ _ _ _ _ _ _ _ _ _ _ C X Lc
theorem o_iflt_t {x : Int32} {off : Int} {tgt : Nat} (hd : decode Z.2.2.2.2.2.1 pc = .ok (.ifCond .lt off, 3)) (ht : (pc : Int) + off = (tgt : Int)) (hq : (x < 0)) (K : px_O Z g res tgt L S h kc ks) : px_O Z g res pc L (.int x :: S) h kc ks := by
  intro b hb p l e s m args below meth c D ty r0 adV r H locs ls C X Lc
  refine lv_if_lt C.1 C.2.1 hd ht (fun q => K b hb _ _ _ _ _ _ _ _ _ _ _ _ _ _ _ _ _ C X Lc) (fun q => absurd hq ?_)
  exact ((q))
theorem o_iflt_f {x : Int32} {off : Int} {tgt : Nat} (hd : decode Z.2.2.2.2.2.1 pc = .ok (.ifCond .lt off, 3)) (ht : (pc : Int) + off = (tgt : Int)) (hq : ¬ (x < 0)) (K : px_O Z g res (pc + 3) L S h kc ks) : px_O Z g res pc L (.int x :: S) h kc ks := by
  intro b hb p l e s m args below meth c D ty r0 adV r H locs ls C X Lc
  refine lv_if_lt C.1 C.2.1 hd ht (fun q => absurd hq ?_) (fun q => K b hb _ _ _ _ _ _ _ _ _ _ _ _ _ _ _ _ _ C X Lc)
  exact (fun z => z (q))
theorem o_ifge {x : Int32} {off : Int} {tgt : Nat} (hd : decode Z.2.2.2.2.2.1 pc = .ok (.ifCond .ge off, 3)) (ht : (pc : Int) + off = (tgt : Int)) (KA : ¬ x < 0 → px_O Z g A tgt L S h kc ks) (KB : x < 0 → px_O Z g B (pc + 3) L S h kc ks) : px_O Z g (if x < 0 then B else A) pc L (.int x :: S) h kc ks := by
  intro b hb p l e s m args below meth c D ty r0 adV r H locs ls C X Lc
  refine lv_if_ge C.1 C.2.1 hd ht (fun q => ?_) (fun q => ?_)
  · have q1 : ¬ (x < 0) := Int32.not_lt.mpr q
    exact KA q1 b (by rw [if_neg q1] at hb; exact hb) _ _ _ _ _ _ _ _ _ _ _ _ _ _ _ _ _ C X Lc
  · have q1 : (x < 0) := Int32.not_le.mp q
    exact KB q1 b (by rw [if_pos q1] at hb; exact hb) _ _ _ _ _ _ _ _ _ _ _ _ _ _ _ _ _ C X Lc
theorem o_ifge_t {x : Int32} {off : Int} {tgt : Nat} (hd : decode Z.2.2.2.2.2.1 pc = .ok (.ifCond .ge off, 3)) (ht : (pc : Int) + off = (tgt : Int)) (hq : ¬ (x < 0)) (K : px_O Z g res tgt L S h kc ks) : px_O Z g res pc L (.int x :: S) h kc ks := by
  intro b hb p l e s m args below meth c D ty r0 adV r H locs ls C X Lc
  refine lv_if_ge C.1 C.2.1 hd ht (fun q => K b hb _ _ _ _ _ _ _ _ _ _ _ _ _ _ _ _ _ C X Lc) (fun q => absurd hq ?_)
  exact (fun z => z (Int32.not_le.mp q))
theorem o_ifge_f {x : Int32} {off : Int} {tgt : Nat} (hd : decode Z.2.2.2.2.2.1 pc = .ok (.ifCond .ge off, 3)) (ht : (pc : Int) + off = (tgt : Int)) (hq : (x < 0)) (K : px_O Z g res (pc + 3) L S h kc ks) : px_O Z g res pc L (.int x :: S) h kc ks := by
  intro b hb p l e s m args below meth c D ty r0 adV r H locs ls C X Lc
  refine lv_if_ge C.1 C.2.1 hd ht (fun q => absurd hq ?_) (fun q => K b hb _ _ _ _ _ _ _ _ _ _ _ _ _ _ _ _ _ C X Lc)
  exact ((Int32.not_lt.mpr q))
theorem o_ifgt {x : Int32} {off : Int} {tgt : Nat} (hd : decode Z.2.2.2.2.2.1 pc = .ok (.ifCond .gt off, 3)) (ht : (pc : Int) + off = (tgt : Int)) (KA : 0 < x → px_O Z g A tgt L S h kc ks) (KB : ¬ 0 < x → px_O Z g B (pc + 3) L S h kc ks) : px_O Z g (if 0 < x then A else B) pc L (.int x :: S) h kc ks := by
  intro b hb p l e s m args below meth c D ty r0 adV r H locs ls C X Lc
  refine lv_if_gt C.1 C.2.1 hd ht (fun q => ?_) (fun q => ?_)
  · have q1 : (0 < x) := q
    exact KA q1 b (by rw [if_pos q1] at hb; exact hb) _ _ _ _ _ _ _ _ _ _ _ _ _ _ _ _ _ C X Lc
  · have q1 : ¬ (0 < x) := q
    exact KB q1 b (by rw [if_neg q1] at hb; exact hb) _ _ _ _ _ _ _ _ _ _ _ _ _ _ _ _ _ C X Lc
theorem o_ifgt_t {x : Int32} {off : Int} {tgt : Nat} (hd : decode Z.2.2.2.2.2.1 pc = .ok (.ifCond .gt off, 3)) (ht : (pc : Int) + off = (tgt : Int)) (hq : (0 < x)) (K : px_O Z g res tgt L S h kc ks) : px_O Z g res pc L (.int x :: S) h kc ks := by
  intro b hb p l e s m args below meth c D ty r0 adV r H locs ls C X Lc
  refine lv_if_gt C.1 C.2.1 hd ht (fun q => K b hb _ _ _ _ _ _ _ _ _ _ _ _ _ _ _ _ _ C X Lc) (fun q => absurd hq ?_)
  exact ((q))
theorem o_ifgt_f {x : Int32} {off : Int} {tgt : Nat} (hd : decode Z.2.2.2.2.2.1 pc = .ok (.ifCond .gt off, 3)) (ht : (pc : Int) + off = (tgt : Int)) (hq : ¬ (0 < x)) (K : px_O Z g res (pc + 3) L S h kc ks) : px_O Z g res pc L (.int x :: S) h kc ks := by
  intro b hb p l e s m args below meth c D ty r0 adV r H locs ls C X Lc
  refine lv_if_gt C.1 C.2.1 hd ht (fun q => absurd hq ?_) (fun q => K b hb _ _ _ _ _ _ _ _ _ _ _ _ _ _ _ _ _ C X Lc)
  exact (fun z => z (q))
theorem o_ifle {x : Int32} {off : Int} {tgt : Nat} (hd : decode Z.2.2.2.2.2.1 pc = .ok (.ifCond .le off, 3)) (ht : (pc : Int) + off = (tgt : Int)) (KA : ¬ 0 < x → px_O Z g A tgt L S h kc ks) (KB : 0 < x → px_O Z g B (pc + 3) L S h kc ks) : px_O Z g (if 0 < x then B else A) pc L (.int x :: S) h kc ks := by
  intro b hb p l e s m args below meth c D ty r0 adV r H locs ls C X Lc
  refine lv_if_le C.1 C.2.1 hd ht (fun q => ?_) (fun q => ?_)
  · have q1 : ¬ (0 < x) := Int32.not_lt.mpr q
    exact KA q1 b (by rw [if_neg q1] at hb; exact hb) _ _ _ _ _ _ _ _ _ _ _ _ _ _ _ _ _ C X Lc
  · have q1 : (0 < x) := Int32.not_le.mp q
    exact KB q1 b (by rw [if_pos q1] at hb; exact hb) _ _ _ _ _ _ _ _ _ _ _ _ _ _ _ _ _ C X Lc
theorem o_ifle_t {x : Int32} {off : Int} {tgt : Nat} (hd : decode Z.2.2.2.2.2.1 pc = .ok (.ifCond .le off, 3)) (ht : (pc : Int) + off = (tgt : Int)) (hq : ¬ (0 < x)) (K : px_O Z g res tgt L S h kc ks) : px_O Z g res pc L (.int x :: S) h kc ks := by
  intro b hb p l e s m args below meth c D ty r0 adV r H locs ls C X Lc
  refine lv_if_le C.1 C.2.1 hd ht (fun q => K b hb _ _ _ _ _ _ _ _ _ _ _ _ _ _ _ _ _ C X Lc) (fun q => absurd hq ?_)
  exact (fun z => z (Int32.not_le.mp q))
theorem o_ifle_f {x : Int32} {off : Int} {tgt : Nat} (hd : decode Z.2.2.2.2.2.1 pc = .ok (.ifCond .le off, 3)) (ht : (pc : Int) + off = (tgt : Int)) (hq : (0 < x)) (K : px_O Z g res (pc + 3) L S h kc ks) : px_O Z g res pc L (.int x :: S) h kc ks := by
  intro b hb p l e s m args below meth c D ty r0 adV r H locs ls C X Lc
  refine lv_if_le C.1 C.2.1 hd ht (fun q => absurd hq ?_) (fun q => K b hb _ _ _ _ _ _ _ _ _ _ _ _ _ _ _ _ _ C X Lc)
  exact ((Int32.not_lt.mpr q))
theorem o_icmpeq {x y : Int32} {off : Int} {tgt : Nat} (hd : decode Z.2.2.2.2.2.1 pc = .ok (.if_icmp .eq off, 3)) (ht : (pc : Int) + off = (tgt : Int)) (KA : x = y → px_O Z g A tgt L S h kc ks) (KB : ¬ x = y → px_O Z g B (pc + 3) L S h kc ks) : px_O Z g (if x = y then A else B) pc L (.int y :: .int x :: S) h kc ks := by
  intro b hb p l e s m args below meth c D ty r0 adV r H locs ls C X Lc
  refine lv_icmp_eq C.1 C.2.1 hd ht (fun q => ?_) (fun q => ?_)
  · have q1 : (x = y) := q
    exact KA q1 b (by rw [if_pos q1] at hb; exact hb) _ _ _ _ _ _ _ _ _ _ _ _ _ _ _ _ _ C X Lc
  · have q1 : ¬ (x = y) := q
    exact KB q1 b (by rw [if_neg q1] at hb; exact hb) _ _ _ _ _ _ _ _ _ _ _ _ _ _ _ _ _ C X Lc
theorem o_icmpeq_t {x y : Int32} {off : Int} {tgt : Nat} (hd : decode Z.2.2.2.2.2.1 pc = .ok (.if_icmp .eq off, 3)) (ht : (pc : Int) + off = (tgt : Int)) (hq : (x = y)) (K : px_O Z g res tgt L S h kc ks) : px_O Z g res pc L (.int y :: .int x :: S) h kc ks := by
  intro b hb p l e s m args below meth c D ty r0 adV r H locs ls C X Lc
  refine lv_icmp_eq C.1 C.2.1 hd ht (fun q => K b hb _ _ _ _ _ _ _ _ _ _ _ _ _ _ _ _ _ C X Lc) (fun q => absurd hq ?_)
  exact ((q))
theorem o_icmpeq_f {x y : Int32} {off : Int} {tgt : Nat} (hd : decode Z.2.2.2.2.2.1 pc = .ok (.if_icmp .eq off, 3)) (ht : (pc : Int) + off = (tgt : Int)) (hq : ¬ (x = y)) (K : px_O Z g res (pc + 3) L S h kc ks) : px_O Z g res pc L (.int y :: .int x :: S) h kc ks := by
  intro b hb p l e s m args below meth c D ty r0 adV r H locs ls C X Lc
  refine lv_icmp_eq C.1 C.2.1 hd ht (fun q => absurd hq ?_) (fun q => K b hb _ _ _ _ _ _ _ _ _ _ _ _ _ _ _ _ _ C X Lc)
  exact (fun z => z (q))
theorem o_icmpne {x y : Int32} {off : Int} {tgt : Nat} (hd : decode Z.2.2.2.2.2.1 pc = .ok (.if_icmp .ne off, 3)) (ht : (pc : Int) + off = (tgt : Int)) (KA : ¬ x = y → px_O Z g A tgt L S h kc ks) (KB : x = y → px_O Z g B (pc + 3) L S h kc ks) : px_O Z g (if x = y then B else A) pc L (.int y :: .int x :: S) h kc ks := by
  intro b hb p l e s m args below meth c D ty r0 adV r H locs ls C X Lc
  refine lv_icmp_ne C.1 C.2.1 hd ht (fun q => ?_) (fun q => ?_)
  · have q1 : ¬ (x = y) := q
    exact KA q1 b (by rw [if_neg q1] at hb; exact hb) _ _ _ _ _ _ _ _ _ _ _ _ _ _ _ _ _ C X Lc
  · have q1 : (x = y) := q
    exact KB q1 b (by rw [if_pos q1] at hb; exact hb) _ _ _ _ _ _ _ _ _ _ _ _ _ _ _ _ _ C X Lc
theorem o_icmpne_t {x y : Int32} {off : Int} {tgt : Nat} (hd : decode Z.2.2.2.2.2.1 pc = .ok (.if_icmp .ne off, 3)) (ht : (pc : Int) + off = (tgt : Int)) (hq : ¬ (x = y)) (K : px_O Z g res tgt L S h kc ks) : px_O Z g res pc L (.int y :: .int x :: S) h kc ks := by
  intro b hb p l e s m args below meth c D ty r0 adV r H locs ls C X Lc
  refine lv_icmp_ne C.1 C.2.1 hd ht (fun q => K b hb _ _ _ _ _ _ _ _ _ _ _ _ _ _ _ _ _ C X Lc) (fun q => absurd hq ?_)
  exact (fun z => z (q))
theorem o_icmpne_f {x y : Int32} {off : Int} {tgt : Nat} (hd : decode Z.2.2.2.2.2.1 pc = .ok (.if_icmp .ne off, 3)) (ht : (pc : Int) + off = (tgt : Int)) (hq : (x = y)) (K : px_O Z g res (pc + 3) L S h kc ks) : px_O Z g res pc L (.int y :: .int x :: S) h kc ks := by
  intro b hb p l e s m args below meth c D ty r0 adV r H locs ls C X Lc
  refine lv_icmp_ne C.1 C.2.1 hd ht (fun q => absurd hq ?_) (fun q => K b hb _ _ _ _ _ _ _ _ _ _ _ _ _ _ _ _ _ C X Lc)
  exact ((q))
theorem o_icmplt {x y : Int32} {off : Int} {tgt : Nat} (hd : decode Z.2.2.2.2.2.1 pc = .ok (.if_icmp .lt off, 3)) (ht : (pc : Int) + off = (tgt : Int)) (KA : x < y → px_O Z g A tgt L S h kc ks) (KB : ¬ x < y → px_O Z g B (pc + 3) L S h kc ks) : px_O Z g (if x < y then A else B) pc L (.int y :: .int x :: S) h kc ks := by
  intro b hb p l e s m args below meth c D ty r0 adV r H locs ls C X Lc
  refine lv_icmp_lt C.1 C.2.1 hd ht (fun q => ?_) (fun q => ?_)
  · have q1 : (x < y) := q
    exact KA q1 b (by rw [if_pos q1] at hb; exact hb) _ _ _ _ _ _ _ _ _ _ _ _ _ _ _ _ _ C X Lc
  · have q1 : ¬ (x < y) := q
    exact KB q1 b (by rw [if_neg q1] at hb; exact hb) _ _ _ _ _ _ _ _ _ _ _ _ _ _ _ _ _ C X Lc
theorem o_icmplt_t {x y : Int32} {off : Int} {tgt : Nat} (hd : decode Z.2.2.2.2.2.1 pc = .ok (.if_icmp .lt off, 3)) (ht : (pc : Int) + off = (tgt : Int)) (hq : (x < y)) (K : px_O Z g res tgt L S h kc ks) : px_O Z g res pc L (.int y :: .int x :: S) h kc ks := by
  intro b hb p l e s m args below meth c D ty r0 adV r H locs ls C X Lc
  refine lv_icmp_lt C.1 C.2.1 hd ht (fun q => K b hb _ _ _ _ _ _ _ _ _ _ _ _ _ _ _ _ _ C X Lc) (fun q => absurd hq ?_)
  exact ((q))
theorem o_icmplt_f {x y : Int32} {off : Int} {tgt : Nat} (hd : decode Z.2.2.2.2.2.1 pc = .ok (.if_icmp .lt off, 3)) (ht : (pc : Int) + off = (tgt : Int)) (hq : ¬ (x < y)) (K : px_O Z g res (pc + 3) L S h kc ks) : px_O Z g res pc L (.int y :: .int x :: S) h kc ks := by
  intro b hb p l e s m args below meth c D ty r0 adV r H locs ls C X Lc
  refine lv_icmp_lt C.1 C.2.1 hd ht (fun q => absurd hq ?_) (fun q => K b hb _ _ _ _ _ _ _ _ _ _ _ _ _ _ _ _ _ C X Lc)
  exact (fun z => z (q))
theorem o_icmpge {x y : Int32} {off : Int} {tgt : Nat} (hd : decode Z.2.2.2.2.2.1 pc = .ok (.if_icmp .ge off, 3)) (ht : (pc : Int) + off = (tgt : Int)) (KA : ¬ x < y → px_O Z g A tgt L S h kc ks) (KB : x < y → px_O Z g B (pc + 3) L S h kc ks) : px_O Z g (if x < y then B else A) pc L (.int y :: .int x :: S) h kc ks := by
  intro b hb p l e s m args below meth c D ty r0 adV r H locs ls C X Lc
  refine lv_icmp_ge C.1 C.2.1 hd ht (fun q => ?_) (fun q => ?_)
  · have q1 : ¬ (x < y) := Int32.not_lt.mpr q
    exact KA q1 b (by rw [if_neg q1] at hb; exact hb) _ _ _ _ _ _ _ _ _ _ _ _ _ _ _ _ _ C X Lc
  · have q1 : (x < y) := Int32.not_le.mp q
    exact KB q1 b (by rw [if_pos q1] at hb; exact hb) _ _ _ _ _ _ _ _ _ _ _ _ _ _ _ _ _ C X Lc
theorem o_icmpge_t {x y : Int32} {off : Int} {tgt : Nat} (hd : decode Z.2.2.2.2.2.1 pc = .ok (.if_icmp .ge off, 3)) (ht : (pc : Int) + off = (tgt : Int)) (hq : ¬ (x < y)) (K : px_O Z g res tgt L S h kc ks) : px_O Z g res pc L (.int y :: .int x :: S) h kc ks := by
  intro b hb p l e s m args below meth c D ty r0 adV r H locs ls C X Lc
  refine lv_icmp_ge C.1 C.2.1 hd ht (fun q => K b hb _ _ _ _ _ _ _ _ _ _ _ _ _ _ _ _ _ C X Lc) (fun q => absurd hq ?_)
  exact (fun z => z (Int32.not_le.mp q))
theorem o_icmpge_f {x y : Int32} {off : Int} {tgt : Nat} (hd : decode Z.2.2.2.2.2.1 pc = .ok (.if_icmp .ge off, 3)) (ht : (pc : Int) + off = (tgt : Int)) (hq : (x < y)) (K : px_O Z g res (pc + 3) L S h kc ks) : px_O Z g res pc L (.int y :: .int x :: S) h kc ks := by
  intro b hb p l e s m args below meth c D ty r0 adV r H locs ls C X Lc
  refine lv_icmp_ge C.1 C.2.1 hd ht (fun q => absurd hq ?_) (fun q => K b hb _ _ _ _ _ _ _ _ _ _ _ _ _ _ _ _ _ C X Lc)
  exact ((Int32.not_lt.mpr q))
theorem o_icmpgt {x y : Int32} {off : Int} {tgt : Nat} (hd : decode Z.2.2.2.2.2.1 pc = .ok (.if_icmp .gt off, 3)) (ht : (pc : Int) + off = (tgt : Int)) (KA : y < x → px_O Z g A tgt L S h kc ks) (KB : ¬ y < x → px_O Z g B (pc + 3) L S h kc ks) : px_O Z g (if y < x then A else B) pc L (.int y :: .int x :: S) h kc ks := by
  intro b hb p l e s m args below meth c D ty r0 adV r H locs ls C X Lc
  refine lv_icmp_gt C.1 C.2.1 hd ht (fun q => ?_) (fun q => ?_)
  · have q1 : (y < x) := q
    exact KA q1 b (by rw [if_pos q1] at hb; exact hb) _ _ _ _ _ _ _ _ _ _ _ _ _ _ _ _ _ C X Lc
  · have q1 : ¬ (y < x) := q
    exact KB q1 b (by rw [if_neg q1] at hb; exact hb) _ _ _ _ _ _ _ _ _ _ _ _ _ _ _ _ _ C X Lc
theorem o_icmpgt_t {x y : Int32} {off : Int} {tgt : Nat} (hd : decode Z.2.2.2.2.2.1 pc = .ok (.if_icmp .gt off, 3)) (ht : (pc : Int) + off = (tgt : Int)) (hq : (y < x)) (K : px_O Z g res tgt L S h kc ks) : px_O Z g res pc L (.int y :: .int x :: S) h kc ks := by
  intro b hb p l e s m args below meth c D ty r0 adV r H locs ls C X Lc
  refine lv_icmp_gt C.1 C.2.1 hd ht (fun q => K b hb _ _ _ _ _ _ _ _ _ _ _ _ _ _ _ _ _ C X Lc) (fun q => absurd hq ?_)
  exact ((q))
theorem o_icmpgt_f {x y : Int32} {off : Int} {tgt : Nat} (hd : decode Z.2.2.2.2.2.1 pc = .ok (.if_icmp .gt off, 3)) (ht : (pc : Int) + off = (tgt : Int)) (hq : ¬ (y < x)) (K : px_O Z g res (pc + 3) L S h kc ks) : px_O Z g res pc L (.int y :: .int x :: S) h kc ks := by
  intro b hb p l e s m args below meth c D ty r0 adV r H locs ls C X Lc
  refine lv_icmp_gt C.1 C.2.1 hd ht (fun q => absurd hq ?_) (fun q => K b hb _ _ _ _ _ _ _ _ _ _ _ _ _ _ _ _ _ C X Lc)
  exact (fun z => z (q))
theorem o_icmple {x y : Int32} {off : Int} {tgt : Nat} (hd : decode Z.2.2.2.2.2.1 pc = .ok (.if_icmp .le off, 3)) (ht : (pc : Int) + off = (tgt : Int)) (KA : ¬ y < x → px_O Z g A tgt L S h kc ks) (KB : y < x → px_O Z g B (pc + 3) L S h kc ks) : px_O Z g (if y < x then B else A) pc L (.int y :: .int x :: S) h kc ks := by
  intro b hb p l e s m args below meth c D ty r0 adV r H locs ls C X Lc
  refine lv_icmp_le C.1 C.2.1 hd ht (fun q => ?_) (fun q => ?_)
  · have q1 : ¬ (y < x) := Int32.not_lt.mpr q
    exact KA q1 b (by rw [if_neg q1] at hb; exact hb) _ _ _ _ _ _ _ _ _ _ _ _ _ _ _ _ _ C X Lc
  · have q1 : (y < x) := Int32.not_le.mp q
    exact KB q1 b (by rw [if_pos q1] at hb; exact hb) _ _ _ _ _ _ _ _ _ _ _ _ _ _ _ _ _ C X Lc
theorem o_icmple_t {x y : Int32} {off : Int} {tgt : Nat} (hd : decode Z.2.2.2.2.2.1 pc = .ok (.if_icmp .le off, 3)) (ht : (pc : Int) + off = (tgt : Int)) (hq : ¬ (y < x)) (K : px_O Z g res tgt L S h kc ks) : px_O Z g res pc L (.int y :: .int x :: S) h kc ks := by
  intro b hb p l e s m args below meth c D ty r0 adV r H locs ls C X Lc
  refine lv_icmp_le C.1 C.2.1 hd ht (fun q => K b hb _ _ _ _ _ _ _ _ _ _ _ _ _ _ _ _ _ C X Lc) (fun q => absurd hq ?_)
  exact (fun z => z (Int32.not_le.mp q))
theorem o_icmple_f {x y : Int32} {off : Int} {tgt : Nat} (hd : decode Z.2.2.2.2.2.1 pc = .ok (.if_icmp .le off, 3)) (ht : (pc : Int) + off = (tgt : Int)) (hq : (y < x)) (K : px_O Z g res (pc + 3) L S h kc ks) : px_O Z g res pc L (.int y :: .int x :: S) h kc ks := by
  intro b hb p l e s m args below meth c D ty r0 adV r H locs ls C X Lc
  refine lv_icmp_le C.1 C.2.1 hd ht (fun q => absurd hq ?_) (fun q => K b hb _ _ _ _ _ _ _ _ _ _ _ _ _ _ _ _ _ C X Lc)
  exact ((Int32.not_lt.mpr q))
theorem o_tabOut {dflt lo hi : Int} {offs : Array Int} {len : Nat} {x : Int32} {tgt : Nat} (hd : decode Z.2.2.2.2.2.1 pc = .ok (.tableswitch dflt lo hi offs, len)) (hq : x.toInt < lo ∨ hi < x.toInt) (ht : (pc : Int) + dflt = (tgt : Int)) (K : px_O Z g res tgt L S h kc ks) : px_O Z g res pc L (.int x :: S) h kc ks := by
  intro b hb p l e s m args below meth c D ty r0 adV r H locs ls C X Lc
  exact lv_tableOut C.1 C.2.1 hd hq ht (K b hb _ _ _ _ _ _ _ _ _ _ _ _ _ _ _ _ _ C X Lc)
theorem o_tabIn {dflt lo hi : Int} {offs : Array Int} {len : Nat} {x : Int32} {off : Int} {tgt : Nat} (hd : decode Z.2.2.2.2.2.1 pc = .ok (.tableswitch dflt lo hi offs, len)) (h1 : ¬ x.toInt < lo) (h2 : ¬ hi < x.toInt) (ho : offs[(x.toInt - lo).toNat]? = some off) (ht : (pc : Int) + off = (tgt : Int)) (K : px_O Z g res tgt L S h kc ks) : px_O Z g res pc L (.int x :: S) h kc ks := by
  intro b hb p l e s m args below meth c D ty r0 adV r H locs ls C X Lc
  exact lv_tableIn C.1 C.2.1 hd h1 h2 ho ht (K b hb _ _ _ _ _ _ _ _ _ _ _ _ _ _ _ _ _ C X Lc)
theorem px_out {x : Int32} (lo : Int) (n : Nat) (hlo : -2147483648 ≤ lo) (hn : lo + n ≤ 2147483648) (hx : ∀ k : Nat, k < n → x ≠ Int32.ofInt (lo + k)) : x.toInt < lo ∨ lo + n - 1 < x.toInt := by
  by_cases h1 : x.toInt < lo
  · exact Or.inl h1
  · by_cases h2 : lo + n - 1 < x.toInt
    · exact Or.inr h2
    · refine absurd ?_ (hx (x.toInt - lo).toNat (by omega))
      have e : lo + ((x.toInt - lo).toNat : Int) = x.toInt := by omega
      rw [e]
      exact (Int32.ofInt_toInt x).symm
end PXO
/-- what is known of the picture's classes -/
theorem px_cls : ∀ (ci : Nat) (q : vw_C), vwCl[ci]? = some q → (∀ w ∈ u_ws q.1 q.2.1 q.2.2, w ∈ px_T) ∧ (∃ ty0 : Nat → FieldType, ∀ k, k < q.2.2 → parseFieldDescriptor (q.2.1 k).2.2.1 = some (ty0 k)) ∧ (∀ a, a < q.2.2 → ∀ b, b < q.2.2 → a ≠ b → (q.2.1 a).2.1 ≠ (q.2.1 b).2.1) := by
  intro ci q hq
  match ci, hq with
  | 0, hq => cases hq; exact ⟨px_in0, ⟨tyX0, tyX0_ok⟩, nmX0⟩
  | 1, hq => cases hq; exact ⟨px_in1, ⟨tyX1, tyX1_ok⟩, nmX1⟩
  | 2, hq => cases hq; exact ⟨px_in2, ⟨tyX2, tyX2_ok⟩, nmX2⟩
  | 3, hq => cases hq; exact ⟨px_in3, ⟨tyX3, tyX3_ok⟩, nmX3⟩
  | 4, hq => cases hq; exact ⟨px_in4, ⟨tyX4, tyX4_ok⟩, nmX4⟩
  | 5, hq => cases hq; exact ⟨px_in5, ⟨tyX5, tyX5_ok⟩, nmX5⟩
  | 6, hq => cases hq; exact ⟨px_in6, ⟨tyX6, tyX6_ok⟩, nmX6⟩
  | k + 7, hq => simp at hq
def px_FL (own : String) (idx : Nat) (q : vw_C) (k : Nat) : Prop := Cond.fieldLink own idx (q.2.1 k).1 (q.2.1 k).2.1 (q.2.1 k).2.2.1 ∈ px_T
section PXO
variable {β : Type} {Z : px_Z} {g : β → Option Value × List px_C} {res A B : Option β} {pc : Nat} {L : List (Option Value)} {S : List Value} {h : List px_C} {kc ks : Nat}
variable {a ci k idx : Nat} {fs : List Value} {q : vw_C}
theorem o_get {v : Value} (hd : decode Z.2.2.2.2.2.1 pc = .ok (.getfield idx, 3)) (hq : vwCl[ci]? = some q) (hl : px_FL Z.2.2.2.2.1.cls idx q k) (hk : k < q.2.2) (hc : h[a]? = some (.inl (ci, fs))) (hv : fs[k]? = some v) (K : px_O Z g res (pc + 3) L (v :: S) h kc ks) : px_O Z g res pc L (.ref a :: S) h kc ks := by
  intro b hb p l e s m args below meth c D ty r0 adV r H locs ls C X Lc
  obtain ⟨x1, x2, x3, x4, x5, x6⟩ := id X
  exact va_get (C := q.1) (T := q.2.1) (N := q.2.2) (ci := ci) C.1 C.2.1 C.2.2.2.2.2.1 (fun w hw => List.mem_cons_of_mem _ ((px_cls ci q hq).1 w hw)) C.2.2.2.2.1 x2 x4 a (px_w_get hc) hq k hk (C.2.2.2.2.2.1 _ (List.mem_cons_of_mem _ hl)) (fun _ z => z) (v := px_v r v) (by rw [List.getElem?_map, hv]; rfl) hd (K b hb _ _ _ _ _ _ _ _ _ _ _ _ _ _ _ _ _ C X Lc)
theorem o_put {v : Value} {ty0 : FieldType} {h' : List px_C} (hd : decode Z.2.2.2.2.2.1 pc = .ok (.putfield idx, 3)) (hq : vwCl[ci]? = some q) (hl : px_FL Z.2.2.2.2.1.cls idx q k) (hk : k < q.2.2) (hfin : (q.2.1 k).2.2.2 = false) (hty : parseFieldDescriptor (q.2.1 k).2.2.1 = some ty0) (hn : ∀ r, narrow ty0 (px_v r v) = px_v r v) (hf : ∀ r, fits ty0 (px_v r v) = true) (hc : h[a]? = some (.inl (ci, fs))) (hlen : k < fs.length) (hh : h.set a (.inl (ci, fs.set k v)) = h') (K : px_O Z g res (pc + 3) L S h' kc ks) : px_O Z g res pc L (v :: .ref a :: S) h kc ks := by
  intro b hb p l e s m args below meth c D ty r0 adV r H locs ls C X Lc
  obtain ⟨x1, x2, x3, x4, x5, x6⟩ := id X
  obtain ⟨c1, ⟨tyf, c2⟩, c3⟩ := px_cls ci q hq
  subst hh
  have es : (px_w r ty h).set a (r a, .inr (ci, (fs.map (px_v r)).set k (px_v r v))) = px_w r ty (h.set a (.inl (ci, fs.set k v))) := by
    rw [← px_w_set]
    simp only [px_c, List.map_set]
  refine va_put (C := q.1) (T := q.2.1) (N := q.2.2) (ci := ci) C.1 C.2.1 C.2.2.2.2.2.1 (fun w hw => List.mem_cons_of_mem _ (c1 w hw)) tyf c2 c3 C.2.2.2.2.1 x2 x4 x5 x6 a (px_w_get hc) hq k hk (C.2.2.2.2.2.1 _ (List.mem_cons_of_mem _ hl)) (fun _ z => z) hfin hty (hn r) (hf r) (by rw [List.length_map]; exact hlen) hd (fun H1 locs1 y1 y2 y3 => ?_)
  rw [es] at y1 y2
  exact K b hb _ _ _ _ _ _ _ _ _ _ _ _ _ _ _ _ _ C ⟨⟨fun k hk => x1.1 k (by rw [List.length_set] at hk; exact hk), by rw [List.length_set]; exact x1.2⟩, x2, x3, y1, y2, y3⟩ Lc
theorem o_putF {v : Value} {ty0 : FieldType} {h' : List px_C} (hd : decode Z.2.2.2.2.2.1 pc = .ok (.putfield idx, 3)) (hq : vwCl[ci]? = some q) (hl : px_FL Z.2.2.2.2.1.cls idx q k) (hk : k < q.2.2) (hfin : (q.2.1 k).2.2.2 = true) (hini : Z.2.2.2.2.1.name = "<init>") (hdecl : (q.2.1 k).1 = Z.2.2.2.2.1.cls) (hty : parseFieldDescriptor (q.2.1 k).2.2.1 = some ty0) (hn : ∀ r, narrow ty0 (px_v r v) = px_v r v) (hf : ∀ r, fits ty0 (px_v r v) = true) (hc : h[a]? = some (.inl (ci, fs))) (hlen : k < fs.length) (hh : h.set a (.inl (ci, fs.set k v)) = h') (K : px_O Z g res (pc + 3) L S h' kc ks) : px_O Z g res pc L (v :: .ref a :: S) h kc ks := by
  intro b hb p l e s m args below meth c D ty r0 adV r H locs ls C X Lc
  obtain ⟨x1, x2, x3, x4, x5, x6⟩ := id X
  obtain ⟨c1, ⟨tyf, c2⟩, c3⟩ := px_cls ci q hq
  subst hh
  have es : (px_w r ty h).set a (r a, .inr (ci, (fs.map (px_v r)).set k (px_v r v))) = px_w r ty (h.set a (.inl (ci, fs.set k v))) := by
    rw [← px_w_set]
    simp only [px_c, List.map_set]
  refine va_putF (C := q.1) (T := q.2.1) (N := q.2.2) (ci := ci) C.1 C.2.1 C.2.2.2.2.2.1 (fun w hw => List.mem_cons_of_mem _ (c1 w hw)) tyf c2 c3 C.2.2.2.2.1 x2 x4 x5 x6 a (px_w_get hc) hq k hk (C.2.2.2.2.2.1 _ (List.mem_cons_of_mem _ hl)) (fun _ z => z) hfin (C.2.2.2.2.2.2.2.trans hini) hdecl hty (hn r) (hf r) (by rw [List.length_map]; exact hlen) hd (fun H1 locs1 y1 y2 y3 => ?_)
  rw [es] at y1 y2
  exact K b hb _ _ _ _ _ _ _ _ _ _ _ _ _ _ _ _ _ C ⟨⟨fun k hk => x1.1 k (by rw [List.length_set] at hk; exact hk), by rw [List.length_set]; exact x1.2⟩, x2, x3, y1, y2, y3⟩ Lc
theorem px_wd_set {D : va_G} {ty : Nat → ClassId} {r0 adV r : Nat → Nat} {n0 : Nat} {s : State} {h : List px_C} {H H1 : Heap} {locs locs1 : List Loc} {a : Nat} {c : px_C} (X : px_wd D ty r0 adV r n0 s h H locs) (y1 : va_P D vwCl ((px_w r ty h).set a (r a, px_c r ty c)) H1) (y2 : va_D (px_A r0 n0 s.heap.size) ((px_w r ty h).set a (r a, px_c r ty c))) (y3 : va_S (px_A r0 n0 s.heap.size) s.heap H1 locs1) : px_wd D ty r0 adV r n0 s (h.set a c) H1 locs1 := by
  obtain ⟨x1, x2, x3, x4, x5, x6⟩ := X
  rw [px_w_set] at y1 y2
  exact ⟨⟨fun k hk => x1.1 k (by rw [List.length_set] at hk; exact hk), by rw [List.length_set]; exact x1.2⟩, x2, x3, y1, y2, y3⟩
theorem o_iald {n : Nat} {f : Nat → Int32} {i : Int32} (hd : decode Z.2.2.2.2.2.1 pc = .ok (.iaload, 1)) (hc : h[a]? = some (.inr (.inl (0, n, f)))) (hi : vp_in i n) (K : px_O Z g res (pc + 1) L (.int (f i.toNatClampNeg) :: S) h kc ks) : px_O Z g res pc L (.int i :: .ref a :: S) h kc ks := by
  intro b hb p l e s m args below meth c D ty r0 adV r H locs ls C X Lc
  exact va_iald C.1 C.2.1 X.2.1 X.2.2.2.1 a 0 (px_w_get hc) rfl hi hd (K b hb _ _ _ _ _ _ _ _ _ _ _ _ _ _ _ _ _ C X Lc)
theorem o_iast {n : Nat} {f : Nat → Int32} {i x : Int32} {h' : List px_C} (hd : decode Z.2.2.2.2.2.1 pc = .ok (.iastore, 1)) (hc : h[a]? = some (.inr (.inl (0, n, f)))) (hi : vp_in i n) (hh : h.set a (.inr (.inl (0, n, upd f i.toNatClampNeg x))) = h') (K : px_O Z g res (pc + 1) L S h' kc ks) : px_O Z g res pc L (.int x :: .int i :: .ref a :: S) h kc ks := by
  intro b hb p l e s m args below meth c D ty r0 adV r H locs ls C X Lc
  subst hh
  exact va_iast C.1 C.2.1 X.2.1 X.2.2.2.1 X.2.2.2.2.1 X.2.2.2.2.2 a 0 (px_w_get hc) rfl hi hd (fun H1 locs1 y1 y2 y3 => K b hb _ _ _ _ _ _ _ _ _ _ _ _ _ _ _ _ _ C (px_wd_set (c := .inr (.inl (0, n, upd f i.toNatClampNeg x))) X y1 y2 y3) Lc)
theorem o_zald {n : Nat} {f : Nat → Int32} {i : Int32} (hd : decode Z.2.2.2.2.2.1 pc = .ok (.baload, 1)) (hc : h[a]? = some (.inr (.inl (1, n, f)))) (hi : vp_in i n) (K : px_O Z g res (pc + 1) L (.int (f i.toNatClampNeg) :: S) h kc ks) : px_O Z g res pc L (.int i :: .ref a :: S) h kc ks := by
  intro b hb p l e s m args below meth c D ty r0 adV r H locs ls C X Lc
  exact va_zald C.1 C.2.1 X.2.1 X.2.2.2.1 a 1 (px_w_get hc) rfl hi hd (K b hb _ _ _ _ _ _ _ _ _ _ _ _ _ _ _ _ _ C X Lc)
theorem o_zast {n : Nat} {f : Nat → Int32} {i x : Int32} {h' : List px_C} (hd : decode Z.2.2.2.2.2.1 pc = .ok (.bastore, 1)) (hc : h[a]? = some (.inr (.inl (1, n, f)))) (hi : vp_in i n) (hh : h.set a (.inr (.inl (1, n, upd f i.toNatClampNeg (vp_nar .boolean x)))) = h') (K : px_O Z g res (pc + 1) L S h' kc ks) : px_O Z g res pc L (.int x :: .int i :: .ref a :: S) h kc ks := by
  intro b hb p l e s m args below meth c D ty r0 adV r H locs ls C X Lc
  subst hh
  exact va_zast C.1 C.2.1 X.2.1 X.2.2.2.1 X.2.2.2.2.1 X.2.2.2.2.2 a 1 (px_w_get hc) rfl hi hd (fun H1 locs1 y1 y2 y3 => K b hb _ _ _ _ _ _ _ _ _ _ _ _ _ _ _ _ _ C (px_wd_set (c := .inr (.inl (1, n, upd f i.toNatClampNeg (vp_nar .boolean x)))) X y1 y2 y3) Lc)
theorem o_alen {n t : Nat} {f : Nat → Int32} {v : Int32} (ht : t = 0 ∨ t = 1) (hd : decode Z.2.2.2.2.2.1 pc = .ok (.arraylength, 1)) (hc : h[a]? = some (.inr (.inl (t, n, f)))) (hv : Int32.ofNat n = v) (K : px_O Z g res (pc + 1) L (.int v :: S) h kc ks) : px_O Z g res pc L (.ref a :: S) h kc ks := by
  intro b hb p l e s m args below meth c D ty r0 adV r H locs ls C X Lc
  rcases ht with rfl | rfl
  · exact va_alen C.1 C.2.1 X.2.1 X.2.2.2.1 a 0 (px_w_get hc) (ty := .int) rfl hv hd (K b hb _ _ _ _ _ _ _ _ _ _ _ _ _ _ _ _ _ C X Lc)
  · exact va_alen C.1 C.2.1 X.2.1 X.2.2.2.1 a 1 (px_w_get hc) (ty := .boolean) rfl hv hd (K b hb _ _ _ _ _ _ _ _ _ _ _ _ _ _ _ _ _ C X Lc)
theorem px_rf_map (r : Nat → Nat) (o : Option Nat) : va_rf (o.map r) = px_v r (va_rf o) := by cases o <;> rfl
theorem o_aald {n t : Nat} {f : Nat → Option Nat} {i : Int32} {v : Value} (ht : t = 2 ∨ t = 3) (hd : decode Z.2.2.2.2.2.1 pc = .ok (.aaload, 1)) (hc : h[a]? = some (.inr (.inr (t, n, f)))) (hi : vp_in i n) (hv : va_rf (f i.toNatClampNeg) = v) (K : px_O Z g res (pc + 1) L (v :: S) h kc ks) : px_O Z g res pc L (.int i :: .ref a :: S) h kc ks := by
  intro b hb p l e s m args below meth c D ty r0 adV r H locs ls C X Lc
  subst hv
  have K2 := K b hb p l e s m args below meth c D ty r0 adV r H locs ls C X Lc
  rcases ht with rfl | rfl
  · exact va_aldq (C := "ThreeOfThem$Text") C.1 C.2.1 X.2.1 X.2.2.2.1 a 2 (px_w_get hc) rfl hi hd (by rw [px_rf_map]; exact K2)
  · exact va_aldq (C := "ThreeOfThem$Sheet") C.1 C.2.1 X.2.1 X.2.2.2.1 a 3 (px_w_get hc) rfl hi hd (by rw [px_rf_map]; exact K2)
theorem px_up_map (r : Nat → Nat) (f : Nat → Option Nat) (i v : Nat) : va_up (fun j => (f j).map r) i (some (r v)) = fun j => (va_up f i (some v) j).map r := by
  funext j
  by_cases hj : j = i
  · subst hj; simp [va_up]
  · simp [va_up, hj]
theorem o_aast {n t v : Nat} {f : Nat → Option Nat} {i : Int32} {h' : List px_C} (ht : (t = 2 ∧ ci = 4) ∨ (t = 3 ∧ ci = 3)) (hd : decode Z.2.2.2.2.2.1 pc = .ok (.aastore, 1)) (hc : h[a]? = some (.inr (.inr (t, n, f)))) (hv : h[v]? = some (.inl (ci, fs))) (hi : vp_in i n) (hh : h.set a (.inr (.inr (t, n, va_up f i.toNatClampNeg (some v)))) = h') (K : px_O Z g res (pc + 1) L S h' kc ks) : px_O Z g res pc L (.ref v :: .int i :: .ref a :: S) h kc ks := by
  intro b hb p l e s m args below meth c D ty r0 adV r H locs ls C X Lc
  subst hh
  rcases ht with ⟨rfl, rfl⟩ | ⟨rfl, rfl⟩
  · exact va_astq (r := (RX4, TX4, 3)) C.1 C.2.1 X.2.1 X.2.2.2.1 X.2.2.2.2.1 X.2.2.2.2.2 a 2 v 4 (px_w_get hc) rfl (px_w_get hv) rfl hi hd (fun H1 locs1 y1 y2 y3 => K b hb _ _ _ _ _ _ _ _ _ _ _ _ _ _ _ _ _ C (px_wd_set (c := .inr (.inr (2, n, va_up f i.toNatClampNeg (some v)))) X (by rw [px_up_map] at y1; exact y1) (by rw [px_up_map] at y2; exact y2) y3) Lc)
  · exact va_astq (r := (RX3, TX3, 3)) C.1 C.2.1 X.2.1 X.2.2.2.1 X.2.2.2.2.1 X.2.2.2.2.2 a 3 v 3 (px_w_get hc) rfl (px_w_get hv) rfl hi hd (fun H1 locs1 y1 y2 y3 => K b hb _ _ _ _ _ _ _ _ _ _ _ _ _ _ _ _ _ C (px_wd_set (c := .inr (.inr (3, n, va_up f i.toNatClampNeg (some v)))) X (by rw [px_up_map] at y1; exact y1) (by rw [px_up_map] at y2; exact y2) y3) Lc)
end PXO
end
section
/-- the end of a method -/
theorem px_end {D : va_G} {ty : Nat → ClassId} {r0 adV r : Nat → Nat} {n0 : Nat} {s t : State} {h : List px_C} {H : Heap} {locs : List Loc} {args : Array Value} {rv : Option Value} (X : px_wd D ty r0 adV r n0 s h H locs) (ht : t.heap = H) (hW : s.WarmedH t.vm) : px_Q D ty r0 n0 rv h s.heap.size args s (.returned (rv.map (px_v r))) t := by
  obtain ⟨x1, x2, x3, x4, x5, x6⟩ := X
  exact ⟨⟨r, x1.1, x1.2, rfl, by rw [ht]; exact x4, va_K.moved hW.alike x2, x5⟩, x6.F ht⟩
section PXR
variable {β : Type} {Z : px_Z} {g : β → Option Value × List px_C} {res A B : Option β} {pc : Nat} {L : List (Option Value)} {S S1 : List Value} {h : List px_C} {kc ks : Nat}
theorem o_iret {v : Int32} {rt : FieldType} (hr : Z.2.2.2.2.2.2.2 = some rt) (hn : narrow rt (.int v) = .int v) {b : β} (hd : decode Z.2.2.2.2.2.1 pc = .ok (.ireturn, 1)) (hg : g b = (some (.int v), h)) (hkc : kc ≤ Z.2.1) (hks : ks ≤ Z.2.2.1) : px_O Z g (some b) pc L [.int v] h kc ks := by
  intro b' hb p l e s m args below meth c D ty r0 adV r H locs ls C X Lc
  cases hb
  rw [hg]
  refine W.widen hkc hks ?_
  exact W.zret (v := v) C.1 C.2.1 (C.2.2.1.trans hr) hn (fun t ht hW => px_end X ht hW) X.2.2.2.2.2.2.2 hd C.2.2.2.2.2.2.1
theorem o_lret {v : Int64} (hr : Z.2.2.2.2.2.2.2 = some .long) {b : β} (hd : decode Z.2.2.2.2.2.1 pc = .ok (.lreturn, 1)) (hg : g b = (some (.long v), h)) (hkc : kc ≤ Z.2.1) (hks : ks ≤ Z.2.2.1) : px_O Z g (some b) pc L [.long v] h kc ks := by
  intro b' hb p l e s m args below meth c D ty r0 adV r H locs ls C X Lc
  cases hb
  rw [hg]
  refine W.widen hkc hks ?_
  exact W.lret (v := v) C.1 C.2.1 (C.2.2.1.trans hr) (fun t ht hW => px_end X ht hW) X.2.2.2.2.2.2.2 hd C.2.2.2.2.2.2.1
theorem o_vret (hr : Z.2.2.2.2.2.2.2 = none) {b : β} (hd : decode Z.2.2.2.2.2.1 pc = .ok (.return_, 1)) (hg : g b = (none, h)) (hkc : kc ≤ Z.2.1) (hks : ks ≤ Z.2.2.1) : px_O Z g (some b) pc L [] h kc ks := by
  intro b' hb p l e s m args below meth c D ty r0 adV r H locs ls C X Lc
  cases hb
  rw [hg]
  refine W.widen hkc hks ?_
  exact W.vret C.1 C.2.1 (C.2.2.1.trans hr) (fun t ht hW => px_end X ht hW) X.2.2.2.2.2.2.2 hd C.2.2.2.2.2.2.1
theorem o_aret {v : Nat} {rt : FieldType} (hr : Z.2.2.2.2.2.2.2 = some rt) (hrt : (∃ n, rt = .object n) ∨ ∃ t, rt = .array t) {b : β} (hd : decode Z.2.2.2.2.2.1 pc = .ok (.areturn, 1)) (hg : g b = (some (.ref v), h)) (hkc : kc ≤ Z.2.1) (hks : ks ≤ Z.2.2.1) : px_O Z g (some b) pc L [.ref v] h kc ks := by
  intro b' hb p l e s m args below meth c D ty r0 adV r H locs ls C X Lc
  cases hb
  rw [hg]
  refine W.widen hkc hks ?_
  exact W.aret (v := .ref (r v)) C.1 C.2.1 (C.2.2.1.trans hr) hrt (Or.inr ⟨_, rfl⟩) (fun t ht hW => px_end X ht hW) X.2.2.2.2.2.2.2 hd C.2.2.2.2.2.2.1
theorem o_aretN {rt : FieldType} (hr : Z.2.2.2.2.2.2.2 = some rt) (hrt : (∃ n, rt = .object n) ∨ ∃ t, rt = .array t) {b : β} (hd : decode Z.2.2.2.2.2.1 pc = .ok (.areturn, 1)) (hg : g b = (some .null, h)) (hkc : kc ≤ Z.2.1) (hks : ks ≤ Z.2.2.1) : px_O Z g (some b) pc L [.null] h kc ks := by
  intro b' hb p l e s m args below meth c D ty r0 adV r H locs ls C X Lc
  cases hb
  rw [hg]
  refine W.widen hkc hks ?_
  exact W.aret (v := .null) C.1 C.2.1 (C.2.2.1.trans hr) hrt (Or.inl rfl) (fun t ht hW => px_end X ht hW) X.2.2.2.2.2.2.2 hd C.2.2.2.2.2.2.1
end PXR
/-- the locals at the entry -/
def px_ex : List Value → List (Option Value)
  | [] => []
  | v :: vs => if v.category = 2 then some v :: none :: px_ex vs else some v :: px_ex vs
theorem px_ex_len (r : Nat → Nat) (as : List Value) : (lg_sl (as.map (px_v r))).length = (px_ex as).length := by
  induction as with
  | nil => rfl
  | cons v vs ih =>
    have e : lg_sl ((v :: vs).map (px_v r)) = (if (px_v r v).category = 2 then [Slot.val (px_v r v), .second] else [.val (px_v r v)]) ++ lg_sl (vs.map (px_v r)) := by simp [lg_sl]
    rw [e, List.length_append, ih, px_ex, px_v_cat]
    by_cases hc : v.category = 2
    · simp [hc]; omega
    · simp [hc]; omega
theorem px_ex_mem (r : Nat → Nat) (as : List Value) : ∀ (o i : Nat) (v : Value), (px_ex as)[i]? = some (some v) → (o + i, px_v r v) ∈ lv_args o (as.map (px_v r)) := by
  induction as with
  | nil => intro o i v hv; simp [px_ex] at hv
  | cons u vs ih =>
    intro o i v hv
    rw [px_ex] at hv
    simp only [List.map_cons, lv_args, px_v_cat]
    by_cases hc : u.category = 2
    · rw [if_pos hc] at hv ⊢
      match i, hv with
      | 0, hv => simp at hv; subst hv; exact List.mem_cons_self
      | 1, hv => simp at hv
      | j + 2, hv =>
        have h1 := ih (o + 2) j v (by simpa using hv)
        rw [show o + (j + 2) = o + 2 + j by omega]
        exact List.mem_cons_of_mem _ h1
    · rw [if_neg hc] at hv ⊢
      match i, hv with
      | 0, hv => simp at hv; subst hv; exact List.mem_cons_self
      | j + 1, hv =>
        have h1 := ih (o + 1) j v (by simpa using hv)
        rw [show o + (j + 1) = o + 1 + j by omega]
        exact List.mem_cons_of_mem _ h1
theorem px_L_entry (r : Nat → Nat) (as : List Value) {n : Nat} (hn : (px_ex as).length ≤ n) : px_L r ((lg_sl (as.map (px_v r)) ++ List.replicate (n - (lg_sl (as.map (px_v r))).length) Slot.unset).toArray) n (px_ex as ++ List.replicate (n - (px_ex as).length) none) := by
  have hl := lv_entry (as.map (px_v r)) (n := n) (by rw [px_ex_len]; exact hn)
  refine ⟨hl.1, hl.2.1, fun i v hv => ?_⟩
  by_cases hi : i < (px_ex as).length
  · rw [List.getElem?_append_left hi] at hv
    have h1 := px_ex_mem r as 0 i v hv
    rw [Nat.zero_add] at h1
    exact hl.2.2 _ h1
  · rw [List.getElem?_append_right (by omega), List.getElem?_replicate] at hv
    split at hv <;> cases hv
def px_MF (M : px_M) (n : Nat) : Prop := Cond.code M.1 M.2.1 M.2.2.1 M.2.2.2 ∈ px_T ∧ Cond.initialized M.1.cls ∈ px_T ∧ (M.1.cls ≠ "java/lang/invoke/MethodHandle" ∧ M.1.cls ≠ "java/lang/invoke/VarHandle" ∧ (parseMethodDescriptor M.1.desc).map (fun d => d.parameters.length) = some n) ∧ M.2.2.1 ≤ 50 ∧ plainName M.1.cls = true
theorem px_goodT {w : Cond} (h : w ∈ px_T) (M : px_M) : w ∈ px_ws M ∧ ((w.onTables && w.keeps) = true ∨ ∃ ty, w = .arrayClass ty) := ⟨List.mem_cons_of_mem _ h, (px_T_good h).2⟩
theorem px_good {M M' : px_M} {n : Nat} (hm : px_MF M' n) : GoodIn (px_ws M) (px_ws M') := fun w hw => by
  rcases List.mem_cons.mp hw with e | e
  · subst e; exact px_goodT hm.1 M
  · exact px_goodT e M
/-- THE ENTRY: a contract out of the body -/
theorem px_Kof {β : Type} {g : β → Option Value × List px_C} {f : Option β} {b : β} {d mc ms n : Nat} {M : px_M} {as : List Value} {h : List px_C} {L : List (Option Value)} (hf : f = some b) (hm : px_MF M n) (hn : (px_ex as).length ≤ M.2.2.1) (hL : px_ex as ++ List.replicate (M.2.2.1 - (px_ex as).length) none = L) (K : px_O (d, mc, ms, h.length, M) g f 0 L [] h 0 0) : px_K d mc ms M as h (g b).1 (g b).2 := by
  intro l D ty r adV sz
  refine Met.ofW (cc := M.2.1) (maxL := M.2.2.1) (ret := M.2.2.2) hm.2.2.2.2 rfl ?_
  intro p e s m args below meth c s₁ B hml hv
  obtain ⟨hargs, ⟨hsz, hle⟩, hP, hK, hD, hE⟩ := hv
  subst hargs; subst hL; subst hsz
  have hts := atoms_spec (ws := px_ws M) B.pre
  have hown : s.vm.findClass M.1.cls = some m.cls := findClass_of_methodNamed B.named
  rw [lg_entry_eq]
  have hD2 : va_D (px_A r h.length s.heap.size) (px_w r ty h) := by rw [← px_A_eq r ty]; exact hD.self
  exact K b hf p l e s m _ below meth c D ty r adV r s.heap [] _ ⟨B.exec, B.bytes, B.returns, hml, hown, hts, B.notSynchronized, (name_of_methodNamed B.named B.method).1⟩ ⟨⟨fun k _ => rfl, Nat.le_refl _, hle⟩, hK, hE, hP, hD2, va_S.rf⟩ (px_L_entry r as hn)
/-- old places: what a call that makes cells doesn't move -/
def px_ov (n n' : Nat) (v : Value) : Prop := ∀ k, v = .ref k → k < n ∨ n' ≤ k
theorem px_ov_v {r r' : Nat → Nat} {n n' : Nat} {v : Value} (hr : ∀ k, k < n ∨ n' ≤ k → r' k = r k) (h : px_ov n n' v) : px_v r' v = px_v r v := by
  cases v with
  | ref k => simp only [px_v, hr k (h k rfl)]
  | _ => rfl
theorem px_ov_S {r r' : Nat → Nat} {n n' : Nat} {S : List Value} (hr : ∀ k, k < n ∨ n' ≤ k → r' k = r k) (h : ∀ v ∈ S, px_ov n n' v) : S.map (px_v r') = S.map (px_v r) := List.map_congr_left (fun v hv => px_ov_v hr (h v hv))
theorem px_ov_L {r r' : Nat → Nat} {n n' nL : Nat} {L : List (Option Value)} {ls : Array Slot} (hr : ∀ k, k < n ∨ n' ≤ k → r' k = r k) (h : ∀ v, some v ∈ L → px_ov n n' v) (hl : px_L r ls nL L) : px_L r' ls nL L :=
  ⟨hl.1, hl.2.1, fun i v hv => by rw [px_ov_v hr (h v (List.mem_of_getElem? hv))]; exact hl.2.2 i v hv⟩
theorem px_ov_same (n : Nat) (v : Value) : px_ov n n v := fun k _ => Nat.lt_or_ge k n
/-- BEHIND A CALL -/
theorem px_after {p : Program} {l : Launch} {e : Env} {R : Room} {s : State} {m : MethodId} {args : Array Value} {below : List Frame} {meth : Method} {c : Code} {H : Heap} {locs : List Loc} {cells slots mc ms : Nat} {Q : State → Prop} {pc : Nat} {ls : Array Slot} {rest st0 : List Value} {a : Array Value} {D : va_G} {ty : Nat → ClassId} {r0 adV r : Nat → Nat} {n0 : Nat} {h h' : List px_C} {rv : Option Value}
    (hr : va_Run p l e R s m args below meth c H locs cells slots mc ms (F0 m pc ls st0) rest (px_Q D ty r h.length rv h' H.size a) (px_A r h.length H.size)) (X : px_wd D ty r0 adV r n0 s h H locs)
    (kk : ∀ (r' : Nat → Nat) (H1 : Heap) (locs1 : List Loc), (∀ k, k < h.length ∨ h'.length ≤ k → r' k = r k) → px_wd D ty r0 adV r' n0 s h' H1 locs1 → W p l e R s m args below meth c H1 locs1 (cells + mc) (slots + ms) Q (F0 m (pc + 3) ls ((rv.map (px_v r')).toList ++ rest))) : W p l e R s m args below meth c H locs cells slots Q (F0 m pc ls st0) := by
  intro T hT XX
  obtain ⟨v, st₀, t, T', L, h0, X', hL, e1, e2, ⟨⟨r', q1, q2, hv, q3, q4, q5⟩, hz, hk⟩, st⟩ := hr T hT XX
  cases hv
  rw [h0] at hz hk
  obtain ⟨x1, x2, x3, x4, x5, x6⟩ := X
  have hA : ∀ q, px_A r h.length H.size q → px_A r0 n0 s.heap.size q := by
    rintro q (⟨k, hk1, rfl⟩ | hq)
    · exact x5.2 k _ (px_w_get (List.getElem?_eq_getElem hk1))
    · exact Or.inr (Nat.le_trans x6.1 hq)
  obtain ⟨t2, a1, b1⟩ := kk r' T'.heap (locs ++ L) q1 ⟨⟨fun k hk2 => by
      rcases hk2 with h2 | h2
      · rw [q1 k (Or.inl (Nat.lt_of_lt_of_le h2 x1.2.1))]; exact x1.1 k (Or.inl h2)
      · rw [q1 k (Or.inr h2)]; exact x1.1 k (Or.inr (Nat.le_trans q2.1 h2)), Nat.le_trans x1.2.1 q2.1, q2.2⟩, x2, x3, by rw [e1]; exact q3, q5.weaken (fun k q _ hq => hA _ hq),
    ⟨Nat.le_trans x6.1 (by rw [e1]; exact hz), fun q h1 h2 => by rw [e1, hk q (Nat.lt_of_lt_of_le h1 x6.1) (fun z => h2 (hA q z))]; exact x6.2.1 q h1 h2, fun q hq => by
      rcases List.mem_append.mp hq with h | h
      · exact x6.2.2 q h
      · exact hA _ (hL q h)⟩⟩ T' rfl X'
  exact ⟨t2, st t2 a1, b1⟩
theorem px_pre {D : va_G} {ty : Nat → ClassId} {r0 adV r : Nat → Nat} {n0 : Nat} {s : State} {h : List px_C} {H : Heap} {locs : List Loc} {as : List Value} (X : px_wd D ty r0 adV r n0 s h H locs): ∀ U : State, U.heap = H → s.WarmedH U.vm → px_P D ty r adV as h H.size (as.map (px_v r)).toArray U := by
  intro U hU hW
  obtain ⟨x1, x2, x3, x4, x5, x6⟩ := X
  refine ⟨rfl, ⟨by rw [hU], x1.2.2⟩, by rw [hU]; exact x4, va_K.moved hW.alike x2, x5.weaken (fun _ _ _ _ => trivial), ?_⟩
  rw [hU]
  have hA : ∀ q, px_A r h.length H.size q → px_A r0 n0 s.heap.size q := by
    rintro q (⟨k, hk1, rfl⟩ | hq)
    · exact x5.2 k _ (px_w_get (List.getElem?_eq_getElem hk1))
    · exact Or.inr (Nat.le_trans x6.1 hq)
  exact px_E.warm hW (((x3.kept (fun a ha hna => x6.2.1 a ha hna)).narrow hA).places (fun k hk => x1.1 k (Or.inr (Nat.le_trans x1.2.2 hk))))
theorem px_room {d d' mc ms mc' ms' n : Nat} (hd : d' + 1 ≤ d) (hn : n ≤ 50) : (px_rm d' mc' ms').frames + 1 ≤ (px_rm d mc ms).frames ∧ 8 + (n + 11) + (px_rm d' mc' ms').locals ≤ (px_rm d mc ms).locals := by
  refine ⟨hd, ?_⟩
  show 8 + (n + 11) + 80 * d' ≤ 80 * d
  omega
section PXK
variable {β : Type} {Z : px_Z} {g : β → Option Value × List px_C} {res A B : Option β} {pc : Nat} {L : List (Option Value)} {S S1 : List Value} {h : List px_C} {kc ks : Nat}
variable {M' : px_M} {n d' mc' ms' idx : Nat} {as : List Value} {rv : Option Value} {h' : List px_C}
theorem o_callS (hd : decode Z.2.2.2.2.2.1 pc = .ok (.invokestatic idx, 3)) (hm : px_MF M' n) (hl : Cond.methodLink Z.2.2.2.2.1.cls idx M'.1 ∈ px_T) (hst : Cond.static M'.1 ∈ px_T) (hn : as.length = n) (hK : px_K d' mc' ms' M' as h rv h') (hdd : d' + 1 ≤ Z.1) (hS : S = as.reverse ++ S1) (hw : (S1.map fun v => v.category).sum ≤ 8) (hf : kc + mc' ≤ Z.2.1 ∧ ks + ms' ≤ Z.2.2.1) (oL : ∀ v, some v ∈ L → px_ov h.length h'.length v) (oS : ∀ v ∈ S1, px_ov h.length h'.length v) (K : px_O Z g res (pc + 3) L (rv.toList ++ S1) h' (kc + mc') (ks + ms')) : px_O Z g res pc L S h kc ks := by
  intro b hb p l e s m args below meth c D ty r0 adV r H locs ls C X Lc
  subst hS
  have hts := C.2.2.2.2.2.1
  have rest : ((S1.map (px_v r)).map fun v => v.category).sum ≤ 8 := by
    rw [List.map_map]
    have e : ((fun v => v.category) ∘ px_v r) = fun v : Value => v.category := funext fun v => px_v_cat r v
    rw [e]; exact hw
  refine px_after (h' := h') (rv := rv) (rest := S1.map (px_v r)) (va_runS (As := as.map (px_v r)) ⟨C.1, C.2.1, C.2.2.2.1, C.2.2.2.2.1, hts⟩ (hK l D ty r adV H.size) (va_cwS n hts (fun w hw => by
    rcases List.mem_append.mp hw with e | e
    · rcases List.mem_cons.mp e with e | e
      · subst e; exact px_goodT hl _
      · rcases List.mem_cons.mp e with e | e
        · subst e; exact px_goodT hst _
        · rw [List.mem_singleton] at e; subst e; exact px_goodT hm.2.1 _
    · exact px_good hm w e) rfl rfl rfl hm.2.2.1 (px_room hdd hm.2.2.2.1)) ⟨px_P_blind D ty r adV as h H.size, px_pre X⟩ rfl (by rw [List.length_map]; exact hn) Lc.1 (by simp [px_v_ref]) (lv_room rest) hd hf) X (fun r' H1 locs1 hr X' => ?_)
  have e2 : (rv.map (px_v r')).toList ++ S1.map (px_v r) = (rv.toList ++ S1).map (px_v r') := by
    rw [List.map_append, px_ov_S hr oS]
    cases rv <;> rfl
  rw [e2]
  exact K b hb _ _ _ _ _ _ _ _ _ _ _ _ _ _ _ _ _ C X' (px_ov_L hr oL Lc)
theorem o_callSN (hd : decode Z.2.2.2.2.2.1 pc = .ok (.invokestatic idx, 3)) (hm : px_MF M' n) {host : String} (hl : Cond.methodLinkNest Z.2.2.2.2.1.cls idx M'.1 host ∈ px_Nt) (hst : Cond.static M'.1 ∈ px_T) (hn : as.length = n) (hK : px_K d' mc' ms' M' as h rv h') (hdd : d' + 1 ≤ Z.1) (hS : S = as.reverse ++ S1) (hw : (S1.map fun v => v.category).sum ≤ 8) (hf : kc + mc' ≤ Z.2.1 ∧ ks + ms' ≤ Z.2.2.1) (oL : ∀ v, some v ∈ L → px_ov h.length h'.length v) (oS : ∀ v ∈ S1, px_ov h.length h'.length v) (K : px_O Z g res (pc + 3) L (rv.toList ++ S1) h' (kc + mc') (ks + ms')) : px_O Z g res pc L S h kc ks := by
  intro b hb p l e s m args below meth c D ty r0 adV r H locs ls C X Lc
  subst hS
  have hts := C.2.2.2.2.2.1
  have rest : ((S1.map (px_v r)).map fun v => v.category).sum ≤ 8 := by
    rw [List.map_map]
    have e : ((fun v => v.category) ∘ px_v r) = fun v : Value => v.category := funext fun v => px_v_cat r v
    rw [e]; exact hw
  refine px_after (h' := h') (rv := rv) (rest := S1.map (px_v r)) (va_runSN (As := as.map (px_v r)) ⟨C.1, C.2.1, C.2.2.2.1, C.2.2.2.2.1, hts⟩ (hK l D ty r adV H.size) ⟨va_cnB n hts (px_good hm) rfl rfl rfl (X.2.2.1.1 _ hl) (hts _ (List.mem_cons_of_mem _ hm.2.1)) hm.2.2.1 (px_room hdd hm.2.2.2.1), hts _ (List.mem_cons_of_mem _ hst), trivial⟩ ⟨px_P_blind D ty r adV as h H.size, px_pre X⟩ rfl (by rw [List.length_map]; exact hn) Lc.1 (by simp [px_v_ref]) (lv_room rest) hd hf) X (fun r' H1 locs1 hr X' => ?_)
  have e2 : (rv.map (px_v r')).toList ++ S1.map (px_v r) = (rv.toList ++ S1).map (px_v r') := by
    rw [List.map_append, px_ov_S hr oS]
    cases rv <;> rfl
  rw [e2]
  exact K b hb _ _ _ _ _ _ _ _ _ _ _ _ _ _ _ _ _ C X' (px_ov_L hr oL Lc)
theorem o_callV {a ci : Nat} {fs : List Value} (hd : decode Z.2.2.2.2.2.1 pc = .ok (.invokevirtual idx, 3)) (hm : px_MF M' n) (hl : Cond.methodLink Z.2.2.2.2.1.cls idx M'.1 ∈ px_T) (hin : Cond.instanceMethod M'.1 ∈ px_T) (hse : Cond.selects M'.1.cls M'.1 M'.1 ∈ px_T) {q : vw_C} (hq : vwCl[ci]? = some q) (hqc : q.1 = M'.1.cls) (hc : h[a]? = some (.inl (ci, fs))) (hn : as.length = n) (hK : px_K d' mc' ms' M' (.ref a :: as) h rv h') (hdd : d' + 1 ≤ Z.1) (hS : S = as.reverse ++ .ref a :: S1) (hw : (S1.map fun v => v.category).sum ≤ 8) (hf : kc + mc' ≤ Z.2.1 ∧ ks + ms' ≤ Z.2.2.1) (oL : ∀ v, some v ∈ L → px_ov h.length h'.length v) (oS : ∀ v ∈ S1, px_ov h.length h'.length v) (K : px_O Z g res (pc + 3) L (rv.toList ++ S1) h' (kc + mc') (ks + ms')) : px_O Z g res pc L S h kc ks := by
  intro b hb p l e s m args below meth c D ty r0 adV r H locs ls C X Lc
  subst hS
  have hts := C.2.2.2.2.2.1
  have rest : ((S1.map (px_v r)).map fun v => v.category).sum ≤ 8 := by
    rw [List.map_map]
    have e : ((fun v => v.category) ∘ px_v r) = fun v : Value => v.category := funext fun v => px_v_cat r v
    rw [e]; exact hw
  refine px_after (h' := h') (rv := rv) (rest := S1.map (px_v r)) (va_runV (As := as.map (px_v r)) ⟨C.1, C.2.1, C.2.2.2.1, C.2.2.2.2.1, hts⟩ (hK l D ty r adV H.size) (cwV (C := M'.1.cls) n hts (fun w hw => by
    rcases List.mem_append.mp hw with e | e
    · rcases List.mem_cons.mp e with e | e
      · subst e; exact px_goodT hl _
      · rcases List.mem_cons.mp e with e | e
        · subst e; exact px_goodT hin _
        · rcases List.mem_cons.mp e with e | e
          · subst e; exact px_goodT hse _
          · rw [List.mem_singleton] at e; subst e; exact px_goodT hm.2.1 _
    · exact px_good hm w e) rfl rfl rfl ⟨rfl, hm.2.2.1⟩ (px_room hdd hm.2.2.2.1)) ⟨px_P_blind D ty r adV (.ref a :: as) h H.size, (by rw [← hqc]; exact va_recv X.2.1 X.2.2.2.1 hq (px_w_get hc)), px_pre X⟩ rfl (by rw [List.length_map]; exact hn) Lc.1 (by simp [px_v_ref]) (lv_room rest) hd hf) X (fun r' H1 locs1 hr X' => ?_)
  have e2 : (rv.map (px_v r')).toList ++ S1.map (px_v r) = (rv.toList ++ S1).map (px_v r') := by
    rw [List.map_append, px_ov_S hr oS]
    cases rv <;> rfl
  rw [e2]
  exact K b hb _ _ _ _ _ _ _ _ _ _ _ _ _ _ _ _ _ C X' (px_ov_L hr oL Lc)
theorem o_callI {a ci : Nat} {fs : List Value} (hd : decode Z.2.2.2.2.2.1 pc = .ok (.invokespecial idx, 3)) (hm : px_MF M' n) (hl : Cond.methodLink Z.2.2.2.2.1.cls idx M'.1 ∈ px_T) (hin : Cond.instanceMethod M'.1 ∈ px_T) (hini : M'.1.name = "<init>") (hret : M'.2.2.2 = none) (hn : as.length = n) (hK : px_K d' mc' ms' M' (.ref a :: as) h rv h') (hdd : d' + 1 ≤ Z.1) (hS : S = as.reverse ++ .ref a :: S1) (hw : (S1.map fun v => v.category).sum ≤ 8) (hf : kc + mc' ≤ Z.2.1 ∧ ks + ms' ≤ Z.2.2.1) (oL : ∀ v, some v ∈ L → px_ov h.length h'.length v) (oS : ∀ v ∈ S1, px_ov h.length h'.length v) (K : px_O Z g res (pc + 3) L (rv.toList ++ S1) h' (kc + mc') (ks + ms')) : px_O Z g res pc L S h kc ks := by
  intro b hb p l e s m args below meth c D ty r0 adV r H locs ls C X Lc
  subst hS
  have hts := C.2.2.2.2.2.1
  have rest : ((S1.map (px_v r)).map fun v => v.category).sum ≤ 8 := by
    rw [List.map_map]
    have e : ((fun v => v.category) ∘ px_v r) = fun v : Value => v.category := funext fun v => px_v_cat r v
    rw [e]; exact hw
  refine px_after (h' := h') (rv := rv) (rest := S1.map (px_v r)) (va_runI (As := as.map (px_v r)) ⟨C.1, C.2.1, C.2.2.2.1, C.2.2.2.2.1, hts⟩ (hK l D ty r adV H.size) (cwI (bytes := M'.2.1) (maxL := M'.2.2.1) (ws' := px_T) n hts (px_good hm) (by rw [← hret]; rfl) rfl rfl (hts _ (List.mem_cons_of_mem _ hm.2.1)) (hts _ (List.mem_cons_of_mem _ hl)) (hts _ (List.mem_cons_of_mem _ hin)) hini hm.2.2.1 (px_room hdd hm.2.2.2.1)) ⟨px_P_blind D ty r adV (.ref a :: as) h H.size, px_pre X⟩ rfl (by rw [List.length_map]; exact hn) Lc.1 (by simp [px_v_ref]) (lv_room rest) hd hf) X (fun r' H1 locs1 hr X' => ?_)
  have e2 : (rv.map (px_v r')).toList ++ S1.map (px_v r) = (rv.toList ++ S1).map (px_v r') := by
    rw [List.map_append, px_ov_S hr oS]
    cases rv <;> rfl
  rw [e2]
  exact K b hb _ _ _ _ _ _ _ _ _ _ _ _ _ _ _ _ _ C X' (px_ov_L hr oL Lc)
theorem o_callIN {a ci : Nat} {fs : List Value} (hd : decode Z.2.2.2.2.2.1 pc = .ok (.invokespecial idx, 3)) (hm : px_MF M' n) {host : String} (hl : Cond.methodLinkNest Z.2.2.2.2.1.cls idx M'.1 host ∈ px_Nt) (hin : Cond.instanceMethod M'.1 ∈ px_T) (hini : M'.1.name = "<init>") (hret : M'.2.2.2 = none) (hn : as.length = n) (hK : px_K d' mc' ms' M' (.ref a :: as) h rv h') (hdd : d' + 1 ≤ Z.1) (hS : S = as.reverse ++ .ref a :: S1) (hw : (S1.map fun v => v.category).sum ≤ 8) (hf : kc + mc' ≤ Z.2.1 ∧ ks + ms' ≤ Z.2.2.1) (oL : ∀ v, some v ∈ L → px_ov h.length h'.length v) (oS : ∀ v ∈ S1, px_ov h.length h'.length v) (K : px_O Z g res (pc + 3) L (rv.toList ++ S1) h' (kc + mc') (ks + ms')) : px_O Z g res pc L S h kc ks := by
  intro b hb p l e s m args below meth c D ty r0 adV r H locs ls C X Lc
  subst hS
  have hts := C.2.2.2.2.2.1
  have rest : ((S1.map (px_v r)).map fun v => v.category).sum ≤ 8 := by
    rw [List.map_map]
    have e : ((fun v => v.category) ∘ px_v r) = fun v : Value => v.category := funext fun v => px_v_cat r v
    rw [e]; exact hw
  refine px_after (h' := h') (rv := rv) (rest := S1.map (px_v r)) (va_runIN (As := as.map (px_v r)) ⟨C.1, C.2.1, C.2.2.2.1, C.2.2.2.2.1, hts⟩ (hK l D ty r adV H.size) ⟨va_cnB (bytes := M'.2.1) (maxL := M'.2.2.1) (ret := none) (ws' := px_T) n hts (px_good hm) (by rw [← hret]; rfl) rfl rfl (X.2.2.1.1 _ hl) (hts _ (List.mem_cons_of_mem _ hm.2.1)) hm.2.2.1 (px_room hdd hm.2.2.2.1), hini, hts _ (List.mem_cons_of_mem _ hin)⟩ ⟨px_P_blind D ty r adV (.ref a :: as) h H.size, px_pre X⟩ rfl (by rw [List.length_map]; exact hn) Lc.1 (by simp [px_v_ref]) (lv_room rest) hd hf) X (fun r' H1 locs1 hr X' => ?_)
  have e2 : (rv.map (px_v r')).toList ++ S1.map (px_v r) = (rv.toList ++ S1).map (px_v r') := by
    rw [List.map_append, px_ov_S hr oS]
    cases rv <;> rfl
  rw [e2]
  exact K b hb _ _ _ _ _ _ _ _ _ _ _ _ _ _ _ _ _ C X' (px_ov_L hr oL Lc)
end PXK
/-! calls that make nothing, as a term says them -/
section PXL
variable {β : Type} {Z : px_Z} {g : β → Option Value × List px_C} {res A B : Option β} {pc : Nat} {L : List (Option Value)} {S S1 : List Value} {h : List px_C} {kc ks : Nat}
variable {M' : px_M} {n d' idx : Nat} {as : List Value} {α : Type} {g' : α → Option Value × List px_C} {x : Option α} {F : α → Option β}
theorem o_cS (hd : decode Z.2.2.2.2.2.1 pc = .ok (.invokestatic idx, 3)) (hm : px_MF M' n) (hl : Cond.methodLink Z.2.2.2.2.1.cls idx M'.1 ∈ px_T) (hst : Cond.static M'.1 ∈ px_T) (hn : as.length = n) (hK : ∀ b, x = some b → px_K d' 0 0 M' as h (g' b).1 (g' b).2) (hdd : d' + 1 ≤ Z.1) (hS : S = as.reverse ++ S1) (hw : (S1.map fun v => v.category).sum ≤ 8) (hf : kc ≤ Z.2.1 ∧ ks ≤ Z.2.2.1) (hle : ∀ b, x = some b → (g' b).2.length = h.length) (K : ∀ b, x = some b → px_O Z g (F b) (pc + 3) L ((g' b).1.toList ++ S1) (g' b).2 kc ks) : px_O Z g (x.bind F) pc L S h kc ks := by
  refine o_bindv (fun b hb => ?_)
  exact o_callS hd hm hl hst hn (hK b hb) hdd hS hw hf (by rw [hle b hb]; exact fun v _ => px_ov_same _ v) (by rw [hle b hb]; exact fun v _ => px_ov_same _ v) (K b hb)
theorem o_cSN (hd : decode Z.2.2.2.2.2.1 pc = .ok (.invokestatic idx, 3)) (hm : px_MF M' n) {host : String} (hl : Cond.methodLinkNest Z.2.2.2.2.1.cls idx M'.1 host ∈ px_Nt) (hst : Cond.static M'.1 ∈ px_T) (hn : as.length = n) (hK : ∀ b, x = some b → px_K d' 0 0 M' as h (g' b).1 (g' b).2) (hdd : d' + 1 ≤ Z.1) (hS : S = as.reverse ++ S1) (hw : (S1.map fun v => v.category).sum ≤ 8) (hf : kc ≤ Z.2.1 ∧ ks ≤ Z.2.2.1) (hle : ∀ b, x = some b → (g' b).2.length = h.length) (K : ∀ b, x = some b → px_O Z g (F b) (pc + 3) L ((g' b).1.toList ++ S1) (g' b).2 kc ks) : px_O Z g (x.bind F) pc L S h kc ks := by
  refine o_bindv (fun b hb => ?_)
  exact o_callSN hd hm hl hst hn (hK b hb) hdd hS hw hf (by rw [hle b hb]; exact fun v _ => px_ov_same _ v) (by rw [hle b hb]; exact fun v _ => px_ov_same _ v) (K b hb)
theorem o_cV {a ci : Nat} {fs : List Value} (hd : decode Z.2.2.2.2.2.1 pc = .ok (.invokevirtual idx, 3)) (hm : px_MF M' n) (hl : Cond.methodLink Z.2.2.2.2.1.cls idx M'.1 ∈ px_T) (hin : Cond.instanceMethod M'.1 ∈ px_T) (hse : Cond.selects M'.1.cls M'.1 M'.1 ∈ px_T) {q : vw_C} (hq : vwCl[ci]? = some q) (hqc : q.1 = M'.1.cls) (hc : h[a]? = some (.inl (ci, fs))) (hn : as.length = n) (hK : ∀ b, x = some b → px_K d' 0 0 M' (.ref a :: as) h (g' b).1 (g' b).2) (hdd : d' + 1 ≤ Z.1) (hS : S = as.reverse ++ .ref a :: S1) (hw : (S1.map fun v => v.category).sum ≤ 8) (hf : kc ≤ Z.2.1 ∧ ks ≤ Z.2.2.1) (hle : ∀ b, x = some b → (g' b).2.length = h.length) (K : ∀ b, x = some b → px_O Z g (F b) (pc + 3) L ((g' b).1.toList ++ S1) (g' b).2 kc ks) : px_O Z g (x.bind F) pc L S h kc ks := by
  refine o_bindv (fun b hb => ?_)
  exact o_callV hd hm hl hin hse hq hqc hc hn (hK b hb) hdd hS hw hf (by rw [hle b hb]; exact fun v _ => px_ov_same _ v) (by rw [hle b hb]; exact fun v _ => px_ov_same _ v) (K b hb)
end PXL
end
section
theorem px_wd_push {D : va_G} {ty : Nat → ClassId} {r0 adV r : Nat → Nat} {n0 : Nat} {s : State} {h : List px_C} {H H1 : Heap} {locs locs1 : List Loc} {q : Nat} {c : px_C} (X : px_wd D ty r0 adV r n0 s h H locs) (hf : ∀ x ∈ h, px_fr h.length x) (hc : px_fr h.length c) (y1 : va_P D vwCl (px_w r ty h ++ [(q, px_c r ty c)]) H1) (y2 : va_D (px_A r0 n0 s.heap.size) (px_w r ty h ++ [(q, px_c r ty c)])) (y3 : va_S (px_A r0 n0 s.heap.size) s.heap H1 locs1) (hlt : h.length < 1000) : px_wd D ty r0 adV (va_up r h.length q) n0 s (h ++ [c]) H1 locs1 := by
  obtain ⟨x1, x2, x3, x4, x5, x6⟩ := X
  rw [px_w_push hf hc] at y1 y2
  have hl : (h ++ [c]).length = h.length + 1 := by simp
  have hx1 := x1.2.1
  refine ⟨⟨fun k hk => ?_, by rw [hl]; omega, by rw [hl]; omega⟩, x2, x3, y1, y2, y3⟩
  rw [hl] at hk
  have hx := x1.2.1
  rw [va_up_ne _ _ (by omega)]
  exact x1.1 k (by omega)
theorem px_fv_S {r : Nat → Nat} {n q : Nat} {S : List Value} (hS : ∀ v ∈ S, px_fv n v) : S.map (px_v r) = S.map (px_v (va_up r n q)) := List.map_congr_left (fun v hv => (px_v_up (hS v hv)).symm)
theorem px_fv_L {r : Nat → Nat} {n q nL : Nat} {L : List (Option Value)} {ls : Array Slot} (h : ∀ v, some v ∈ L → px_fv n v) (hl : px_L r ls nL L) : px_L (va_up r n q) ls nL L :=
  ⟨hl.1, hl.2.1, fun i v hv => by rw [px_v_up (h v (List.mem_of_getElem? hv))]; exact hl.2.2 i v hv⟩
section PXN
variable {β : Type} {Z : px_Z} {g : β → Option Value × List px_C} {res A B : Option β} {pc idx : Nat} {L : List (Option Value)} {S S1 : List Value} {h : List px_C} {kc ks : Nat}
theorem o_new {ci : Nat} {q : vw_C} {fs : List Value} {ty0 : Nat → FieldType} (hd : decode Z.2.2.2.2.2.1 pc = .ok (.new idx, 3)) (hq : vwCl[ci]? = some q) (hcl : Cond.classLink Z.2.2.2.2.1.cls idx q.1 ∈ px_T) (hin : Cond.instantiable q.1 q.2.2 ∈ px_T) (hini : Cond.initialized q.1 ∈ px_T) (hty : ∀ k, k < q.2.2 → parseFieldDescriptor (q.2.1 k).2.2.1 = some (ty0 k)) (hfs : ∀ j, j < q.2.2 → defaultValue (ty0 j) = vp_V fs j) (hfr : ∀ v ∈ fs, ∀ k, v ≠ .ref k) (hcells : kc + 1 ≤ Z.2.1) (hslots : ks + q.2.2 ≤ Z.2.2.1) (hlt : h.length < 1000) (hh : ∀ x ∈ h, px_fr h.length x) (oL : ∀ v, some v ∈ L → px_fv h.length v) (oS : ∀ v ∈ S, px_fv h.length v) (K : px_O Z g res (pc + 3) L (.ref h.length :: S) (h ++ [.inl (ci, fs)]) (kc + 1) (ks + q.2.2)) : px_O Z g res pc L S h kc ks := by
  intro b hb p l e s m args below meth c D ty r0 adV r H locs ls C X Lc
  have e0 : fs.map (px_v r) = fs := by
    refine (List.map_congr_left (fun v hv => ?_)).trans (List.map_id' fs)
    cases v with
    | ref k => exact absurd rfl (hfr _ hv k)
    | _ => rfl
  refine va_new (C := q.1) (T := q.2.1) (N := q.2.2) (ci := ci) (fs := fs) C.1 C.2.1 C.2.2.2.2.2.1 (fun w hw => List.mem_cons_of_mem _ ((px_cls ci q hq).1 w hw)) ty0 hty C.2.2.2.2.1 (C.2.2.2.2.2.1 _ (List.mem_cons_of_mem _ hcl)) (C.2.2.2.2.2.1 _ (List.mem_cons_of_mem _ hin)) (C.2.2.2.2.2.1 _ (List.mem_cons_of_mem _ hini)) X.2.1 X.2.2.2.1 X.2.2.2.2.1 X.2.2.2.2.2 (fun _ z => Or.inr z) hq hfs hcells hslots hd (fun q1 H1 y1 y2 y3 => ?_)
  have e1 : px_c r ty (.inl (ci, fs)) = .inr (ci, fs) := by simp only [px_c, e0]
  have K2 := K b hb p l e s m args below meth c D ty r0 adV (va_up r h.length q1) H1 locs ls C (px_wd_push (c := .inl (ci, fs)) X hh (fun v hv k hk => absurd hk (hfr v hv k)) (by rw [e1]; exact y1) (by rw [e1]; exact y2) y3 hlt) (px_fv_L oL Lc)
  rw [List.map_cons, ← px_fv_S oS, px_v_ref] at K2
  simp only [va_up_self] at K2
  exact K2
theorem o_newi {n : Int32} {N : Nat} (hd : decode Z.2.2.2.2.2.1 pc = .ok (.newarray .int, 2)) (hw : Cond.arrayClass .int ∈ px_T) (hn : ¬ n < 0) (hN : n.toNatClampNeg = N) (hby : N ≤ 100000) (hcells : kc + 1 ≤ Z.2.1) (hslots : ks + N ≤ Z.2.2.1) (hlt : h.length < 1000) (hh : ∀ x ∈ h, px_fr h.length x) (oL : ∀ v, some v ∈ L → px_fv h.length v) (oS : ∀ v ∈ S, px_fv h.length v) (K : px_O Z g res (pc + 2) L (.ref h.length :: S) (h ++ [.inr (.inl (0, N, fun _ => 0))]) (kc + 1) (ks + N)) : px_O Z g res pc L (.int n :: S) h kc ks := by
  intro b hb p l e s m args below meth c D ty r0 adV r H locs ls C X Lc
  refine va_newa (atype := .int) (ty := .int) (a0 := (N, .inl (fun _ => 0))) C.1 C.2.1 (C.2.2.2.2.2.1 _ (List.mem_cons_of_mem _ hw)) rfl X.2.1 X.2.2.2.1 X.2.2.2.2.1 X.2.2.2.2.2 (fun _ z => Or.inr z) (fun cA => rfl) hn hN (by show N * 4 ≤ _; omega) hcells hslots hd (fun q1 cA H1 y0 y1 y2 y3 => ?_)
  have ec : cA = ty 0 := by
    have z1 := (y0.2 4 (cA, .int) rfl).2
    have z2 := (X.2.1.2 0 (ty 0, .int) rfl).2
    exact Option.some.inj (z1.symm.trans z2)
  subst ec
  have K2 := K b hb p l e s m args below meth c D ty r0 adV (va_up r h.length q1) H1 locs ls C (px_wd_push (c := .inr (.inl (0, N, fun _ => 0))) X hh trivial y1 y2 y3 hlt) (px_fv_L oL Lc)
  rw [List.map_cons, ← px_fv_S oS, px_v_ref] at K2
  simp only [va_up_self] at K2
  exact K2
theorem o_newz {n : Int32} {N : Nat} (hd : decode Z.2.2.2.2.2.1 pc = .ok (.newarray .boolean, 2)) (hw : Cond.arrayClass .boolean ∈ px_T) (hn : ¬ n < 0) (hN : n.toNatClampNeg = N) (hby : N ≤ 100000) (hcells : kc + 1 ≤ Z.2.1) (hslots : ks + N ≤ Z.2.2.1) (hlt : h.length < 1000) (hh : ∀ x ∈ h, px_fr h.length x) (oL : ∀ v, some v ∈ L → px_fv h.length v) (oS : ∀ v ∈ S, px_fv h.length v) (K : px_O Z g res (pc + 2) L (.ref h.length :: S) (h ++ [.inr (.inl (1, N, fun _ => 0))]) (kc + 1) (ks + N)) : px_O Z g res pc L (.int n :: S) h kc ks := by
  intro b hb p l e s m args below meth c D ty r0 adV r H locs ls C X Lc
  refine va_newa (atype := .boolean) (ty := .boolean) (a0 := (N, .inl (fun _ => 0))) C.1 C.2.1 (C.2.2.2.2.2.1 _ (List.mem_cons_of_mem _ hw)) rfl X.2.1 X.2.2.2.1 X.2.2.2.2.1 X.2.2.2.2.2 (fun _ z => Or.inr z) (fun cA => rfl) hn hN (by show N * 1 ≤ _; omega) hcells hslots hd (fun q1 cA H1 y0 y1 y2 y3 => ?_)
  have ec : cA = ty 1 := by
    have z1 := (y0.2 4 (cA, .boolean) rfl).2
    have z2 := (X.2.1.2 1 (ty 1, .boolean) rfl).2
    exact Option.some.inj (z1.symm.trans z2)
  subst ec
  have K2 := K b hb p l e s m args below meth c D ty r0 adV (va_up r h.length q1) H1 locs ls C (px_wd_push (c := .inr (.inl (1, N, fun _ => 0))) X hh trivial y1 y2 y3 hlt) (px_fv_L oL Lc)
  rw [List.map_cons, ← px_fv_S oS, px_v_ref] at K2
  simp only [va_up_self] at K2
  exact K2
theorem o_anew2 {n : Int32} {N : Nat} (hd : decode Z.2.2.2.2.2.1 pc = .ok (.anewarray idx, 3)) (hcl : Cond.classLink Z.2.2.2.2.1.cls idx "ThreeOfThem$Text" ∈ px_T) (hn : ¬ n < 0) (hN : n.toNatClampNeg = N) (hby : N ≤ 100000) (hcells : kc + 1 ≤ Z.2.1) (hslots : ks + N ≤ Z.2.2.1) (hlt : h.length < 1000) (hh : ∀ x ∈ h, px_fr h.length x) (oL : ∀ v, some v ∈ L → px_fv h.length v) (oS : ∀ v ∈ S, px_fv h.length v) (K : px_O Z g res (pc + 3) L (.ref h.length :: S) (h ++ [.inr (.inr (2, N, fun _ => none))]) (kc + 1) (ks + N)) : px_O Z g res pc L (.int n :: S) h kc ks := by
  intro b hb p l e s m args below meth c D ty r0 adV r H locs ls C X Lc
  refine va_newq C.1 C.2.1 C.2.2.2.2.1 (C.2.2.2.2.2.1 _ (List.mem_cons_of_mem _ hcl)) X.2.2.1.2.2.2.2.2.2.2.1 X.2.1 X.2.2.2.1 X.2.2.2.2.1 X.2.2.2.2.2 (fun _ z => Or.inr z) hn hN (by omega) hcells hslots hd (fun q1 cA H1 y0 y1 y2 y3 => ?_)
  have ec : cA = ty 2 := by
    obtain ⟨_, _, _, _, _, z1⟩ := (y0.2 4 (cA, .object "ThreeOfThem$Text") rfl).2
    obtain ⟨_, _, _, _, _, z2⟩ := (X.2.1.2 2 (ty 2, .object "ThreeOfThem$Text") rfl).2
    exact Option.some.inj (z1.symm.trans z2)
  subst ec
  have K2 := K b hb p l e s m args below meth c D ty r0 adV (va_up r h.length q1) H1 locs ls C (px_wd_push (c := .inr (.inr (2, N, fun _ => none))) X hh (fun j k z => by cases z) y1 y2 y3 hlt) (px_fv_L oL Lc)
  rw [List.map_cons, ← px_fv_S oS, px_v_ref] at K2
  simp only [va_up_self] at K2
  exact K2
theorem o_anew3 {n : Int32} {N : Nat} (hd : decode Z.2.2.2.2.2.1 pc = .ok (.anewarray idx, 3)) (hcl : Cond.classLink Z.2.2.2.2.1.cls idx "ThreeOfThem$Sheet" ∈ px_T) (hn : ¬ n < 0) (hN : n.toNatClampNeg = N) (hby : N ≤ 100000) (hcells : kc + 1 ≤ Z.2.1) (hslots : ks + N ≤ Z.2.2.1) (hlt : h.length < 1000) (hh : ∀ x ∈ h, px_fr h.length x) (oL : ∀ v, some v ∈ L → px_fv h.length v) (oS : ∀ v ∈ S, px_fv h.length v) (K : px_O Z g res (pc + 3) L (.ref h.length :: S) (h ++ [.inr (.inr (3, N, fun _ => none))]) (kc + 1) (ks + N)) : px_O Z g res pc L (.int n :: S) h kc ks := by
  intro b hb p l e s m args below meth c D ty r0 adV r H locs ls C X Lc
  refine va_newq C.1 C.2.1 C.2.2.2.2.1 (C.2.2.2.2.2.1 _ (List.mem_cons_of_mem _ hcl)) X.2.2.1.2.2.2.2.2.2.2.2 X.2.1 X.2.2.2.1 X.2.2.2.2.1 X.2.2.2.2.2 (fun _ z => Or.inr z) hn hN (by omega) hcells hslots hd (fun q1 cA H1 y0 y1 y2 y3 => ?_)
  have ec : cA = ty 3 := by
    obtain ⟨_, _, _, _, _, z1⟩ := (y0.2 4 (cA, .object "ThreeOfThem$Sheet") rfl).2
    obtain ⟨_, _, _, _, _, z2⟩ := (X.2.1.2 3 (ty 3, .object "ThreeOfThem$Sheet") rfl).2
    exact Option.some.inj (z1.symm.trans z2)
  subst ec
  have K2 := K b hb p l e s m args below meth c D ty r0 adV (va_up r h.length q1) H1 locs ls C (px_wd_push (c := .inr (.inr (3, N, fun _ => none))) X hh (fun j k z => by cases z) y1 y2 y3 hlt) (px_fv_L oL Lc)
  rw [List.map_cons, ← px_fv_S oS, px_v_ref] at K2
  simp only [va_up_self] at K2
  exact K2
theorem px_sum (r : Nat → Nat) (S : List Value) : ((S.map (px_v r)).map fun v => v.category).sum = (S.map fun v => v.category).sum := by
  rw [List.map_map]
  have e : ((fun v => v.category) ∘ px_v r) = fun v : Value => v.category := funext fun v => px_v_cat r v
  rw [e]
theorem o_obj {a : Nat} (hd : decode Z.2.2.2.2.2.1 pc = .ok (.invokespecial idx, 3)) (h1 : Cond.methodLink Z.2.2.2.2.1.cls idx objectInit ∈ px_T) (h2 : Cond.instanceMethod objectInit ∈ px_T) (h3 : Cond.code objectInit ⟨#[0xb1]⟩ 1 none ∈ px_T) (hz : 1 ≤ Z.1) (hw : (S.map fun v => v.category).sum ≤ 8) (K : px_O Z g res (pc + 3) L S h kc ks) : px_O Z g res pc L (.ref a :: S) h kc ks := by
  intro b hb p l e s m args below meth c D ty r0 adV r H locs ls C X Lc
  refine W.objInit C.1 C.2.1 C.2.2.2.2.1 (C.2.2.2.2.2.1 _ (List.mem_cons_of_mem _ h1)) (C.2.2.2.2.2.1 _ (List.mem_cons_of_mem _ h2)) (C.2.2.2.2.2.1 _ (List.mem_cons_of_mem _ h3)) rfl (by rw [C.2.2.2.1]; exact Lc.1) rfl hd hz ?_ (K b hb _ _ _ _ _ _ _ _ _ _ _ _ _ _ _ _ _ C X Lc)
  show 2 * 0 + _ + 12 ≤ 80 * Z.1
  rw [px_sum]
  omega
theorem o_copy {a a0 n0 n1 : Nat} {f f1 : Nat → Int32} {sp dp n : Int32} {h' : List px_C} (hd : decode Z.2.2.2.2.2.1 pc = .ok (.invokestatic idx, 3)) (w1 : Cond.methodLink Z.2.2.2.2.1.cls idx arraycopyName ∈ px_T) (w2 : Cond.native arraycopyName ∈ px_T) (w3 : Cond.static arraycopyName ∈ px_T) (w4 : Cond.initialized "java/lang/System" ∈ px_T) (hc0 : h[a0]? = some (.inr (.inl (0, n0, f)))) (hc1 : h[a]? = some (.inr (.inl (0, n1, f1)))) (q1 : ¬ sp < 0) (q2 : ¬ dp < 0) (q3 : ¬ n < 0) (q4 : sp.toNatClampNeg + n.toNatClampNeg ≤ n0) (q5 : dp.toNatClampNeg + n.toNatClampNeg ≤ n1) (hz : 1 ≤ Z.1) (hw : (S.map fun v => v.category).sum ≤ 8) (hh : h.set a (.inr (.inl (0, n1, va_cpy f f1 sp.toNatClampNeg dp.toNatClampNeg n.toNatClampNeg))) = h') (K : px_O Z g res (pc + 3) L S h' kc ks) : px_O Z g res pc L (.int n :: .int dp :: .ref a :: .int sp :: .ref a0 :: S) h kc ks := by
  intro b hb p l e s m args below meth c D ty r0 adV r H locs ls C X Lc
  subst hh
  refine va_copyi (ty := .int) C.1 C.2.1 (by rw [C.2.2.2.1]; exact Lc.1.symm) C.2.2.2.2.1 (C.2.2.2.2.2.1 _ (List.mem_cons_of_mem _ w1)) (C.2.2.2.2.2.1 _ (List.mem_cons_of_mem _ w2)) (C.2.2.2.2.2.1 _ (List.mem_cons_of_mem _ w3)) (C.2.2.2.2.2.1 _ (List.mem_cons_of_mem _ w4)) X.2.1 X.2.2.2.1 X.2.2.2.2.1 X.2.2.2.2.2 a0 a 0 0 (px_w_get hc0) (px_w_get hc1) rfl rfl rfl q1 q2 q3 q4 q5 (fun _ _ => rfl) hz ?_ hd (fun H1 locs1 y1 y2 y3 => K b hb _ _ _ _ _ _ _ _ _ _ _ _ _ _ _ _ _ C (px_wd_set (c := .inr (.inl (0, n1, va_cpy f f1 sp.toNatClampNeg dp.toNatClampNeg n.toNatClampNeg))) X y1 y2 y3) Lc)
  show _ ≤ 80 * Z.1
  rw [px_sum]
  have e : nativeFrameWords "java/lang/System" "arraycopy" 5 ≤ 40 := by decide +kernel
  omega
theorem o_max {x y : Int32} (hd : decode Z.2.2.2.2.2.1 pc = .ok (.invokestatic idx, 3)) (w1 : Cond.methodLink Z.2.2.2.2.1.cls idx Lib.Math.max.name ∈ px_T) (w2 : Cond.static Lib.Math.max.name ∈ px_T) (w3 : Cond.initialized "java/lang/Math" ∈ px_T) (w4 : Cond.code Lib.Math.max.name Lib.Math.max.code 2 (some .int) ∈ px_T) (hz : 1 ≤ Z.1) (hw : (S.map fun v => v.category).sum ≤ 8) (hf : kc ≤ Z.2.1 ∧ ks ≤ Z.2.2.1) (K : px_O Z g res (pc + 3) L (.int (if x < y then y else x) :: S) h kc ks) : px_O Z g res pc L (.int y :: .int x :: S) h kc ks := by
  intro b hb p l e s m args below meth c D ty r0 adV r H locs ls C X Lc
  refine va_mmax C.1 C.2.1 (by rw [C.2.2.2.1]; exact Lc.1.symm) C.2.2.2.2.1 (C.2.2.2.2.2.1 _ (List.mem_cons_of_mem _ w1)) (C.2.2.2.2.2.1 _ (List.mem_cons_of_mem _ w2)) (C.2.2.2.2.2.1 _ (List.mem_cons_of_mem _ w3)) (C.2.2.2.2.2.1 _ (List.mem_cons_of_mem _ w4)) hz ?_ hf.1 hf.2 hd (K b hb _ _ _ _ _ _ _ _ _ _ _ _ _ _ _ _ _ C X Lc)
  show _ ≤ 80 * Z.1
  rw [px_sum]
  omega
theorem o_min {x y : Int32} (hd : decode Z.2.2.2.2.2.1 pc = .ok (.invokestatic idx, 3)) (w1 : Cond.methodLink Z.2.2.2.2.1.cls idx Lib.Math.min.name ∈ px_T) (w2 : Cond.static Lib.Math.min.name ∈ px_T) (w3 : Cond.initialized "java/lang/Math" ∈ px_T) (w4 : Cond.code Lib.Math.min.name Lib.Math.min.code 2 (some .int) ∈ px_T) (hz : 1 ≤ Z.1) (hw : (S.map fun v => v.category).sum ≤ 8) (hf : kc ≤ Z.2.1 ∧ ks ≤ Z.2.2.1) (K : px_O Z g res (pc + 3) L (.int (if y < x then y else x) :: S) h kc ks) : px_O Z g res pc L (.int y :: .int x :: S) h kc ks := by
  intro b hb p l e s m args below meth c D ty r0 adV r H locs ls C X Lc
  refine va_mmin C.1 C.2.1 (by rw [C.2.2.2.1]; exact Lc.1.symm) C.2.2.2.2.1 (C.2.2.2.2.2.1 _ (List.mem_cons_of_mem _ w1)) (C.2.2.2.2.2.1 _ (List.mem_cons_of_mem _ w2)) (C.2.2.2.2.2.1 _ (List.mem_cons_of_mem _ w3)) (C.2.2.2.2.2.1 _ (List.mem_cons_of_mem _ w4)) hz ?_ hf.1 hf.2 hd (K b hb _ _ _ _ _ _ _ _ _ _ _ _ _ _ _ _ _ C X Lc)
  show _ ≤ 80 * Z.1
  rw [px_sum]
  omega
theorem o_under (hd : decode Z.2.2.2.2.2.1 pc = .ok (.getstatic idx, 3)) (hl : Cond.fieldLink Z.2.2.2.2.1.cls idx "ThreeOfThem" "UNDER" "[I" ∈ px_T) (K : px_O Z g res (pc + 3) L (.ref 2000 :: S) h kc ks) : px_O Z g res pc L S h kc ks := by
  intro b hb p l e s m args below meth c D ty r0 adV r H locs ls C X Lc
  have K2 := K b hb p l e s m args below meth c D ty r0 adV r H locs ls C X Lc
  rw [List.map_cons, px_v_ref, X.1.1 2000 (Or.inr (Nat.le_trans X.1.2.2 (by decide)))] at K2
  exact va_gets C.1 C.2.1 X.2.2.1.2.2.2.1 X.2.2.2.2.2 C.2.2.2.2.1 (C.2.2.2.2.2.1 _ (List.mem_cons_of_mem _ hl)) (fun _ z => z) hd K2
theorem o_uald {i : Int32} (hd : decode Z.2.2.2.2.2.1 pc = .ok (.iaload, 1)) (hi : vp_in i 6) (K : px_O Z g res (pc + 1) L (.int (px_und i.toNatClampNeg) :: S) h kc ks) : px_O Z g res pc L (.int i :: .ref 2000 :: S) h kc ks := by
  intro b hb p l e s m args below meth c D ty r0 adV r H locs ls C X Lc
  simp only [List.map_cons, px_v_ref, px_v_int, X.1.1 2000 (Or.inr (Nat.le_trans X.1.2.2 (by decide)))]
  exact va_ti C.1 C.2.1 X.2.2.1.2.2.2.2.1 X.2.2.2.2.2 hi rfl hd (K b hb _ _ _ _ _ _ _ _ _ _ _ _ _ _ _ _ _ C X Lc)
end PXN
end
section
/-! THE LAYOUT: the class's object and its parts at the places 0 to 47, the reference's at 48 to 69, each further TEXT at two places behind; what they hold is one function: place, number of the slot -/
def px_nm (n : Nat) (w : Nat → Int32) : Nat → Int32 := fun j => if j < n then w j else 0
abbrev px_ia (n : Nat) (w : Nat → Int32) : px_C := .inr (.inl (0, n, px_nm n w))
abbrev px_za (n : Nat) (w : Nat → Int32) : px_C := .inr (.inl (1, n, px_nm n w))
def px_on (x : Int32) : Option Nat := if x < 0 then none else some x.toNatClampNeg
def px_house (a : Nat) (w : Nat → Int32) : px_C := .inl (0, [.ref (a + 1), .ref (a + 2), .ref (a + 3), .ref (a + 4), .int (w 4), .int (w 5), .int (w 6), .int (w 7), .int (w 8), .int (w 9)])
def px_sheet (a : Nat) (w : Nat → Int32) : px_C := .inl (3, [.ref (a + 1), .int (w 1), .int (w 2)])
def px_text (a : Nat) (w : Nat → Int32) : px_C := .inl (4, [.ref (a + 1), .int (w 1), .int (w 2)])
abbrev px_code (w : Nat → Int32) : px_C := px_ia (w 100000).toNatClampNeg w
def px_f0 (w : Nat → Int32) : List Value := [.ref 1, .ref 6, .ref 11, .ref 31, .ref 36, .ref 37, .int (w 6), .int (w 7)]
def px_f11 (w : Nat → Int32) : List Value := [.ref 12, .ref (w 1).toNatClampNeg, .ref 19, .ref 20, .int (w 4), .ref 21, .ref 22, .ref 23, .ref 24, .ref 25, .ref 26, .ref 27, .int (w 12), .ref 28, .ref 29, .ref 30]
def px_f31 (w : Nat → Int32) : List Value := [.ref 32, .int (w 1), .ref 33, .ref 34, .int (w 4), .int (w 5), .ref 35, .int (w 7)]
def px_f48 (w : Nat → Int32) : List Value := [.int (w 0), .ref 49, .ref 50, .int (w 3), .int (w 4), .ref 51, .int (w 6), .ref 52, .ref 53, .ref 54, .ref 55, .int (w 11), .int (w 12), .int (w 13), .int (w 14), .int (w 15), .int (w 16), .int (w 17), .int (w 18), .int (w 19), .int (w 20), .int (w 21), .int (w 22), .int (w 23), .int (w 24), .int (w 25), .int (w 26), .long (w 27).toInt64, .int (w 28), .int (w 29), .int (w 30), .int (w 31), .ref 56, .ref 57, .ref 58, .int (w 35), .int (w 36), .int (w 37), .ref 59, .ref 60, .ref 61, .ref 62, .int (w 42), .int (w 43), .int (w 44), .ref 63, .ref 64, .ref 65, .int (w 48), .int (w 49), .int (w 50), .int (w 51), .int (w 52), .int (w 53), .ref 66, .ref 67, .ref 68, .ref 69]
def px_cell (k : Nat) (w : Nat → Int32) : px_C := match k with
  | 0 => .inl (5, px_f0 w)
  | 1 => px_house 1 w
  | 2 => px_ia 7 w
  | 3 => px_ia 7 w
  | 4 => px_ia 49 w
  | 5 => px_ia 7 w
  | 6 => px_house 6 w
  | 7 => px_ia 7 w
  | 8 => px_ia 7 w
  | 9 => px_ia 49 w
  | 10 => px_ia 7 w
  | 11 => .inl (1, px_f11 w)
  | 12 => px_house 12 w
  | 13 => px_ia 7 w
  | 14 => px_ia 7 w
  | 15 => px_ia 49 w
  | 16 => px_ia 7 w
  | 17 => px_text 17 w
  | 18 => px_code w
  | 19 => px_ia 6 w
  | 20 => px_ia 160 w
  | 21 => px_ia 49 w
  | 22 => px_ia 7 w
  | 23 => px_ia 7 w
  | 24 => px_ia 896 w
  | 25 => px_ia 128 w
  | 26 => px_ia 128 w
  | 27 => px_ia 35 w
  | 28 => px_ia 7 w
  | 29 => px_ia 3 w
  | 30 => px_ia 3 w
  | 31 => .inl (2, px_f31 w)
  | 32 => px_ia 160 w
  | 33 => px_ia 160 w
  | 34 => px_ia 160 w
  | 35 => px_ia 160 w
  | 36 => .inr (.inr (2, 6, fun j => if j < 6 then px_on (w j) else none))
  | 37 => .inr (.inr (3, 4, fun j => if j < 4 then some (38 + 2 * j) else none))
  | 38 => px_sheet 38 w
  | 39 => px_ia 40 w
  | 40 => px_sheet 40 w
  | 41 => px_ia 40 w
  | 42 => px_sheet 42 w
  | 43 => px_ia 40 w
  | 44 => px_sheet 44 w
  | 45 => px_ia 40 w
  | 46 => px_text 46 w
  | 47 => px_code w
  | 48 => .inl (6, px_f48 w)
  | 49 => px_ia 960 w
  | 50 => px_ia 6 w
  | 51 => px_ia 160 w
  | 52 => px_ia 7 w
  | 53 => px_ia 7 w
  | 54 => px_ia 49 w
  | 55 => px_ia 7 w
  | 56 => px_ia 49 w
  | 57 => px_ia 49 w
  | 58 => px_ia 49 w
  | 59 => px_ia 7 w
  | 60 => px_ia 128 w
  | 61 => px_ia 896 w
  | 62 => px_ia 128 w
  | 63 => px_ia 49 w
  | 64 => px_ia 7 w
  | 65 => px_ia 7 w
  | 66 => px_za 4 w
  | 67 => px_ia 4 w
  | 68 => px_ia 4 w
  | 69 => px_ia 160 w
  | k => if k % 2 = 0 then px_text k w else px_code w
theorem c0 (w : Nat → Int32) : px_cell 0 w = .inl (5, px_f0 w) := rfl
theorem c2 (w : Nat → Int32) : px_cell 2 w = px_ia 7 w := rfl
theorem c3 (w : Nat → Int32) : px_cell 3 w = px_ia 7 w := rfl
theorem c4 (w : Nat → Int32) : px_cell 4 w = px_ia 49 w := rfl
theorem c5 (w : Nat → Int32) : px_cell 5 w = px_ia 7 w := rfl
theorem c7 (w : Nat → Int32) : px_cell 7 w = px_ia 7 w := rfl
theorem c8 (w : Nat → Int32) : px_cell 8 w = px_ia 7 w := rfl
theorem c9 (w : Nat → Int32) : px_cell 9 w = px_ia 49 w := rfl
theorem c10 (w : Nat → Int32) : px_cell 10 w = px_ia 7 w := rfl
theorem c11 (w : Nat → Int32) : px_cell 11 w = .inl (1, px_f11 w) := rfl
theorem c13 (w : Nat → Int32) : px_cell 13 w = px_ia 7 w := rfl
theorem c14 (w : Nat → Int32) : px_cell 14 w = px_ia 7 w := rfl
theorem c15 (w : Nat → Int32) : px_cell 15 w = px_ia 49 w := rfl
theorem c16 (w : Nat → Int32) : px_cell 16 w = px_ia 7 w := rfl
theorem c19 (w : Nat → Int32) : px_cell 19 w = px_ia 6 w := rfl
theorem c20 (w : Nat → Int32) : px_cell 20 w = px_ia 160 w := rfl
theorem c21 (w : Nat → Int32) : px_cell 21 w = px_ia 49 w := rfl
theorem c22 (w : Nat → Int32) : px_cell 22 w = px_ia 7 w := rfl
theorem c23 (w : Nat → Int32) : px_cell 23 w = px_ia 7 w := rfl
theorem c24 (w : Nat → Int32) : px_cell 24 w = px_ia 896 w := rfl
theorem c25 (w : Nat → Int32) : px_cell 25 w = px_ia 128 w := rfl
theorem c26 (w : Nat → Int32) : px_cell 26 w = px_ia 128 w := rfl
theorem c27 (w : Nat → Int32) : px_cell 27 w = px_ia 35 w := rfl
theorem c28 (w : Nat → Int32) : px_cell 28 w = px_ia 7 w := rfl
theorem c29 (w : Nat → Int32) : px_cell 29 w = px_ia 3 w := rfl
theorem c30 (w : Nat → Int32) : px_cell 30 w = px_ia 3 w := rfl
theorem c31 (w : Nat → Int32) : px_cell 31 w = .inl (2, px_f31 w) := rfl
theorem c32 (w : Nat → Int32) : px_cell 32 w = px_ia 160 w := rfl
theorem c33 (w : Nat → Int32) : px_cell 33 w = px_ia 160 w := rfl
theorem c34 (w : Nat → Int32) : px_cell 34 w = px_ia 160 w := rfl
theorem c35 (w : Nat → Int32) : px_cell 35 w = px_ia 160 w := rfl
theorem c39 (w : Nat → Int32) : px_cell 39 w = px_ia 40 w := rfl
theorem c41 (w : Nat → Int32) : px_cell 41 w = px_ia 40 w := rfl
theorem c43 (w : Nat → Int32) : px_cell 43 w = px_ia 40 w := rfl
theorem c45 (w : Nat → Int32) : px_cell 45 w = px_ia 40 w := rfl
theorem c48 (w : Nat → Int32) : px_cell 48 w = .inl (6, px_f48 w) := rfl
theorem c49 (w : Nat → Int32) : px_cell 49 w = px_ia 960 w := rfl
theorem c50 (w : Nat → Int32) : px_cell 50 w = px_ia 6 w := rfl
theorem c51 (w : Nat → Int32) : px_cell 51 w = px_ia 160 w := rfl
theorem c52 (w : Nat → Int32) : px_cell 52 w = px_ia 7 w := rfl
theorem c53 (w : Nat → Int32) : px_cell 53 w = px_ia 7 w := rfl
theorem c54 (w : Nat → Int32) : px_cell 54 w = px_ia 49 w := rfl
theorem c55 (w : Nat → Int32) : px_cell 55 w = px_ia 7 w := rfl
theorem c56 (w : Nat → Int32) : px_cell 56 w = px_ia 49 w := rfl
theorem c57 (w : Nat → Int32) : px_cell 57 w = px_ia 49 w := rfl
theorem c58 (w : Nat → Int32) : px_cell 58 w = px_ia 49 w := rfl
theorem c59 (w : Nat → Int32) : px_cell 59 w = px_ia 7 w := rfl
theorem c60 (w : Nat → Int32) : px_cell 60 w = px_ia 128 w := rfl
theorem c61 (w : Nat → Int32) : px_cell 61 w = px_ia 896 w := rfl
theorem c62 (w : Nat → Int32) : px_cell 62 w = px_ia 128 w := rfl
theorem c63 (w : Nat → Int32) : px_cell 63 w = px_ia 49 w := rfl
theorem c64 (w : Nat → Int32) : px_cell 64 w = px_ia 7 w := rfl
theorem c65 (w : Nat → Int32) : px_cell 65 w = px_ia 7 w := rfl
theorem c67 (w : Nat → Int32) : px_cell 67 w = px_ia 4 w := rfl
theorem c68 (w : Nat → Int32) : px_cell 68 w = px_ia 4 w := rfl
theorem c69 (w : Nat → Int32) : px_cell 69 w = px_ia 160 w := rfl
theorem c66 (w : Nat → Int32) : px_cell 66 w = px_za 4 w := rfl
theorem s0_6 (w : Nat → Int32) (x : Int32) : px_cell 0 (upd w 6 x) = .inl (5, (px_f0 w).set 6 (.int x)) := rfl
theorem s0_7 (w : Nat → Int32) (x : Int32) : px_cell 0 (upd w 7 x) = .inl (5, (px_f0 w).set 7 (.int x)) := rfl
theorem s11_4 (w : Nat → Int32) (x : Int32) : px_cell 11 (upd w 4 x) = .inl (1, (px_f11 w).set 4 (.int x)) := rfl
theorem s11_12 (w : Nat → Int32) (x : Int32) : px_cell 11 (upd w 12 x) = .inl (1, (px_f11 w).set 12 (.int x)) := rfl
theorem s31_1 (w : Nat → Int32) (x : Int32) : px_cell 31 (upd w 1 x) = .inl (2, (px_f31 w).set 1 (.int x)) := rfl
theorem s31_4 (w : Nat → Int32) (x : Int32) : px_cell 31 (upd w 4 x) = .inl (2, (px_f31 w).set 4 (.int x)) := rfl
theorem s31_5 (w : Nat → Int32) (x : Int32) : px_cell 31 (upd w 5 x) = .inl (2, (px_f31 w).set 5 (.int x)) := rfl
theorem s31_7 (w : Nat → Int32) (x : Int32) : px_cell 31 (upd w 7 x) = .inl (2, (px_f31 w).set 7 (.int x)) := rfl
theorem s48_0 (w : Nat → Int32) (x : Int32) : px_cell 48 (upd w 0 x) = .inl (6, (px_f48 w).set 0 (.int x)) := rfl
theorem s48_3 (w : Nat → Int32) (x : Int32) : px_cell 48 (upd w 3 x) = .inl (6, (px_f48 w).set 3 (.int x)) := rfl
theorem s48_4 (w : Nat → Int32) (x : Int32) : px_cell 48 (upd w 4 x) = .inl (6, (px_f48 w).set 4 (.int x)) := rfl
theorem s48_6 (w : Nat → Int32) (x : Int32) : px_cell 48 (upd w 6 x) = .inl (6, (px_f48 w).set 6 (.int x)) := rfl
theorem s48_11 (w : Nat → Int32) (x : Int32) : px_cell 48 (upd w 11 x) = .inl (6, (px_f48 w).set 11 (.int x)) := rfl
theorem s48_12 (w : Nat → Int32) (x : Int32) : px_cell 48 (upd w 12 x) = .inl (6, (px_f48 w).set 12 (.int x)) := rfl
theorem s48_13 (w : Nat → Int32) (x : Int32) : px_cell 48 (upd w 13 x) = .inl (6, (px_f48 w).set 13 (.int x)) := rfl
theorem s48_14 (w : Nat → Int32) (x : Int32) : px_cell 48 (upd w 14 x) = .inl (6, (px_f48 w).set 14 (.int x)) := rfl
theorem s48_15 (w : Nat → Int32) (x : Int32) : px_cell 48 (upd w 15 x) = .inl (6, (px_f48 w).set 15 (.int x)) := rfl
theorem s48_16 (w : Nat → Int32) (x : Int32) : px_cell 48 (upd w 16 x) = .inl (6, (px_f48 w).set 16 (.int x)) := rfl
theorem s48_17 (w : Nat → Int32) (x : Int32) : px_cell 48 (upd w 17 x) = .inl (6, (px_f48 w).set 17 (.int x)) := rfl
theorem s48_18 (w : Nat → Int32) (x : Int32) : px_cell 48 (upd w 18 x) = .inl (6, (px_f48 w).set 18 (.int x)) := rfl
theorem s48_19 (w : Nat → Int32) (x : Int32) : px_cell 48 (upd w 19 x) = .inl (6, (px_f48 w).set 19 (.int x)) := rfl
theorem s48_20 (w : Nat → Int32) (x : Int32) : px_cell 48 (upd w 20 x) = .inl (6, (px_f48 w).set 20 (.int x)) := rfl
theorem s48_21 (w : Nat → Int32) (x : Int32) : px_cell 48 (upd w 21 x) = .inl (6, (px_f48 w).set 21 (.int x)) := rfl
theorem s48_22 (w : Nat → Int32) (x : Int32) : px_cell 48 (upd w 22 x) = .inl (6, (px_f48 w).set 22 (.int x)) := rfl
theorem s48_23 (w : Nat → Int32) (x : Int32) : px_cell 48 (upd w 23 x) = .inl (6, (px_f48 w).set 23 (.int x)) := rfl
theorem s48_24 (w : Nat → Int32) (x : Int32) : px_cell 48 (upd w 24 x) = .inl (6, (px_f48 w).set 24 (.int x)) := rfl
theorem s48_25 (w : Nat → Int32) (x : Int32) : px_cell 48 (upd w 25 x) = .inl (6, (px_f48 w).set 25 (.int x)) := rfl
theorem s48_26 (w : Nat → Int32) (x : Int32) : px_cell 48 (upd w 26 x) = .inl (6, (px_f48 w).set 26 (.int x)) := rfl
theorem s48_27 (w : Nat → Int32) (x : Int32) : px_cell 48 (upd w 27 x) = .inl (6, (px_f48 w).set 27 (.long x.toInt64)) := rfl
theorem s48_28 (w : Nat → Int32) (x : Int32) : px_cell 48 (upd w 28 x) = .inl (6, (px_f48 w).set 28 (.int x)) := rfl
theorem s48_29 (w : Nat → Int32) (x : Int32) : px_cell 48 (upd w 29 x) = .inl (6, (px_f48 w).set 29 (.int x)) := rfl
theorem s48_30 (w : Nat → Int32) (x : Int32) : px_cell 48 (upd w 30 x) = .inl (6, (px_f48 w).set 30 (.int x)) := rfl
theorem s48_31 (w : Nat → Int32) (x : Int32) : px_cell 48 (upd w 31 x) = .inl (6, (px_f48 w).set 31 (.int x)) := rfl
theorem s48_35 (w : Nat → Int32) (x : Int32) : px_cell 48 (upd w 35 x) = .inl (6, (px_f48 w).set 35 (.int x)) := rfl
theorem s48_36 (w : Nat → Int32) (x : Int32) : px_cell 48 (upd w 36 x) = .inl (6, (px_f48 w).set 36 (.int x)) := rfl
theorem s48_37 (w : Nat → Int32) (x : Int32) : px_cell 48 (upd w 37 x) = .inl (6, (px_f48 w).set 37 (.int x)) := rfl
theorem s48_42 (w : Nat → Int32) (x : Int32) : px_cell 48 (upd w 42 x) = .inl (6, (px_f48 w).set 42 (.int x)) := rfl
theorem s48_43 (w : Nat → Int32) (x : Int32) : px_cell 48 (upd w 43 x) = .inl (6, (px_f48 w).set 43 (.int x)) := rfl
theorem s48_44 (w : Nat → Int32) (x : Int32) : px_cell 48 (upd w 44 x) = .inl (6, (px_f48 w).set 44 (.int x)) := rfl
theorem s48_48 (w : Nat → Int32) (x : Int32) : px_cell 48 (upd w 48 x) = .inl (6, (px_f48 w).set 48 (.int x)) := rfl
theorem s48_49 (w : Nat → Int32) (x : Int32) : px_cell 48 (upd w 49 x) = .inl (6, (px_f48 w).set 49 (.int x)) := rfl
theorem s48_50 (w : Nat → Int32) (x : Int32) : px_cell 48 (upd w 50 x) = .inl (6, (px_f48 w).set 50 (.int x)) := rfl
theorem s48_51 (w : Nat → Int32) (x : Int32) : px_cell 48 (upd w 51 x) = .inl (6, (px_f48 w).set 51 (.int x)) := rfl
theorem s48_52 (w : Nat → Int32) (x : Int32) : px_cell 48 (upd w 52 x) = .inl (6, (px_f48 w).set 52 (.int x)) := rfl
theorem s48_53 (w : Nat → Int32) (x : Int32) : px_cell 48 (upd w 53 x) = .inl (6, (px_f48 w).set 53 (.int x)) := rfl
theorem s11_1 (w : Nat → Int32) (x : Int32) : px_cell 11 (upd w 1 x) = .inl (1, (px_f11 w).set 1 (.ref x.toNatClampNeg)) := rfl
abbrev px_isH (a : Nat) : Prop := a = 1 ∨ a = 6 ∨ a = 12
abbrev px_isS (a : Nat) : Prop := a = 38 ∨ a = 40 ∨ a = 42 ∨ a = 44
abbrev px_isT (T a : Nat) : Prop := a = 17 ∨ a = 46 ∨ (70 ≤ a ∧ a < 70 + 2 * T ∧ a % 2 = 0)
theorem cH {a : Nat} (ha : px_isH a) (w : Nat → Int32) : px_cell a w = px_house a w := by rcases ha with rfl | rfl | rfl <;> rfl
theorem cH1 {a : Nat} (ha : px_isH a) (w : Nat → Int32) : px_cell (a + 1) w = px_ia 7 w := by rcases ha with rfl | rfl | rfl <;> rfl
theorem cH2 {a : Nat} (ha : px_isH a) (w : Nat → Int32) : px_cell (a + 2) w = px_ia 7 w := by rcases ha with rfl | rfl | rfl <;> rfl
theorem cH3 {a : Nat} (ha : px_isH a) (w : Nat → Int32) : px_cell (a + 3) w = px_ia 49 w := by rcases ha with rfl | rfl | rfl <;> rfl
theorem cH4 {a : Nat} (ha : px_isH a) (w : Nat → Int32) : px_cell (a + 4) w = px_ia 7 w := by rcases ha with rfl | rfl | rfl <;> rfl
theorem sH_4 {a : Nat} (ha : px_isH a) (w : Nat → Int32) (x : Int32) : px_cell a (upd w 4 x) = .inl (0, ([.ref (a + 1), .ref (a + 2), .ref (a + 3), .ref (a + 4), .int (w 4), .int (w 5), .int (w 6), .int (w 7), .int (w 8), .int (w 9)] : List Value).set 4 (.int x)) := by rcases ha with rfl | rfl | rfl <;> rfl
theorem sH_5 {a : Nat} (ha : px_isH a) (w : Nat → Int32) (x : Int32) : px_cell a (upd w 5 x) = .inl (0, ([.ref (a + 1), .ref (a + 2), .ref (a + 3), .ref (a + 4), .int (w 4), .int (w 5), .int (w 6), .int (w 7), .int (w 8), .int (w 9)] : List Value).set 5 (.int x)) := by rcases ha with rfl | rfl | rfl <;> rfl
theorem sH_6 {a : Nat} (ha : px_isH a) (w : Nat → Int32) (x : Int32) : px_cell a (upd w 6 x) = .inl (0, ([.ref (a + 1), .ref (a + 2), .ref (a + 3), .ref (a + 4), .int (w 4), .int (w 5), .int (w 6), .int (w 7), .int (w 8), .int (w 9)] : List Value).set 6 (.int x)) := by rcases ha with rfl | rfl | rfl <;> rfl
theorem sH_7 {a : Nat} (ha : px_isH a) (w : Nat → Int32) (x : Int32) : px_cell a (upd w 7 x) = .inl (0, ([.ref (a + 1), .ref (a + 2), .ref (a + 3), .ref (a + 4), .int (w 4), .int (w 5), .int (w 6), .int (w 7), .int (w 8), .int (w 9)] : List Value).set 7 (.int x)) := by rcases ha with rfl | rfl | rfl <;> rfl
theorem sH_8 {a : Nat} (ha : px_isH a) (w : Nat → Int32) (x : Int32) : px_cell a (upd w 8 x) = .inl (0, ([.ref (a + 1), .ref (a + 2), .ref (a + 3), .ref (a + 4), .int (w 4), .int (w 5), .int (w 6), .int (w 7), .int (w 8), .int (w 9)] : List Value).set 8 (.int x)) := by rcases ha with rfl | rfl | rfl <;> rfl
theorem sH_9 {a : Nat} (ha : px_isH a) (w : Nat → Int32) (x : Int32) : px_cell a (upd w 9 x) = .inl (0, ([.ref (a + 1), .ref (a + 2), .ref (a + 3), .ref (a + 4), .int (w 4), .int (w 5), .int (w 6), .int (w 7), .int (w 8), .int (w 9)] : List Value).set 9 (.int x)) := by rcases ha with rfl | rfl | rfl <;> rfl
theorem cS {a : Nat} (ha : px_isS a) (w : Nat → Int32) : px_cell a w = px_sheet a w := by rcases ha with rfl | rfl | rfl | rfl <;> rfl
theorem cS1 {a : Nat} (ha : px_isS a) (w : Nat → Int32) : px_cell (a + 1) w = px_ia 40 w := by rcases ha with rfl | rfl | rfl | rfl <;> rfl
theorem sS_1 {a : Nat} (ha : px_isS a) (w : Nat → Int32) (x : Int32) : px_cell a (upd w 1 x) = .inl (3, ([.ref (a + 1), .int (w 1), .int (w 2)] : List Value).set 1 (.int x)) := by rcases ha with rfl | rfl | rfl | rfl <;> rfl
theorem sS_2 {a : Nat} (ha : px_isS a) (w : Nat → Int32) (x : Int32) : px_cell a (upd w 2 x) = .inl (3, ([.ref (a + 1), .int (w 1), .int (w 2)] : List Value).set 2 (.int x)) := by rcases ha with rfl | rfl | rfl | rfl <;> rfl
theorem px_cell_hi (k : Nat) (w : Nat → Int32) : px_cell (k + 70) w = if (k + 70) % 2 = 0 then px_text (k + 70) w else px_code w := rfl
theorem cT {T a : Nat} (ha : px_isT T a) (w : Nat → Int32) : px_cell a w = px_text a w := by
  rcases ha with rfl | rfl | ⟨h1, h2, h3⟩
  · rfl
  · rfl
  · obtain ⟨k, rfl⟩ : ∃ k, a = k + 70 := ⟨a - 70, by omega⟩
    rw [px_cell_hi, if_pos h3]
theorem cT1 {T a : Nat} (ha : px_isT T a) (w : Nat → Int32) : px_cell (a + 1) w = px_code w := by
  rcases ha with rfl | rfl | ⟨h1, h2, h3⟩
  · rfl
  · rfl
  · obtain ⟨k, rfl⟩ : ∃ k, a = k + 70 := ⟨a - 70, by omega⟩
    rw [show k + 70 + 1 = (k + 1) + 70 by omega, px_cell_hi, if_neg (by omega)]
abbrev px_S : Type := Nat → Nat → Int32
def px_n (T : Nat) : Nat := 70 + 2 * T
def HP (T : Nat) (st : px_S) : List px_C := (List.range (px_n T)).map (fun k => px_cell k (st k))
def upr (st : px_S) (a : Nat) (w : Nat → Int32) : px_S := fun b => if b = a then w else st b
def up (st : px_S) (a j : Nat) (x : Int32) : px_S := upr st a (upd (st a) j x)
theorem hp_len (T : Nat) (st : px_S) : (HP T st).length = px_n T := by simp [HP]
theorem hp_get {T a : Nat} (st : px_S) (ha : a < px_n T) : (HP T st)[a]? = some (px_cell a (st a)) := by
  simp [HP, List.getElem?_map, List.getElem?_range ha]
theorem px_map_set (f : Nat → (Nat → Int32) → px_C) (N : Nat) (st : px_S) (a : Nat) (w : Nat → Int32) : ((List.range N).map (fun k => f k (st k))).set a (f a w) = (List.range N).map (fun k => f k (upr st a w k)) := by
  apply List.ext_getElem?
  intro i
  rw [List.getElem?_set]
  by_cases hl : i < N
  · have e1 : ((List.range N).map (fun k => f k (upr st a w k)))[i]? = some (f i (upr st a w i)) := by rw [List.getElem?_map, List.getElem?_range hl]; rfl
    have e2 : ((List.range N).map (fun k => f k (st k)))[i]? = some (f i (st i)) := by rw [List.getElem?_map, List.getElem?_range hl]; rfl
    have e3 : ((List.range N).map (fun k => f k (st k))).length = N := by rw [List.length_map, List.length_range]
    rw [e1, e2, e3]
    by_cases hi : a = i
    · subst hi
      rw [if_pos rfl, if_pos hl]
      simp only [upr, if_true]
    · rw [if_neg hi]
      have e : upr st a w i = st i := by simp only [upr, Ne.symm hi, if_false]
      rw [e]
  · have e1 : ((List.range N).map (fun k => f k (upr st a w k)))[i]? = none := List.getElem?_eq_none (by rw [List.length_map, List.length_range]; omega)
    have e2 : ((List.range N).map (fun k => f k (st k)))[i]? = none := List.getElem?_eq_none (by rw [List.length_map, List.length_range]; omega)
    have e3 : ((List.range N).map (fun k => f k (st k))).length = N := by rw [List.length_map, List.length_range]
    rw [e1, e2, e3]
    by_cases hi : a = i
    · rw [if_pos hi, if_neg (by omega)]
    · rw [if_neg hi]
theorem hp_set (T : Nat) (st : px_S) {a : Nat} {w : Nat → Int32} {c : px_C} (hc : px_cell a w = c) : (HP T st).set a c = HP T (upr st a w) := by
  rw [← hc]
  exact px_map_set px_cell (px_n T) st a w
theorem px_nm_upd {n i : Nat} (w : Nat → Int32) (x : Int32) (hi : i < n) : upd (px_nm n w) i x = px_nm n (upd w i x) := by
  funext j
  by_cases hj : j = i
  · subst hj; simp [upd, px_nm, hi]
  · simp [upd, px_nm, hj]
abbrev px_in (i : Int32) (n : Nat) : Prop := 0 ≤ i ∧ i.toNatClampNeg < n
theorem px_in_vp {i : Int32} {n : Nat} (h : px_in i n) : vp_in i n := by
  rintro (q | q)
  · exact Int32.not_lt.mpr h.1 q
  · exact absurd h.2 (Nat.not_lt.mpr q)
theorem px_nm_at {n i : Nat} (w : Nat → Int32) (hi : i < n) : px_nm n w i = w i := by simp [px_nm, hi]
def px_gi (T : Nat) (b : Int32 × px_S) : Option Value × List px_C := (some (.int b.1), HP T b.2)
def px_gl (T : Nat) (b : Int64 × px_S) : Option Value × List px_C := (some (.long b.1), HP T b.2)
def px_gv (T : Nat) (b : px_S) : Option Value × List px_C := (none, HP T b)
def px_gr (T a : Nat) (b : px_S) : Option Value × List px_C := (some (.ref a), HP T b)
def px_g0 (h : List px_C) (b : Int32) : Option Value × List px_C := (some (.int b), h)
/-- fewer locals known -/
def px_le : List (Option Value) → List (Option Value) → Prop
  | [], _ => True
  | none :: a, [] => px_le a []
  | some _ :: _, [] => False
  | none :: a, _ :: b => px_le a b
  | some v :: a, o :: b => o = some v ∧ px_le a b
theorem px_le_at : ∀ (a b : List (Option Value)) (i : Nat) (v : Value), px_le a b → a[i]? = some (some v) → b[i]? = some (some v)
  | [], _, _, _, _, h => by simp at h
  | none :: a, [], 0, _, _, h => by simp at h
  | none :: a, [], i + 1, v, hl, h => by
    have := px_le_at a [] i v hl (by simpa using h)
    simp at this
  | some _ :: _, [], _, _, hl, _ => by cases hl
  | none :: a, o :: b, 0, v, hl, h => by simp at h
  | none :: a, o :: b, i + 1, v, hl, h => by simpa using px_le_at a b i v hl (by simpa using h)
  | some u :: a, o :: b, 0, v, hl, h => by simp at h; subst h; simpa using hl.1
  | some u :: a, o :: b, i + 1, v, hl, h => by simpa using px_le_at a b i v hl.2 (by simpa using h)
section PXH
variable {β : Type} {Z : px_Z} {g : β → Option Value × List px_C} {res A B : Option β} {pc idx : Nat} {L : List (Option Value)} {S S1 : List Value} {T : Nat} {st : px_S} {kc ks : Nat}
theorem o_weak {L' : List (Option Value)} {h : List px_C} (hl : px_le L' L) (K : px_O Z g res pc L' S h kc ks) : px_O Z g res pc L S h kc ks := by
  intro b hb p l e s m args below meth c D ty r0 adV r H locs ls C X Lc
  exact K b hb _ _ _ _ _ _ _ _ _ _ _ _ _ _ _ _ _ C X ⟨Lc.1, Lc.2.1, fun i v hv => Lc.2.2 i v (px_le_at _ _ i v hl hv)⟩
def px_PF (q : vw_C) (k : Nat) (ty : FieldType) : Prop := k < q.2.2 ∧ (q.2.1 k).2.2.2 = false ∧ parseFieldDescriptor (q.2.1 k).2.2.1 = some ty
variable {a ci k n : Nat} {fs : List Value} {q : vw_C}
theorem h_get {v : Value} (hd : decode Z.2.2.2.2.2.1 pc = .ok (.getfield idx, 3)) (hq : vwCl[ci]? = some q) (hl : px_FL Z.2.2.2.2.1.cls idx q k) (hk : k < q.2.2) (ha : a < px_n T) (hc : px_cell a (st a) = .inl (ci, fs)) (hv : fs[k]? = some v) (K : px_O Z g res (pc + 3) L (v :: S) (HP T st) kc ks) : px_O Z g res pc L (.ref a :: S) (HP T st) kc ks :=
  o_get hd hq hl hk (by rw [hp_get st ha, hc]) hv K
theorem h_puti {x : Int32} (hd : decode Z.2.2.2.2.2.1 pc = .ok (.putfield idx, 3)) (hq : vwCl[ci]? = some q) (hl : px_FL Z.2.2.2.2.1.cls idx q k) (hp : px_PF q k .int) (ha : a < px_n T) (hc : px_cell a (st a) = .inl (ci, fs)) (hlen : k < fs.length) (hs : px_cell a (upd (st a) k x) = .inl (ci, fs.set k (.int x))) (K : px_O Z g res (pc + 3) L S (HP T (up st a k x)) kc ks) : px_O Z g res pc L (.int x :: .ref a :: S) (HP T st) kc ks :=
  o_put hd hq hl hp.1 hp.2.1 hp.2.2 (fun _ => rfl) (fun _ => rfl) (by rw [hp_get st ha, hc]) hlen (hp_set T st hs) K
theorem h_putz {x : Int32} (hd : decode Z.2.2.2.2.2.1 pc = .ok (.putfield idx, 3)) (hq : vwCl[ci]? = some q) (hl : px_FL Z.2.2.2.2.1.cls idx q k) (hp : px_PF q k .boolean) (hx : x = 0 ∨ x = 1) (ha : a < px_n T) (hc : px_cell a (st a) = .inl (ci, fs)) (hlen : k < fs.length) (hs : px_cell a (upd (st a) k x) = .inl (ci, fs.set k (.int x))) (K : px_O Z g res (pc + 3) L S (HP T (up st a k x)) kc ks) : px_O Z g res pc L (.int x :: .ref a :: S) (HP T st) kc ks :=
  o_put hd hq hl hp.1 hp.2.1 hp.2.2 (fun _ => by rcases hx with rfl | rfl <;> rfl) (fun _ => by rcases hx with rfl | rfl <;> rfl) (by rw [hp_get st ha, hc]) hlen (hp_set T st hs) K
theorem h_putl {x : Int32} {v : Int64} (hv : x.toInt64 = v) (hd : decode Z.2.2.2.2.2.1 pc = .ok (.putfield idx, 3)) (hq : vwCl[ci]? = some q) (hl : px_FL Z.2.2.2.2.1.cls idx q k) (hp : px_PF q k .long) (ha : a < px_n T) (hc : px_cell a (st a) = .inl (ci, fs)) (hlen : k < fs.length) (hs : px_cell a (upd (st a) k x) = .inl (ci, fs.set k (.long x.toInt64))) (K : px_O Z g res (pc + 3) L S (HP T (up st a k x)) kc ks) : px_O Z g res pc L (.long v :: .ref a :: S) (HP T st) kc ks := by
  subst hv
  exact o_put hd hq hl hp.1 hp.2.1 hp.2.2 (fun _ => rfl) (fun _ => rfl) (by rw [hp_get st ha, hc]) hlen (hp_set T st hs) K
theorem h_putr {x : Int32} {C : String} (hd : decode Z.2.2.2.2.2.1 pc = .ok (.putfield idx, 3)) (hq : vwCl[ci]? = some q) (hl : px_FL Z.2.2.2.2.1.cls idx q k) (hp : px_PF q k (.object C)) (ha : a < px_n T) (hc : px_cell a (st a) = .inl (ci, fs)) (hlen : k < fs.length) (hs : px_cell a (upd (st a) k x) = .inl (ci, fs.set k (.ref x.toNatClampNeg))) (K : px_O Z g res (pc + 3) L S (HP T (up st a k x)) kc ks) : px_O Z g res pc L (.ref x.toNatClampNeg :: .ref a :: S) (HP T st) kc ks :=
  o_put hd hq hl hp.1 hp.2.1 hp.2.2 (fun _ => rfl) (fun _ => rfl) (by rw [hp_get st ha, hc]) hlen (hp_set T st hs) K
theorem h_ald {i : Int32} (hd : decode Z.2.2.2.2.2.1 pc = .ok (.iaload, 1)) (ha : a < px_n T) (hc : px_cell a (st a) = px_ia n (st a)) (hi : px_in i n) (K : px_O Z g res (pc + 1) L (.int (st a i.toNatClampNeg) :: S) (HP T st) kc ks) : px_O Z g res pc L (.int i :: .ref a :: S) (HP T st) kc ks :=
  o_iald (n := n) (f := px_nm n (st a)) hd (by rw [hp_get st ha, hc]) (px_in_vp hi) (by rw [px_nm_at _ hi.2]; exact K)
theorem h_iald {i : Int32} (hd : decode Z.2.2.2.2.2.1 pc = .ok (.iaload, 1)) (ha : a < px_n T) (hc : px_cell a (st a) = px_ia n (st a)) (K : px_in i n → px_O Z g A (pc + 1) L (.int (st a i.toNatClampNeg) :: S) (HP T st) kc ks) : px_O Z g (if px_in i n then A else none) pc L (.int i :: .ref a :: S) (HP T st) kc ks :=
  o_ite (fun hi => h_ald hd ha hc hi (K hi)) (fun _ => o_none)
theorem h_ast {i x : Int32} (hd : decode Z.2.2.2.2.2.1 pc = .ok (.iastore, 1)) (ha : a < px_n T) (hc : ∀ w, px_cell a w = px_ia n w) (hi : px_in i n) (K : px_O Z g res (pc + 1) L S (HP T (up st a i.toNatClampNeg x)) kc ks) : px_O Z g res pc L (.int x :: .int i :: .ref a :: S) (HP T st) kc ks :=
  o_iast (n := n) (f := px_nm n (st a)) hd (by rw [hp_get st ha, hc]) (px_in_vp hi) (hp_set T st (w := upd (st a) i.toNatClampNeg x) (by rw [hc, px_nm_upd _ _ hi.2])) K
theorem h_iast {i x : Int32} (hd : decode Z.2.2.2.2.2.1 pc = .ok (.iastore, 1)) (ha : a < px_n T) (hc : ∀ w, px_cell a w = px_ia n w) (K : px_in i n → px_O Z g A (pc + 1) L S (HP T (up st a i.toNatClampNeg x)) kc ks) : px_O Z g (if px_in i n then A else none) pc L (.int x :: .int i :: .ref a :: S) (HP T st) kc ks :=
  o_ite (fun hi => h_ast hd ha hc hi (K hi)) (fun _ => o_none)
theorem h_zald {i : Int32} (hd : decode Z.2.2.2.2.2.1 pc = .ok (.baload, 1)) (ha : a < px_n T) (hc : px_cell a (st a) = px_za n (st a)) (K : px_in i n → px_O Z g A (pc + 1) L (.int (st a i.toNatClampNeg) :: S) (HP T st) kc ks) : px_O Z g (if px_in i n then A else none) pc L (.int i :: .ref a :: S) (HP T st) kc ks :=
  o_ite (fun hi => o_zald (n := n) (f := px_nm n (st a)) hd (by rw [hp_get st ha, hc]) (px_in_vp hi) (by rw [px_nm_at _ hi.2]; exact K hi)) (fun _ => o_none)
theorem h_zast {i x : Int32} (hd : decode Z.2.2.2.2.2.1 pc = .ok (.bastore, 1)) (ha : a < px_n T) (hc : ∀ w, px_cell a w = px_za n w) (hx : vp_nar .boolean x = x) (K : px_in i n → px_O Z g A (pc + 1) L S (HP T (up st a i.toNatClampNeg x)) kc ks) : px_O Z g (if px_in i n then A else none) pc L (.int x :: .int i :: .ref a :: S) (HP T st) kc ks :=
  o_ite (fun hi => o_zast (n := n) (f := px_nm n (st a)) hd (by rw [hp_get st ha, hc]) (px_in_vp hi) (hp_set T st (w := upd (st a) i.toNatClampNeg x) (by rw [hc, hx, px_nm_upd _ _ hi.2])) (K hi)) (fun _ => o_none)
theorem h_alen {v : Int32} (hd : decode Z.2.2.2.2.2.1 pc = .ok (.arraylength, 1)) (ha : a < px_n T) (hc : px_cell a (st a) = px_ia n (st a)) (hv : Int32.ofNat n = v) (K : px_O Z g res (pc + 1) L (.int v :: S) (HP T st) kc ks) : px_O Z g res pc L (.ref a :: S) (HP T st) kc ks :=
  o_alen (Or.inl rfl) hd (by rw [hp_get st ha, hc]) hv K
/-- sheets[i] -/
theorem h_sald {i : Int32} (hd : decode Z.2.2.2.2.2.1 pc = .ok (.aaload, 1)) (K : px_in i 4 → px_isS (38 + 2 * i.toNatClampNeg) → px_O Z g A (pc + 1) L (.ref (38 + 2 * i.toNatClampNeg) :: S) (HP T st) kc ks) : px_O Z g (if px_in i 4 then A else none) pc L (.int i :: .ref 37 :: S) (HP T st) kc ks :=
  o_ite (fun hi => o_aald (v := .ref (38 + 2 * i.toNatClampNeg)) (Or.inr rfl) hd (by rw [hp_get st (by unfold px_n; omega)]; rfl) (px_in_vp hi) (by simp [hi.2, va_rf]) (K hi (by have := hi.2; unfold px_isS; omega))) (fun _ => o_none)
/-- texts[i] -/
theorem h_tald {i : Int32} (hd : decode Z.2.2.2.2.2.1 pc = .ok (.aaload, 1)) (K : px_in i 6 → ∀ x, x = st 36 i.toNatClampNeg → px_O Z g A (pc + 1) L (va_rf (px_on x) :: S) (HP T st) kc ks) : px_O Z g (if px_in i 6 then A else none) pc L (.int i :: .ref 36 :: S) (HP T st) kc ks :=
  o_ite (fun hi => o_aald (v := va_rf (px_on (st 36 i.toNatClampNeg))) (Or.inl rfl) hd (by rw [hp_get st (by unfold px_n; omega)]; rfl) (px_in_vp hi) (by simp [hi.2]) (K hi _ rfl)) (fun _ => o_none)
theorem px_nm_cpy {n sp dp m : Nat} (w w1 : Nat → Int32) {n1 : Nat} (h1 : sp + m ≤ n) (h2 : dp + m ≤ n1) : va_cpy (px_nm n w) (px_nm n1 w1) sp dp m = px_nm n1 (va_cpy w w1 sp dp m) := by
  funext j
  simp only [va_cpy, px_nm]
  by_cases hj : dp ≤ j ∧ j < dp + m
  · rw [if_pos hj, if_pos hj, if_pos (by omega), if_pos (by omega)]
  · rw [if_neg hj, if_neg hj]
theorem h_copy {a0 n0 n1 : Nat} {sp dp m : Int32} (hd : decode Z.2.2.2.2.2.1 pc = .ok (.invokestatic idx, 3)) (w1 : Cond.methodLink Z.2.2.2.2.1.cls idx arraycopyName ∈ px_T) (w2 : Cond.native arraycopyName ∈ px_T) (w3 : Cond.static arraycopyName ∈ px_T) (w4 : Cond.initialized "java/lang/System" ∈ px_T) (ha0 : a0 < px_n T) (ha : a < px_n T) (hc0 : px_cell a0 (st a0) = px_ia n0 (st a0)) (hc1 : ∀ w, px_cell a w = px_ia n1 w) (hz : 1 ≤ Z.1) (hw : (S.map fun v => v.category).sum ≤ 8) (K : px_O Z g A (pc + 3) L S (HP T (upr st a (va_cpy (st a0) (st a) sp.toNatClampNeg dp.toNatClampNeg m.toNatClampNeg))) kc ks) : px_O Z g (if (¬ sp < 0 ∧ ¬ dp < 0 ∧ ¬ m < 0) ∧ sp.toNatClampNeg + m.toNatClampNeg ≤ n0 ∧ dp.toNatClampNeg + m.toNatClampNeg ≤ n1 then A else none) pc L (.int m :: .int dp :: .ref a :: .int sp :: .ref a0 :: S) (HP T st) kc ks :=
  o_ite (fun q => o_copy (n0 := n0) (n1 := n1) hd w1 w2 w3 w4 (by rw [hp_get st ha0, hc0]) (by rw [hp_get st ha, hc1]) q.1.1 q.1.2.1 q.1.2.2 q.2.1 q.2.2 hz hw (hp_set T st (by rw [hc1, px_nm_cpy _ _ q.2.1 q.2.2])) K) (fun _ => o_none)
end PXH
theorem px_KofH {β : Type} {g : β → Option Value × List px_C} {f : Option β} {b : β} {d mc ms n T : Nat} {st : px_S} {M : px_M} {as : List Value} {L : List (Option Value)} (hf : f = some b) (hm : px_MF M n) (hn : (px_ex as).length ≤ M.2.2.1) (hL : px_ex as ++ List.replicate (M.2.2.1 - (px_ex as).length) none = L) (K : px_O (d, mc, ms, px_n T, M) g f 0 L [] (HP T st) 0 0) : px_K d mc ms M as (HP T st) (g b).1 (g b).2 :=
  px_Kof hf hm hn hL (by rw [hp_len]; exact K)
theorem px_lt {T a : Nat} (h : a < 70) : a < px_n T := by unfold px_n; omega
theorem px_ltH {T a : Nat} (j : Nat) (hj : j < 5) (h : px_isH a) : a + j < px_n T := by unfold px_n; unfold px_isH at h; omega
theorem px_ltS {T a : Nat} (j : Nat) (hj : j < 2) (h : px_isS a) : a + j < px_n T := by unfold px_n; unfold px_isS at h; omega
theorem px_ltT {T a : Nat} (j : Nat) (hj : j < 2) (h : px_isT T a) : a + j < px_n T := by unfold px_n; unfold px_isT at h; omega
end
section
theorem px_Tm {w : Cond} (i : Nat) (h : tables_1[i]? = some w) (hg : goodWord w = true) : w ∈ px_T := List.mem_filter.mpr ⟨List.mem_append_right _ (List.mem_of_getElem? h), hg⟩
theorem px_Ts {w : Cond} (i : Nat) (h : (k2_sels lw_privs)[i]? = some w) (hg : goodWord w = true) : w ∈ px_T := List.mem_filter.mpr ⟨List.mem_append_left _ (List.mem_of_getElem? h), hg⟩
theorem px_Tn {w : Cond} (i : Nat) (h : tables_1[i]? = some w) (hg : px_isNest w = true) : w ∈ px_Nt := List.mem_filter.mpr ⟨List.mem_of_getElem? h, hg⟩
abbrev Q0 : vw_C := (RX0, TX0, 10)
abbrev Q1 : vw_C := (RX1, TX1, 16)
abbrev Q2 : vw_C := (RX2, TX2, 8)
abbrev Q3 : vw_C := (RX3, TX3, 3)
abbrev Q4 : vw_C := (RX4, TX4, 3)
abbrev Q5 : vw_C := (RX5, TX5, 8)
abbrev Q6 : vw_C := (RX6, TX6, 58)
theorem q0 : vwCl[0]? = some Q0 := rfl
theorem q1 : vwCl[1]? = some Q1 := rfl
theorem q2 : vwCl[2]? = some Q2 := rfl
theorem q3 : vwCl[3]? = some Q3 := rfl
theorem q4 : vwCl[4]? = some Q4 := rfl
theorem q5 : vwCl[5]? = some Q5 := rfl
theorem q6 : vwCl[6]? = some Q6 := rfl
theorem hp_at {T a : Nat} {st : px_S} {c : px_C} (ha : a < px_n T) (hc : px_cell a (st a) = c) : (HP T st)[a]? = some c := by rw [hp_get st ha, hc]
theorem px_ite_some {α : Type} (c : Prop) {i : Decidable c} (a b : α) : (if c then some a else some b) = some (if c then a else b) := by split <;> rfl
/-- what an instance method's call rests on -/
def px_MV (M : px_M) : Prop := Cond.instanceMethod M.1 ∈ px_T ∧ Cond.selects M.1.cls M.1 M.1 ∈ px_T
section PXQ
variable {β : Type} {Z : px_Z} {g : β → Option Value × List px_C} {res A B : Option β} {pc idx : Nat} {L : List (Option Value)} {S S1 : List Value} {T : Nat} {st : px_S} {h : List px_C}
variable {M' : px_M} {n d' : Nat} {as : List Value}
theorem h_cVi {x : Option (Int32 × px_S)} {F : Int32 × px_S → Option β} (hd : decode Z.2.2.2.2.2.1 pc = .ok (.invokevirtual idx, 3)) (hm : px_MF M' n) (hl : Cond.methodLink Z.2.2.2.2.1.cls idx M'.1 ∈ px_T) (hv : px_MV M') {a ci : Nat} {fs : List Value} {q : vw_C} (hq : vwCl[ci]? = some q) (hqc : q.1 = M'.1.cls) (hc : (HP T st)[a]? = some (.inl (ci, fs))) (hn : as.length = n) (hdd : d' + 1 ≤ Z.1) (hS : S = as.reverse ++ .ref a :: S1) (hw : (S1.map fun v => v.category).sum ≤ 8) (hK : ∀ b, x = some b → px_K d' 0 0 M' (.ref a :: as) (HP T st) (px_gi T b).1 (px_gi T b).2) (K : ∀ b, x = some b → px_O Z g (F b) (pc + 3) L (.int b.1 :: S1) (HP T b.2) 0 0) : px_O Z g (x.bind F) pc L S (HP T st) 0 0 :=
  o_cV (g' := px_gi T) hd hm hl hv.1 hv.2 hq hqc hc hn hK hdd hS hw ⟨Nat.zero_le _, Nat.zero_le _⟩ (fun b _ => (hp_len T _).trans (hp_len T _).symm) K
theorem h_cVv {x : Option (px_S)} {F : px_S → Option β} (hd : decode Z.2.2.2.2.2.1 pc = .ok (.invokevirtual idx, 3)) (hm : px_MF M' n) (hl : Cond.methodLink Z.2.2.2.2.1.cls idx M'.1 ∈ px_T) (hv : px_MV M') {a ci : Nat} {fs : List Value} {q : vw_C} (hq : vwCl[ci]? = some q) (hqc : q.1 = M'.1.cls) (hc : (HP T st)[a]? = some (.inl (ci, fs))) (hn : as.length = n) (hdd : d' + 1 ≤ Z.1) (hS : S = as.reverse ++ .ref a :: S1) (hw : (S1.map fun v => v.category).sum ≤ 8) (hK : ∀ b, x = some b → px_K d' 0 0 M' (.ref a :: as) (HP T st) (px_gv T b).1 (px_gv T b).2) (K : ∀ b, x = some b → px_O Z g (F b) (pc + 3) L (S1) (HP T b) 0 0) : px_O Z g (x.bind F) pc L S (HP T st) 0 0 :=
  o_cV (g' := px_gv T) hd hm hl hv.1 hv.2 hq hqc hc hn hK hdd hS hw ⟨Nat.zero_le _, Nat.zero_le _⟩ (fun b _ => (hp_len T _).trans (hp_len T _).symm) K
theorem h_cVl {x : Option (Int64 × px_S)} {F : Int64 × px_S → Option β} (hd : decode Z.2.2.2.2.2.1 pc = .ok (.invokevirtual idx, 3)) (hm : px_MF M' n) (hl : Cond.methodLink Z.2.2.2.2.1.cls idx M'.1 ∈ px_T) (hv : px_MV M') {a ci : Nat} {fs : List Value} {q : vw_C} (hq : vwCl[ci]? = some q) (hqc : q.1 = M'.1.cls) (hc : (HP T st)[a]? = some (.inl (ci, fs))) (hn : as.length = n) (hdd : d' + 1 ≤ Z.1) (hS : S = as.reverse ++ .ref a :: S1) (hw : (S1.map fun v => v.category).sum ≤ 8) (hK : ∀ b, x = some b → px_K d' 0 0 M' (.ref a :: as) (HP T st) (px_gl T b).1 (px_gl T b).2) (K : ∀ b, x = some b → px_O Z g (F b) (pc + 3) L (.long b.1 :: S1) (HP T b.2) 0 0) : px_O Z g (x.bind F) pc L S (HP T st) 0 0 :=
  o_cV (g' := px_gl T) hd hm hl hv.1 hv.2 hq hqc hc hn hK hdd hS hw ⟨Nat.zero_le _, Nat.zero_le _⟩ (fun b _ => (hp_len T _).trans (hp_len T _).symm) K
theorem h_cVr {x : Option px_S} {F : px_S → Option β} {ra : Nat} (hd : decode Z.2.2.2.2.2.1 pc = .ok (.invokevirtual idx, 3)) (hm : px_MF M' n) (hl : Cond.methodLink Z.2.2.2.2.1.cls idx M'.1 ∈ px_T) (hv : px_MV M') {a ci : Nat} {fs : List Value} {q : vw_C} (hq : vwCl[ci]? = some q) (hqc : q.1 = M'.1.cls) (hc : (HP T st)[a]? = some (.inl (ci, fs))) (hn : as.length = n) (hdd : d' + 1 ≤ Z.1) (hS : S = as.reverse ++ .ref a :: S1) (hw : (S1.map fun v => v.category).sum ≤ 8) (hK : ∀ b, x = some b → px_K d' 0 0 M' (.ref a :: as) (HP T st) (px_gr T ra b).1 (px_gr T ra b).2) (K : ∀ b, x = some b → px_O Z g (F b) (pc + 3) L (.ref ra :: S1) (HP T b) 0 0) : px_O Z g (x.bind F) pc L S (HP T st) 0 0 :=
  o_cV (g' := px_gr T ra) hd hm hl hv.1 hv.2 hq hqc hc hn hK hdd hS hw ⟨Nat.zero_le _, Nat.zero_le _⟩ (fun b _ => (hp_len T _).trans (hp_len T _).symm) K
theorem h_cV0 {kc ks : Nat} {x : Option Int32} {F : Int32 → Option β} (hd : decode Z.2.2.2.2.2.1 pc = .ok (.invokevirtual idx, 3)) (hm : px_MF M' n) (hl : Cond.methodLink Z.2.2.2.2.1.cls idx M'.1 ∈ px_T) (hv : px_MV M') {a ci : Nat} {fs : List Value} {q : vw_C} (hq : vwCl[ci]? = some q) (hqc : q.1 = M'.1.cls) (hc : h[a]? = some (.inl (ci, fs))) (hn : as.length = n) (hdd : d' + 1 ≤ Z.1) (hS : S = as.reverse ++ .ref a :: S1) (hw : (S1.map fun v => v.category).sum ≤ 8) (hf : kc ≤ Z.2.1 ∧ ks ≤ Z.2.2.1) (hK : ∀ b, x = some b → px_K d' 0 0 M' (.ref a :: as) h (some (.int b)) h) (K : ∀ b, x = some b → px_O Z g (F b) (pc + 3) L (.int b :: S1) h kc ks) : px_O Z g (x.bind F) pc L S h kc ks :=
  o_cV (g' := px_g0 h) hd hm hl hv.1 hv.2 hq hqc hc hn hK hdd hS hw hf (fun b _ => rfl) K
theorem h_cVP {kc ks : Nat} {v : Int32} (hd : decode Z.2.2.2.2.2.1 pc = .ok (.invokevirtual idx, 3)) (hm : px_MF M' n) (hl : Cond.methodLink Z.2.2.2.2.1.cls idx M'.1 ∈ px_T) (hv : px_MV M') {a ci : Nat} {fs : List Value} {q : vw_C} (hq : vwCl[ci]? = some q) (hqc : q.1 = M'.1.cls) (hc : h[a]? = some (.inl (ci, fs))) (hn : as.length = n) (hdd : d' + 1 ≤ Z.1) (hS : S = as.reverse ++ .ref a :: S1) (hw : (S1.map fun v => v.category).sum ≤ 8) (hf : kc ≤ Z.2.1 ∧ ks ≤ Z.2.2.1) (hK : px_K d' 0 0 M' (.ref a :: as) h (some (.int v)) h) (K : px_O Z g res (pc + 3) L (.int v :: S1) h kc ks) : px_O Z g res pc L S h kc ks :=
  o_cV (x := some v) (F := fun _ => res) (g' := px_g0 h) hd hm hl hv.1 hv.2 hq hqc hc hn (fun b hb => by cases hb; exact hK) hdd hS hw hf (fun b _ => rfl) (fun b hb => by cases hb; exact K)
theorem h_cSi {x : Option (Int32 × px_S)} {F : Int32 × px_S → Option β} (hd : decode Z.2.2.2.2.2.1 pc = .ok (.invokestatic idx, 3)) (hm : px_MF M' n) (hl : Cond.methodLink Z.2.2.2.2.1.cls idx M'.1 ∈ px_T) (hst : Cond.static M'.1 ∈ px_T) (hn : as.length = n) (hdd : d' + 1 ≤ Z.1) (hS : S = as.reverse ++ S1) (hw : (S1.map fun v => v.category).sum ≤ 8) (hK : ∀ b, x = some b → px_K d' 0 0 M' as (HP T st) (px_gi T b).1 (px_gi T b).2) (K : ∀ b, x = some b → px_O Z g (F b) (pc + 3) L (.int b.1 :: S1) (HP T b.2) 0 0) : px_O Z g (x.bind F) pc L S (HP T st) 0 0 :=
  o_cS (g' := px_gi T) hd hm hl hst hn hK hdd hS hw ⟨Nat.zero_le _, Nat.zero_le _⟩ (fun b _ => (hp_len T _).trans (hp_len T _).symm) K
theorem h_cSv {x : Option (px_S)} {F : px_S → Option β} (hd : decode Z.2.2.2.2.2.1 pc = .ok (.invokestatic idx, 3)) (hm : px_MF M' n) (hl : Cond.methodLink Z.2.2.2.2.1.cls idx M'.1 ∈ px_T) (hst : Cond.static M'.1 ∈ px_T) (hn : as.length = n) (hdd : d' + 1 ≤ Z.1) (hS : S = as.reverse ++ S1) (hw : (S1.map fun v => v.category).sum ≤ 8) (hK : ∀ b, x = some b → px_K d' 0 0 M' as (HP T st) (px_gv T b).1 (px_gv T b).2) (K : ∀ b, x = some b → px_O Z g (F b) (pc + 3) L (S1) (HP T b) 0 0) : px_O Z g (x.bind F) pc L S (HP T st) 0 0 :=
  o_cS (g' := px_gv T) hd hm hl hst hn hK hdd hS hw ⟨Nat.zero_le _, Nat.zero_le _⟩ (fun b _ => (hp_len T _).trans (hp_len T _).symm) K
theorem h_cSl {x : Option (Int64 × px_S)} {F : Int64 × px_S → Option β} (hd : decode Z.2.2.2.2.2.1 pc = .ok (.invokestatic idx, 3)) (hm : px_MF M' n) (hl : Cond.methodLink Z.2.2.2.2.1.cls idx M'.1 ∈ px_T) (hst : Cond.static M'.1 ∈ px_T) (hn : as.length = n) (hdd : d' + 1 ≤ Z.1) (hS : S = as.reverse ++ S1) (hw : (S1.map fun v => v.category).sum ≤ 8) (hK : ∀ b, x = some b → px_K d' 0 0 M' as (HP T st) (px_gl T b).1 (px_gl T b).2) (K : ∀ b, x = some b → px_O Z g (F b) (pc + 3) L (.long b.1 :: S1) (HP T b.2) 0 0) : px_O Z g (x.bind F) pc L S (HP T st) 0 0 :=
  o_cS (g' := px_gl T) hd hm hl hst hn hK hdd hS hw ⟨Nat.zero_le _, Nat.zero_le _⟩ (fun b _ => (hp_len T _).trans (hp_len T _).symm) K
theorem h_cSr {x : Option px_S} {F : px_S → Option β} {ra : Nat} (hd : decode Z.2.2.2.2.2.1 pc = .ok (.invokestatic idx, 3)) (hm : px_MF M' n) (hl : Cond.methodLink Z.2.2.2.2.1.cls idx M'.1 ∈ px_T) (hst : Cond.static M'.1 ∈ px_T) (hn : as.length = n) (hdd : d' + 1 ≤ Z.1) (hS : S = as.reverse ++ S1) (hw : (S1.map fun v => v.category).sum ≤ 8) (hK : ∀ b, x = some b → px_K d' 0 0 M' as (HP T st) (px_gr T ra b).1 (px_gr T ra b).2) (K : ∀ b, x = some b → px_O Z g (F b) (pc + 3) L (.ref ra :: S1) (HP T b) 0 0) : px_O Z g (x.bind F) pc L S (HP T st) 0 0 :=
  o_cS (g' := px_gr T ra) hd hm hl hst hn hK hdd hS hw ⟨Nat.zero_le _, Nat.zero_le _⟩ (fun b _ => (hp_len T _).trans (hp_len T _).symm) K
theorem h_cS0 {kc ks : Nat} {x : Option Int32} {F : Int32 → Option β} (hd : decode Z.2.2.2.2.2.1 pc = .ok (.invokestatic idx, 3)) (hm : px_MF M' n) (hl : Cond.methodLink Z.2.2.2.2.1.cls idx M'.1 ∈ px_T) (hst : Cond.static M'.1 ∈ px_T) (hn : as.length = n) (hdd : d' + 1 ≤ Z.1) (hS : S = as.reverse ++ S1) (hw : (S1.map fun v => v.category).sum ≤ 8) (hf : kc ≤ Z.2.1 ∧ ks ≤ Z.2.2.1) (hK : ∀ b, x = some b → px_K d' 0 0 M' as h (some (.int b)) h) (K : ∀ b, x = some b → px_O Z g (F b) (pc + 3) L (.int b :: S1) h kc ks) : px_O Z g (x.bind F) pc L S h kc ks :=
  o_cS (g' := px_g0 h) hd hm hl hst hn hK hdd hS hw hf (fun b _ => rfl) K
theorem h_cSP {kc ks : Nat} {v : Int32} (hd : decode Z.2.2.2.2.2.1 pc = .ok (.invokestatic idx, 3)) (hm : px_MF M' n) (hl : Cond.methodLink Z.2.2.2.2.1.cls idx M'.1 ∈ px_T) (hst : Cond.static M'.1 ∈ px_T) (hn : as.length = n) (hdd : d' + 1 ≤ Z.1) (hS : S = as.reverse ++ S1) (hw : (S1.map fun v => v.category).sum ≤ 8) (hf : kc ≤ Z.2.1 ∧ ks ≤ Z.2.2.1) (hK : px_K d' 0 0 M' as h (some (.int v)) h) (K : px_O Z g res (pc + 3) L (.int v :: S1) h kc ks) : px_O Z g res pc L S h kc ks :=
  o_cS (x := some v) (F := fun _ => res) (g' := px_g0 h) hd hm hl hst hn (fun b hb => by cases hb; exact hK) hdd hS hw hf (fun b _ => rfl) (fun b hb => by cases hb; exact K)
theorem h_cNi {x : Option (Int32 × px_S)} {F : Int32 × px_S → Option β} (hd : decode Z.2.2.2.2.2.1 pc = .ok (.invokestatic idx, 3)) (hm : px_MF M' n) {host : String} (hl : Cond.methodLinkNest Z.2.2.2.2.1.cls idx M'.1 host ∈ px_Nt) (hst : Cond.static M'.1 ∈ px_T) (hn : as.length = n) (hdd : d' + 1 ≤ Z.1) (hS : S = as.reverse ++ S1) (hw : (S1.map fun v => v.category).sum ≤ 8) (hK : ∀ b, x = some b → px_K d' 0 0 M' as (HP T st) (px_gi T b).1 (px_gi T b).2) (K : ∀ b, x = some b → px_O Z g (F b) (pc + 3) L (.int b.1 :: S1) (HP T b.2) 0 0) : px_O Z g (x.bind F) pc L S (HP T st) 0 0 :=
  o_cSN (g' := px_gi T) hd hm hl hst hn hK hdd hS hw ⟨Nat.zero_le _, Nat.zero_le _⟩ (fun b _ => (hp_len T _).trans (hp_len T _).symm) K
theorem h_cNv {x : Option (px_S)} {F : px_S → Option β} (hd : decode Z.2.2.2.2.2.1 pc = .ok (.invokestatic idx, 3)) (hm : px_MF M' n) {host : String} (hl : Cond.methodLinkNest Z.2.2.2.2.1.cls idx M'.1 host ∈ px_Nt) (hst : Cond.static M'.1 ∈ px_T) (hn : as.length = n) (hdd : d' + 1 ≤ Z.1) (hS : S = as.reverse ++ S1) (hw : (S1.map fun v => v.category).sum ≤ 8) (hK : ∀ b, x = some b → px_K d' 0 0 M' as (HP T st) (px_gv T b).1 (px_gv T b).2) (K : ∀ b, x = some b → px_O Z g (F b) (pc + 3) L (S1) (HP T b) 0 0) : px_O Z g (x.bind F) pc L S (HP T st) 0 0 :=
  o_cSN (g' := px_gv T) hd hm hl hst hn hK hdd hS hw ⟨Nat.zero_le _, Nat.zero_le _⟩ (fun b _ => (hp_len T _).trans (hp_len T _).symm) K
theorem h_cNl {x : Option (Int64 × px_S)} {F : Int64 × px_S → Option β} (hd : decode Z.2.2.2.2.2.1 pc = .ok (.invokestatic idx, 3)) (hm : px_MF M' n) {host : String} (hl : Cond.methodLinkNest Z.2.2.2.2.1.cls idx M'.1 host ∈ px_Nt) (hst : Cond.static M'.1 ∈ px_T) (hn : as.length = n) (hdd : d' + 1 ≤ Z.1) (hS : S = as.reverse ++ S1) (hw : (S1.map fun v => v.category).sum ≤ 8) (hK : ∀ b, x = some b → px_K d' 0 0 M' as (HP T st) (px_gl T b).1 (px_gl T b).2) (K : ∀ b, x = some b → px_O Z g (F b) (pc + 3) L (.long b.1 :: S1) (HP T b.2) 0 0) : px_O Z g (x.bind F) pc L S (HP T st) 0 0 :=
  o_cSN (g' := px_gl T) hd hm hl hst hn hK hdd hS hw ⟨Nat.zero_le _, Nat.zero_le _⟩ (fun b _ => (hp_len T _).trans (hp_len T _).symm) K
theorem h_cNr {x : Option px_S} {F : px_S → Option β} {ra : Nat} (hd : decode Z.2.2.2.2.2.1 pc = .ok (.invokestatic idx, 3)) (hm : px_MF M' n) {host : String} (hl : Cond.methodLinkNest Z.2.2.2.2.1.cls idx M'.1 host ∈ px_Nt) (hst : Cond.static M'.1 ∈ px_T) (hn : as.length = n) (hdd : d' + 1 ≤ Z.1) (hS : S = as.reverse ++ S1) (hw : (S1.map fun v => v.category).sum ≤ 8) (hK : ∀ b, x = some b → px_K d' 0 0 M' as (HP T st) (px_gr T ra b).1 (px_gr T ra b).2) (K : ∀ b, x = some b → px_O Z g (F b) (pc + 3) L (.ref ra :: S1) (HP T b) 0 0) : px_O Z g (x.bind F) pc L S (HP T st) 0 0 :=
  o_cSN (g' := px_gr T ra) hd hm hl hst hn hK hdd hS hw ⟨Nat.zero_le _, Nat.zero_le _⟩ (fun b _ => (hp_len T _).trans (hp_len T _).symm) K
theorem h_cN0 {kc ks : Nat} {x : Option Int32} {F : Int32 → Option β} (hd : decode Z.2.2.2.2.2.1 pc = .ok (.invokestatic idx, 3)) (hm : px_MF M' n) {host : String} (hl : Cond.methodLinkNest Z.2.2.2.2.1.cls idx M'.1 host ∈ px_Nt) (hst : Cond.static M'.1 ∈ px_T) (hn : as.length = n) (hdd : d' + 1 ≤ Z.1) (hS : S = as.reverse ++ S1) (hw : (S1.map fun v => v.category).sum ≤ 8) (hf : kc ≤ Z.2.1 ∧ ks ≤ Z.2.2.1) (hK : ∀ b, x = some b → px_K d' 0 0 M' as h (some (.int b)) h) (K : ∀ b, x = some b → px_O Z g (F b) (pc + 3) L (.int b :: S1) h kc ks) : px_O Z g (x.bind F) pc L S h kc ks :=
  o_cSN (g' := px_g0 h) hd hm hl hst hn hK hdd hS hw hf (fun b _ => rfl) K
theorem h_cNP {kc ks : Nat} {v : Int32} (hd : decode Z.2.2.2.2.2.1 pc = .ok (.invokestatic idx, 3)) (hm : px_MF M' n) {host : String} (hl : Cond.methodLinkNest Z.2.2.2.2.1.cls idx M'.1 host ∈ px_Nt) (hst : Cond.static M'.1 ∈ px_T) (hn : as.length = n) (hdd : d' + 1 ≤ Z.1) (hS : S = as.reverse ++ S1) (hw : (S1.map fun v => v.category).sum ≤ 8) (hf : kc ≤ Z.2.1 ∧ ks ≤ Z.2.2.1) (hK : px_K d' 0 0 M' as h (some (.int v)) h) (K : px_O Z g res (pc + 3) L (.int v :: S1) h kc ks) : px_O Z g res pc L S h kc ks :=
  o_cSN (x := some v) (F := fun _ => res) (g' := px_g0 h) hd hm hl hst hn (fun b hb => by cases hb; exact hK) hdd hS hw hf (fun b _ => rfl) (fun b hb => by cases hb; exact K)
end PXQ
end
section
theorem zz_last : True := trivial
end
